set_option maxHeartbeats 4000000 in
set_option maxRecDepth 100000 in
theorem m_X10_hasCrew (l : Launch) (D : va_G) (cI cJ cB cP cM cZ : ClassId) (h0 : Nat) (h_s : Nat) (Fh : Nat → Value) (f_s : Nat → Int32) (bs : Nat → Int32) (sz : Nat) (e_s : Fh 6 = .ref h_s) (s_s_K0 : KW 0 f_s) (s_s_US : US bs f_s) (s_s_0 : SG 0 0 0 40 f_s) (s_s_105 : SG 105 108 0 11 f_s) (s_s_114 : SG 114 114 0 5 f_s) (s_s_130 : SG 130 133 0 11 f_s) (s_s_139 : SG 139 139 0 5 f_s) (s_s_153 : SG 153 153 0 44 f_s) (s_s_44 : SG 44 55 0 9 f_s) (s_s_5 : SG 5 5 0 12 f_s) (s_s_6 : SG 6 6 0 12 f_s) (s_s_7 : SG 7 7 0 6 f_s) : CI l yX10_hasCrew cX10_hasCrew 1 (some .boolean) { frames := 0, cells := 0, slots := 0, locals := 0 } (GG D cI cJ cB cP cM cZ) D [(h0, .inr (10, vL 67 Fh)), (h_s, .inl (cI, 335, .inl f_s))] sz [.ref h0] (fun (r : Int32) (u : va_W) => (r = 0 ∧ u = [(h0, .inr (10, vL 67 Fh)), (h_s, .inl (cI, 335, .inl f_s))]) ∨ (r = 1 ∧ u = [(h0, .inr (10, vL 67 Fh)), (h_s, .inl (cI, 335, .inl f_s))])) := by
  refine CI_mk (by decide) (Nat.le_of_ble_eq_true rfl) ?_
  intro p e s m below meth c A ls E hAe hG hsz hP hD hA hS hl
  obtain ⟨hx, hb, hr, hw, hown, hlocks, hml, hnm⟩ := E
  have hK := hG.1
  have hl : lv_has ls 1 [(0, .ref h0)] := hl
  refine lv_aload_n hx hb dX10_hasCrew_0 rfl (lv_at hl 0 rfl) ?_
  refine get_f (D := D) (ci := 10) (v := .ref h_s) (C := RX10) (T := TX10) (N := 67) hx hb hw inAX10 hown hK hP 0 rfl rfl 6 (by decide) (hw _ q_1267) (fun _ h9 => h9) e_s dX10_hasCrew_1 ?_
  refine lv_bipush (v := 104) hx hb dX10_hasCrew_4 (by decide) ?_
  refine iald_n hx hb hK hP 1 0 rfl rfl 104 rfl (Nat.le_of_ble_eq_true rfl) (Nat.le_of_ble_eq_true rfl) rfl dX10_hasCrew_6 ?_
  refine lv_topi (fun v1 ev1 => ?_)
  refine lv_iconst (v := 1) hx hb dX10_hasCrew_7 (by decide) ?_
  refine lv_icmp_ne (tgt := 15) hx hb dX10_hasCrew_8 (by decide) (fun c2 => ?_) (fun c2 => ?_)
  · have dc2 : v1.toInt ≠ 1 := ne_i (a := v1.toInt) (b := 1) rfl rfl c2
    refine lv_iconst (v := 0) hx hb dX10_hasCrew_15 (by decide) ?_
    exact ret_i (v := 0) hx hb hr hlocks hS hP hD dX10_hasCrew_16 rfl (Nat.le_of_ble_eq_true rfl) (Nat.le_of_ble_eq_true rfl) (Or.inl ⟨rfl, rfl⟩)
  · have dc2 : v1.toInt = 1 := eq_i (a := v1.toInt) (b := 1) rfl rfl c2
    have k3 : 1 ≤ v1.toInt ∧ v1.toInt ≤ 1 := ⟨Int.le_trans (Int.le_refl _) (Int.le_of_eq dc2.symm), Int.le_trans (Int.le_of_eq dc2) (Int.le_refl _)⟩
    refine lv_iconst (v := 1) hx hb dX10_hasCrew_11 (by decide) ?_
    refine lv_goto (tgt := 16) hx hb dX10_hasCrew_12 (by decide) ?_
    exact ret_i (v := 1) hx hb hr hlocks hS hP hD dX10_hasCrew_16 rfl (Nat.le_of_ble_eq_true rfl) (Nat.le_of_ble_eq_true rfl) (Or.inr ⟨rfl, rfl⟩)
set_option maxHeartbeats 4000000 in
set_option maxRecDepth 100000 in
theorem m_X10_placeOf (l : Launch) (D : va_G) (cI cJ cB cP cM cZ : ClassId) (h0 : Nat) (h_s : Nat) (Fh : Nat → Value) (f_s : Nat → Int32) (p0 : Int32) (bs : Nat → Int32) (sz : Nat) (e_s : Fh 6 = .ref h_s) (s_s_K0 : KW 0 f_s) (s_s_US : US bs f_s) (s_s_0 : SG 0 0 0 40 f_s) (s_s_105 : SG 105 108 0 11 f_s) (s_s_114 : SG 114 114 0 5 f_s) (s_s_130 : SG 130 133 0 11 f_s) (s_s_139 : SG 139 139 0 5 f_s) (s_s_153 : SG 153 153 0 44 f_s) (s_s_44 : SG 44 55 0 9 f_s) (s_s_5 : SG 5 5 0 12 f_s) (s_s_6 : SG 6 6 0 12 f_s) (s_s_7 : SG 7 7 0 6 f_s) : CI l yX10_placeOf cX10_placeOf 3 (some .int) { frames := 1, cells := 0, slots := 0, locals := 20 } (GG D cI cJ cB cP cM cZ) D [(h0, .inr (10, vL 67 Fh)), (h_s, .inl (cI, 335, .inl f_s))] sz [.ref h0, .int p0] (fun (r : Int32) (u : va_W) => IR (-1) 3 r ∧ u = [(h0, .inr (10, vL 67 Fh)), (h_s, .inl (cI, 335, .inl f_s))]) := by
  refine CI_mk (by decide) (Nat.le_of_ble_eq_true rfl) ?_
  intro p e s m below meth c A ls E hAe hG hsz hP hD hA hS hl
  obtain ⟨hx, hb, hr, hw, hown, hlocks, hml, hnm⟩ := E
  have hK := hG.1
  have hl : lv_has ls 3 [(0, .ref h0), (1, .int p0)] := hl
  refine lv_iconst (v := 0) hx hb dX10_placeOf_0 (by decide) ?_
  refine lv_istore_n (lv' := [(2, .int 0), (0, .ref h0), (1, .int p0)]) hx hb dX10_placeOf_1 rfl hl (by decide) rfl (fun ls hl => ?_)
  refine mloop (α := (Int32)) (nL := 3) (D := D) (A := A) (H0 := s.heap) (fun a => (4 - a.toInt).toNat) (fun a => IR 0 4 a) (fun a => [(h0, .inr (10, vL 67 Fh)), (h_s, .inl (cI, 335, .inl f_s))]) (fun a => [(2, .int a), (0, .ref h0), (1, .int p0)]) (fun H locs ls => W p l e ({ frames := 1, cells := 0, slots := 0, locals := 20 } : Room) s m [.ref h0, .int p0].toArray below meth c H locs 0 0 (MQ below (va_Qi (fun (r : Int32) (u : va_W) => IR (-1) 3 r ∧ u = [(h0, .inr (10, vL 67 Fh)), (h_s, .inl (cI, 335, .inl f_s))]) (PO D A) A) [.ref h0, .int p0].toArray s 0 0 A) (F0 m 2 ls [])) ?_ (0) (show 0 ≤ (0 : Int32).toInt ∧ (0 : Int32).toInt ≤ 4 by decide) _ _ _ hP hD hS hl
  rintro u1 i2 ih H locs ls hP hD hS hl
  have i2 : 0 ≤ u1.toInt ∧ u1.toInt ≤ 4 := i2
  have hP : va_P D vwCl [(h0, .inr (10, vL 67 Fh)), (h_s, .inl (cI, 335, .inl f_s))] H := hP
  have hD : va_D A [(h0, .inr (10, vL 67 Fh)), (h_s, .inl (cI, 335, .inl f_s))] := hD
  have hl : lv_has ls 3 [(2, .int u1), (0, .ref h0), (1, .int p0)] := hl
  refine lv_iload_n hx hb dX10_placeOf_2 rfl (lv_at hl 0 rfl) ?_
  refine lv_iconst (v := 4) hx hb dX10_placeOf_3 (by decide) ?_
  refine lv_icmp_ge (tgt := 35) hx hb dX10_placeOf_4 (by decide) (fun c3 => ?_) (fun c3 => ?_)
  · have dc3 : 4 ≤ u1.toInt := le_i (a := 4) (b := u1.toInt) rfl rfl c3
    have k4 : 4 ≤ u1.toInt ∧ u1.toInt ≤ 4 := ⟨Int.le_trans (Int.le_refl _) dc3, i2.2⟩
    refine lv_iconst (v := (-1)) hx hb dX10_placeOf_35 (by decide) ?_
    exact ret_i (v := (-1)) hx hb hr hlocks hS hP hD dX10_placeOf_36 rfl (Nat.le_of_ble_eq_true rfl) (Nat.le_of_ble_eq_true rfl) ⟨(show (-1) ≤ ((-1) : Int32).toInt ∧ ((-1) : Int32).toInt ≤ 3 by decide), rfl⟩
  · have dc3 : u1.toInt < 4 := nle_i (a := 4) (b := u1.toInt) rfl rfl c3
    have k5 : 0 ≤ u1.toInt ∧ u1.toInt ≤ 3 := ⟨i2.1, up_lt dc3 (Int.le_refl _) (by decide)⟩
    refine lv_aload_n hx hb dX10_placeOf_7 rfl (lv_at hl 1 rfl) ?_
    refine call_Vi (wr := []) (As := []) (rest := []) hx hb hml hown hw (m_X10_hasCrew l D cI cJ cB cP cM cZ h0 h_s Fh f_s bs _ e_s s_s_K0 s_s_US s_s_0 s_s_105 s_s_114 s_s_130 s_s_139 s_s_153 s_s_44 s_s_5 s_s_6 s_s_7) wV_X10_281_X10_hasCrew dX10_placeOf_8 hK hP hD hS hA [0, 1] [] rfl rfl (by decide) (by decide) (by decide) 0 10 rfl rfl GG.fb hG.at hl.1 rfl (Nat.le_of_ble_eq_true rfl) ⟨(Nat.le_of_ble_eq_true rfl), (Nat.le_of_ble_eq_true rfl)⟩ ⟨(Nat.le_of_ble_eq_true rfl), (Nat.le_of_ble_eq_true rfl)⟩ (fun r6 u H locs hp hP hD hS => ?_)
    rcases hp with ⟨rfl, rfl⟩ | ⟨rfl, rfl⟩
    · have hP : va_P D vwCl [(h0, .inr (10, vL 67 Fh)), (h_s, .inl (cI, 335, .inl f_s))] H := hP
      have hD : va_D A [(h0, .inr (10, vL 67 Fh)), (h_s, .inl (cI, 335, .inl f_s))] := hD
      refine W.widen (k := 0) (n := 0) (Nat.le_of_ble_eq_true rfl) (Nat.le_of_ble_eq_true rfl) ?_
      refine lv_if_eq (tgt := 35) hx hb dX10_placeOf_11 (by decide) (fun _ => ?_) (fun g => absurd (by decide) g)
      refine lv_iconst (v := (-1)) hx hb dX10_placeOf_35 (by decide) ?_
      exact ret_i (v := (-1)) hx hb hr hlocks hS hP hD dX10_placeOf_36 rfl (Nat.le_of_ble_eq_true rfl) (Nat.le_of_ble_eq_true rfl) ⟨(show (-1) ≤ ((-1) : Int32).toInt ∧ ((-1) : Int32).toInt ≤ 3 by decide), rfl⟩
    · have hP : va_P D vwCl [(h0, .inr (10, vL 67 Fh)), (h_s, .inl (cI, 335, .inl f_s))] H := hP
      have hD : va_D A [(h0, .inr (10, vL 67 Fh)), (h_s, .inl (cI, 335, .inl f_s))] := hD
      refine W.widen (k := 0) (n := 0) (Nat.le_of_ble_eq_true rfl) (Nat.le_of_ble_eq_true rfl) ?_
      refine lv_if_eq (tgt := 35) hx hb dX10_placeOf_11 (by decide) (fun g => absurd g (by decide)) (fun _ => ?_)
      refine lv_aload_n hx hb dX10_placeOf_14 rfl (lv_at hl 1 rfl) ?_
      refine get_f (D := D) (ci := 10) (v := .ref h_s) (C := RX10) (T := TX10) (N := 67) hx hb hw inAX10 hown hK hP 0 rfl rfl 6 (by decide) (hw _ q_1267) (fun _ h9 => h9) e_s dX10_placeOf_15 ?_
      refine lv_bipush (v := 105) hx hb dX10_placeOf_18 (by decide) ?_
      refine lv_iload_n hx hb dX10_placeOf_20 rfl (lv_at hl 0 rfl) ?_
      refine lv_iadd hx hb dX10_placeOf_21 ?_
      refine lv_topi (fun v8 ev8 => ?_)
      have bv8 : v8.toInt = 105 + u1.toInt := by rw [ev8]; exact add_k rfl rfl ⟨Int.le_refl _, Int.le_refl _⟩ k5 (by decide)
      have k9 : 105 ≤ v8.toInt ∧ v8.toInt ≤ 108 := add_r bv8 ⟨Int.le_refl _, Int.le_refl _⟩ k5 (by decide)
      refine va_iald hx hb hK hP 1 0 rfl rfl (ix_k k9 (by decide) (by decide)) dX10_placeOf_22 ?_
      refine lv_topi (fun v10 ev10 => ?_)
      have k11 : 0 ≤ v10.toInt ∧ v10.toInt ≤ 11 := by rw [ev10]; exact s_s_105.at _ (Int.le_trans (by decide) k9.1) (Int.le_trans k9.2 (by decide))
      refine lv_iload_n hx hb dX10_placeOf_23 rfl (lv_at hl 2 rfl) ?_
      refine lv_icmp_ne (tgt := 29) hx hb dX10_placeOf_24 (by decide) (fun c12 => ?_) (fun c12 => ?_)
      · have dc12 : v10.toInt ≠ p0.toInt := ne_i (a := v10.toInt) (b := p0.toInt) rfl rfl c12
        obtain ⟨v13, ev13⟩ : ∃ z : Int32, z = u1 + 1 := ⟨_, rfl⟩
        have bv13 : v13.toInt = u1.toInt + 1 := by rw [ev13]; exact add_k rfl rfl k5 ⟨Int.le_refl _, Int.le_refl _⟩ (by decide)
        have k14 : 1 ≤ v13.toInt ∧ v13.toInt ≤ 4 := add_r bv13 k5 ⟨Int.le_refl _, Int.le_refl _⟩ (by decide)
        refine lv_iinc (v := v13) (lv' := [(2, .int v13), (0, .ref h0), (1, .int p0)]) hx hb dX10_placeOf_29 hl (k := 0) rfl (by rw [ev13]; rfl) (by decide) rfl (fun ls hl => ?_)
        refine lv_goto (tgt := 2) hx hb dX10_placeOf_32 (by decide) ?_
        exact ih (v13) (ir_wk k14 (by decide) (by decide)) (by show (4 - v13.toInt).toNat < (4 - u1.toInt).toNat; omega) _ _ _ hP hD hS (lv_sub hl [0, 1, 2] rfl)
      · have dc12 : v10.toInt = p0.toInt := eq_i (a := v10.toInt) (b := p0.toInt) rfl rfl c12
        have k15 : 0 ≤ p0.toInt ∧ p0.toInt ≤ 11 := ⟨Int.le_trans k11.1 (Int.le_of_eq dc12), Int.le_trans (Int.le_of_eq dc12.symm) k11.2⟩
        refine lv_iload_n hx hb dX10_placeOf_27 rfl (lv_at hl 0 rfl) ?_
        exact ret_i (v := u1) hx hb hr hlocks hS hP hD dX10_placeOf_28 rfl (Nat.le_of_ble_eq_true rfl) (Nat.le_of_ble_eq_true rfl) ⟨(ir_wk k5 (by decide) (by decide)), rfl⟩
set_option maxHeartbeats 4000000 in
set_option maxRecDepth 100000 in
theorem m_X10_man (l : Launch) (D : va_G) (cI cJ cB cP cM cZ : ClassId) (h0 : Nat) (h_s : Nat) (Fh : Nat → Value) (f_s : Nat → Int32) (p0 : Int32) (p1 : Int32) (bs : Nat → Int32) (sz : Nat) (e_s : Fh 6 = .ref h_s) (s_s_K0 : KW 0 f_s) (s_s_US : US bs f_s) (s_s_0 : SG 0 0 0 40 f_s) (s_s_105 : SG 105 108 0 11 f_s) (s_s_114 : SG 114 114 0 5 f_s) (s_s_130 : SG 130 133 0 11 f_s) (s_s_139 : SG 139 139 0 5 f_s) (s_s_153 : SG 153 153 0 44 f_s) (s_s_44 : SG 44 55 0 9 f_s) (s_s_5 : SG 5 5 0 12 f_s) (s_s_6 : SG 6 6 0 12 f_s) (s_s_7 : SG 7 7 0 6 f_s) : CI l yX10_man cX10_man 4 (some .int) { frames := 2, cells := 0, slots := 0, locals := 42 } (GG D cI cJ cB cP cM cZ) D [(h0, .inr (10, vL 67 Fh)), (h_s, .inl (cI, 335, .inl f_s))] sz [.ref h0, .int p0, .int p1] (fun (r : Int32) (u : va_W) => ∃ (Gh : Nat → Value) (y_thrown : Int32), SAME [0] Fh Gh ∧ Gh 0 = .int y_thrown ∧ IR 0 1 y_thrown ∧ u = [(h0, .inr (10, vL 67 Gh)), (h_s, .inl (cI, 335, .inl f_s))]) := by
  refine CI_mk (by decide) (Nat.le_of_ble_eq_true rfl) ?_
  intro p e s m below meth c A ls E hAe hG hsz hP hD hA hS hl
  obtain ⟨hx, hb, hr, hw, hown, hlocks, hml, hnm⟩ := E
  have hK := hG.1
  have hl : lv_has ls 4 [(0, .ref h0), (1, .int p0), (2, .int p1)] := hl
  refine lv_aload_n hx hb dX10_man_0 rfl (lv_at hl 0 rfl) ?_
  refine lv_iload_n hx hb dX10_man_1 rfl (lv_at hl 1 rfl) ?_
  refine lv_iconst (v := 0) hx hb dX10_man_2 (by decide) ?_
  refine lv_aload_n hx hb dX10_man_3 rfl (lv_at hl 0 rfl) ?_
  refine get_f (D := D) (ci := 10) (v := .ref h_s) (C := RX10) (T := TX10) (N := 67) hx hb hw inAX10 hown hK hP 0 rfl rfl 6 (by decide) (hw _ q_1267) (fun _ h9 => h9) e_s dX10_man_4 ?_
  refine lv_iconst (v := 5) hx hb dX10_man_7 (by decide) ?_
  refine iald_n hx hb hK hP 1 0 rfl rfl 5 rfl (Nat.le_of_ble_eq_true rfl) (Nat.le_of_ble_eq_true rfl) rfl dX10_man_8 ?_
  refine lv_topi (fun v1 ev1 => ?_)
  have k2 : 0 ≤ v1.toInt ∧ v1.toInt ≤ 12 := by rw [ev1]; exact s_s_5.atN 5 (by decide) (by decide)
  refine lv_iconst (v := 1) hx hb dX10_man_9 (by decide) ?_
  refine lv_isub hx hb dX10_man_10 ?_
  refine lv_topi (fun v3 ev3 => ?_)
  have bv3 : v3.toInt = v1.toInt - 1 := by rw [ev3]; exact sub_k rfl rfl k2 ⟨Int.le_refl _, Int.le_refl _⟩ (by decide)
  have k4 : (-1) ≤ v3.toInt ∧ v3.toInt ≤ 11 := sub_r bv3 k2 ⟨Int.le_refl _, Int.le_refl _⟩ (by decide)
  refine call_Si (wr := [(h0, .inr (10, vL 67 Fh)), (h_s, .inl (cI, 335, .inl f_s))]) (As := [.int p0, .int 0, .int v3]) (rest := [.ref h0]) hx hb hml hown hw (m_X10_isIn l D cI cJ cB cP cM cZ p0 0 v3 _ ) wS_X10_211_X10_isIn dX10_man_11 hP hD hS hA [] [0, 1] rfl rfl (by decide) (by decide) (by decide) GG.fb hG.at hl.1 rfl (Nat.le_of_ble_eq_true rfl) ⟨(Nat.le_of_ble_eq_true rfl), (Nat.le_of_ble_eq_true rfl)⟩ ⟨(Nat.le_of_ble_eq_true rfl), (Nat.le_of_ble_eq_true rfl)⟩ (fun r5 u H locs hp hP hD hS => ?_)
  have zl0 : (0 : Int32).toInt = 0 := by decide
  rcases hp with ⟨t6, rfl, rfl⟩ | ⟨t7, t8, rfl, rfl⟩ | ⟨t9, t10, rfl, rfl⟩
  · have hP : va_P D vwCl [(h0, .inr (10, vL 67 Fh)), (h_s, .inl (cI, 335, .inl f_s))] H := hP
    have hD : va_D A [(h0, .inr (10, vL 67 Fh)), (h_s, .inl (cI, 335, .inl f_s))] := hD
    refine W.widen (k := 0) (n := 0) (Nat.le_of_ble_eq_true rfl) (Nat.le_of_ble_eq_true rfl) ?_
    have k12 : (-2147483648) ≤ p0.toInt ∧ p0.toInt ≤ (-1) := ⟨(ir_any _).1, up_lt t6 (Int.le_refl _) (by decide)⟩
    refine lv_if_eq (tgt := 26) hx hb dX10_man_14 (by decide) (fun _ => ?_) (fun g => absurd (by decide) g)
    refine lv_iconst (v := 1) hx hb dX10_man_26 (by decide) ?_
    refine lv_goto (tgt := 31) hx hb dX10_man_27 (by decide) ?_
    refine call_Vi (wr := [(h_s, .inl (cI, 335, .inl f_s))]) (As := [.int 1]) (rest := []) hx hb hml hown hw (m_X10_throwsIf l D cI cJ cB cP cM cZ h0 Fh 1 _ (show 0 ≤ (1 : Int32).toInt ∧ (1 : Int32).toInt ≤ 1 by decide)) wV_X10_284_X10_throwsIf dX10_man_31 hK hP hD hS hA [0] [1] rfl rfl (by decide) (by decide) (by decide) 0 10 rfl rfl GG.fb hG.at hl.1 rfl (Nat.le_of_ble_eq_true rfl) ⟨(Nat.le_of_ble_eq_true rfl), (Nat.le_of_ble_eq_true rfl)⟩ ⟨(Nat.le_of_ble_eq_true rfl), (Nat.le_of_ble_eq_true rfl)⟩ (fun r13 u H locs hp hP hD hS => ?_)
    have zl1 : (1 : Int32).toInt = 1 := by decide
    rcases hp with ⟨F14, t15, t16, t17, t18, rfl, rfl⟩ | ⟨F19, t20, t21, t22, t23, rfl, rfl⟩
    · have hP : va_P D vwCl [(h_s, .inl (cI, 335, .inl f_s)), (h0, .inr (10, vL 67 F14))] H := hP
      have hD : va_D A [(h_s, .inl (cI, 335, .inl f_s)), (h0, .inr (10, vL 67 F14))] := hD
      refine W.widen (k := 0) (n := 0) (Nat.le_of_ble_eq_true rfl) (Nat.le_of_ble_eq_true rfl) ?_
      exact absurd t18 (by decide)
    · have hP : va_P D vwCl [(h_s, .inl (cI, 335, .inl f_s)), (h0, .inr (10, vL 67 F19))] H := hP
      have hD : va_D A [(h_s, .inl (cI, 335, .inl f_s)), (h0, .inr (10, vL 67 F19))] := hD
      refine W.widen (k := 0) (n := 0) (Nat.le_of_ble_eq_true rfl) (Nat.le_of_ble_eq_true rfl) ?_
      refine lv_if_eq (tgt := 39) hx hb dX10_man_34 (by decide) (fun g => absurd g (by decide)) (fun _ => ?_)
      refine lv_iconst (v := 0) hx hb dX10_man_37 (by decide) ?_
      exact ret_i (v := 0) hx hb hr hlocks hS (hP.sub (ws' := [(h0, .inr (10, vL 67 F19)), (h_s, .inl (cI, 335, .inl f_s))]) [1, 0] rfl) (hD.sub (ws' := [(h0, .inr (10, vL 67 F19)), (h_s, .inl (cI, 335, .inl f_s))]) [1, 0] (by decide) rfl) dX10_man_38 rfl (Nat.le_of_ble_eq_true rfl) (Nat.le_of_ble_eq_true rfl) ⟨F19, 1, (SAME.tr SAME.rf t20 (by decide)), t21, (show 0 ≤ (1 : Int32).toInt ∧ (1 : Int32).toInt ≤ 1 by decide), rfl⟩
  · have hP : va_P D vwCl [(h0, .inr (10, vL 67 Fh)), (h_s, .inl (cI, 335, .inl f_s))] H := hP
    have hD : va_D A [(h0, .inr (10, vL 67 Fh)), (h_s, .inl (cI, 335, .inl f_s))] := hD
    refine W.widen (k := 0) (n := 0) (Nat.le_of_ble_eq_true rfl) (Nat.le_of_ble_eq_true rfl) ?_
    have k25 : 0 ≤ p0.toInt ∧ p0.toInt ≤ 2147483647 := ⟨Int.le_trans (Int.le_refl _) t7, (ir_any _).2⟩
    refine lv_if_eq (tgt := 26) hx hb dX10_man_14 (by decide) (fun _ => ?_) (fun g => absurd (by decide) g)
    refine lv_iconst (v := 1) hx hb dX10_man_26 (by decide) ?_
    refine lv_goto (tgt := 31) hx hb dX10_man_27 (by decide) ?_
    refine call_Vi (wr := [(h_s, .inl (cI, 335, .inl f_s))]) (As := [.int 1]) (rest := []) hx hb hml hown hw (m_X10_throwsIf l D cI cJ cB cP cM cZ h0 Fh 1 _ (show 0 ≤ (1 : Int32).toInt ∧ (1 : Int32).toInt ≤ 1 by decide)) wV_X10_284_X10_throwsIf dX10_man_31 hK hP hD hS hA [0] [1] rfl rfl (by decide) (by decide) (by decide) 0 10 rfl rfl GG.fb hG.at hl.1 rfl (Nat.le_of_ble_eq_true rfl) ⟨(Nat.le_of_ble_eq_true rfl), (Nat.le_of_ble_eq_true rfl)⟩ ⟨(Nat.le_of_ble_eq_true rfl), (Nat.le_of_ble_eq_true rfl)⟩ (fun r26 u H locs hp hP hD hS => ?_)
    have zl1 : (1 : Int32).toInt = 1 := by decide
    rcases hp with ⟨F27, t28, t29, t30, t31, rfl, rfl⟩ | ⟨F32, t33, t34, t35, t36, rfl, rfl⟩
    · have hP : va_P D vwCl [(h_s, .inl (cI, 335, .inl f_s)), (h0, .inr (10, vL 67 F27))] H := hP
      have hD : va_D A [(h_s, .inl (cI, 335, .inl f_s)), (h0, .inr (10, vL 67 F27))] := hD
      refine W.widen (k := 0) (n := 0) (Nat.le_of_ble_eq_true rfl) (Nat.le_of_ble_eq_true rfl) ?_
      exact absurd t31 (by decide)
    · have hP : va_P D vwCl [(h_s, .inl (cI, 335, .inl f_s)), (h0, .inr (10, vL 67 F32))] H := hP
      have hD : va_D A [(h_s, .inl (cI, 335, .inl f_s)), (h0, .inr (10, vL 67 F32))] := hD
      refine W.widen (k := 0) (n := 0) (Nat.le_of_ble_eq_true rfl) (Nat.le_of_ble_eq_true rfl) ?_
      refine lv_if_eq (tgt := 39) hx hb dX10_man_34 (by decide) (fun g => absurd g (by decide)) (fun _ => ?_)
      refine lv_iconst (v := 0) hx hb dX10_man_37 (by decide) ?_
      exact ret_i (v := 0) hx hb hr hlocks hS (hP.sub (ws' := [(h0, .inr (10, vL 67 F32)), (h_s, .inl (cI, 335, .inl f_s))]) [1, 0] rfl) (hD.sub (ws' := [(h0, .inr (10, vL 67 F32)), (h_s, .inl (cI, 335, .inl f_s))]) [1, 0] (by decide) rfl) dX10_man_38 rfl (Nat.le_of_ble_eq_true rfl) (Nat.le_of_ble_eq_true rfl) ⟨F32, 1, (SAME.tr SAME.rf t33 (by decide)), t34, (show 0 ≤ (1 : Int32).toInt ∧ (1 : Int32).toInt ≤ 1 by decide), rfl⟩
  · have hP : va_P D vwCl [(h0, .inr (10, vL 67 Fh)), (h_s, .inl (cI, 335, .inl f_s))] H := hP
    have hD : va_D A [(h0, .inr (10, vL 67 Fh)), (h_s, .inl (cI, 335, .inl f_s))] := hD
    refine W.widen (k := 0) (n := 0) (Nat.le_of_ble_eq_true rfl) (Nat.le_of_ble_eq_true rfl) ?_
    have k38 : 0 ≤ p0.toInt ∧ p0.toInt ≤ 2147483647 := ⟨Int.le_trans (Int.le_refl _) t9, (ir_any _).2⟩
    have k39 : 0 ≤ p0.toInt ∧ p0.toInt ≤ 11 := ⟨k38.1, Int.le_trans t10 k4.2⟩
    have k40 : 0 ≤ v3.toInt ∧ v3.toInt ≤ 11 := ⟨Int.le_trans k38.1 t10, k4.2⟩
    have k41 : 1 ≤ v1.toInt ∧ v1.toInt ≤ 12 := ⟨lin_lo (lin_m bv3) k40.1 (by decide), k2.2⟩
    refine lv_if_eq (tgt := 26) hx hb dX10_man_14 (by decide) (fun g => absurd g (by decide)) (fun _ => ?_)
    refine lv_iload_n hx hb dX10_man_17 rfl (lv_at hl 2 rfl) ?_
    refine lv_iconst (v := 0) hx hb dX10_man_18 (by decide) ?_
    refine lv_iconst (v := 4) hx hb dX10_man_19 (by decide) ?_
    refine call_Si (wr := [(h0, .inr (10, vL 67 Fh)), (h_s, .inl (cI, 335, .inl f_s))]) (As := [.int p1, .int 0, .int 4]) (rest := [.ref h0]) hx hb hml hown hw (m_X10_isIn l D cI cJ cB cP cM cZ p1 0 4 _ ) wS_X10_211_X10_isIn dX10_man_20 hP hD hS hA [] [0, 1] rfl rfl (by decide) (by decide) (by decide) GG.fb hG.at hl.1 rfl (Nat.le_of_ble_eq_true rfl) ⟨(Nat.le_of_ble_eq_true rfl), (Nat.le_of_ble_eq_true rfl)⟩ ⟨(Nat.le_of_ble_eq_true rfl), (Nat.le_of_ble_eq_true rfl)⟩ (fun r42 u H locs hp hP hD hS => ?_)
    have zl4 : (4 : Int32).toInt = 4 := by decide
    rcases hp with ⟨t43, rfl, rfl⟩ | ⟨t44, t45, rfl, rfl⟩ | ⟨t46, t47, rfl, rfl⟩
    · have hP : va_P D vwCl [(h0, .inr (10, vL 67 Fh)), (h_s, .inl (cI, 335, .inl f_s))] H := hP
      have hD : va_D A [(h0, .inr (10, vL 67 Fh)), (h_s, .inl (cI, 335, .inl f_s))] := hD
      refine W.widen (k := 0) (n := 0) (Nat.le_of_ble_eq_true rfl) (Nat.le_of_ble_eq_true rfl) ?_
      have k49 : (-2147483648) ≤ p1.toInt ∧ p1.toInt ≤ (-1) := ⟨(ir_any _).1, up_lt t43 (Int.le_refl _) (by decide)⟩
      refine lv_if_ne (tgt := 30) hx hb dX10_man_23 (by decide) (fun g => absurd (by decide) g) (fun _ => ?_)
      refine lv_iconst (v := 1) hx hb dX10_man_26 (by decide) ?_
      refine lv_goto (tgt := 31) hx hb dX10_man_27 (by decide) ?_
      refine call_Vi (wr := [(h_s, .inl (cI, 335, .inl f_s))]) (As := [.int 1]) (rest := []) hx hb hml hown hw (m_X10_throwsIf l D cI cJ cB cP cM cZ h0 Fh 1 _ (show 0 ≤ (1 : Int32).toInt ∧ (1 : Int32).toInt ≤ 1 by decide)) wV_X10_284_X10_throwsIf dX10_man_31 hK hP hD hS hA [0] [1] rfl rfl (by decide) (by decide) (by decide) 0 10 rfl rfl GG.fb hG.at hl.1 rfl (Nat.le_of_ble_eq_true rfl) ⟨(Nat.le_of_ble_eq_true rfl), (Nat.le_of_ble_eq_true rfl)⟩ ⟨(Nat.le_of_ble_eq_true rfl), (Nat.le_of_ble_eq_true rfl)⟩ (fun r50 u H locs hp hP hD hS => ?_)
      have zl1 : (1 : Int32).toInt = 1 := by decide
      rcases hp with ⟨F51, t52, t53, t54, t55, rfl, rfl⟩ | ⟨F56, t57, t58, t59, t60, rfl, rfl⟩
      · have hP : va_P D vwCl [(h_s, .inl (cI, 335, .inl f_s)), (h0, .inr (10, vL 67 F51))] H := hP
        have hD : va_D A [(h_s, .inl (cI, 335, .inl f_s)), (h0, .inr (10, vL 67 F51))] := hD
        refine W.widen (k := 0) (n := 0) (Nat.le_of_ble_eq_true rfl) (Nat.le_of_ble_eq_true rfl) ?_
        exact absurd t55 (by decide)
      · have hP : va_P D vwCl [(h_s, .inl (cI, 335, .inl f_s)), (h0, .inr (10, vL 67 F56))] H := hP
        have hD : va_D A [(h_s, .inl (cI, 335, .inl f_s)), (h0, .inr (10, vL 67 F56))] := hD
        refine W.widen (k := 0) (n := 0) (Nat.le_of_ble_eq_true rfl) (Nat.le_of_ble_eq_true rfl) ?_
        refine lv_if_eq (tgt := 39) hx hb dX10_man_34 (by decide) (fun g => absurd g (by decide)) (fun _ => ?_)
        refine lv_iconst (v := 0) hx hb dX10_man_37 (by decide) ?_
        exact ret_i (v := 0) hx hb hr hlocks hS (hP.sub (ws' := [(h0, .inr (10, vL 67 F56)), (h_s, .inl (cI, 335, .inl f_s))]) [1, 0] rfl) (hD.sub (ws' := [(h0, .inr (10, vL 67 F56)), (h_s, .inl (cI, 335, .inl f_s))]) [1, 0] (by decide) rfl) dX10_man_38 rfl (Nat.le_of_ble_eq_true rfl) (Nat.le_of_ble_eq_true rfl) ⟨F56, 1, (SAME.tr SAME.rf t57 (by decide)), t58, (show 0 ≤ (1 : Int32).toInt ∧ (1 : Int32).toInt ≤ 1 by decide), rfl⟩
    · have hP : va_P D vwCl [(h0, .inr (10, vL 67 Fh)), (h_s, .inl (cI, 335, .inl f_s))] H := hP
      have hD : va_D A [(h0, .inr (10, vL 67 Fh)), (h_s, .inl (cI, 335, .inl f_s))] := hD
      refine W.widen (k := 0) (n := 0) (Nat.le_of_ble_eq_true rfl) (Nat.le_of_ble_eq_true rfl) ?_
      have k62 : 0 ≤ p1.toInt ∧ p1.toInt ≤ 2147483647 := ⟨Int.le_trans (Int.le_refl _) t44, (ir_any _).2⟩
      have k63 : 5 ≤ p1.toInt ∧ p1.toInt ≤ 2147483647 := ⟨lo_lt t45 (Int.le_refl _) (by decide), k62.2⟩
      refine lv_if_ne (tgt := 30) hx hb dX10_man_23 (by decide) (fun g => absurd (by decide) g) (fun _ => ?_)
      refine lv_iconst (v := 1) hx hb dX10_man_26 (by decide) ?_
      refine lv_goto (tgt := 31) hx hb dX10_man_27 (by decide) ?_
      refine call_Vi (wr := [(h_s, .inl (cI, 335, .inl f_s))]) (As := [.int 1]) (rest := []) hx hb hml hown hw (m_X10_throwsIf l D cI cJ cB cP cM cZ h0 Fh 1 _ (show 0 ≤ (1 : Int32).toInt ∧ (1 : Int32).toInt ≤ 1 by decide)) wV_X10_284_X10_throwsIf dX10_man_31 hK hP hD hS hA [0] [1] rfl rfl (by decide) (by decide) (by decide) 0 10 rfl rfl GG.fb hG.at hl.1 rfl (Nat.le_of_ble_eq_true rfl) ⟨(Nat.le_of_ble_eq_true rfl), (Nat.le_of_ble_eq_true rfl)⟩ ⟨(Nat.le_of_ble_eq_true rfl), (Nat.le_of_ble_eq_true rfl)⟩ (fun r64 u H locs hp hP hD hS => ?_)
      have zl1 : (1 : Int32).toInt = 1 := by decide
      rcases hp with ⟨F65, t66, t67, t68, t69, rfl, rfl⟩ | ⟨F70, t71, t72, t73, t74, rfl, rfl⟩
      · have hP : va_P D vwCl [(h_s, .inl (cI, 335, .inl f_s)), (h0, .inr (10, vL 67 F65))] H := hP
        have hD : va_D A [(h_s, .inl (cI, 335, .inl f_s)), (h0, .inr (10, vL 67 F65))] := hD
        refine W.widen (k := 0) (n := 0) (Nat.le_of_ble_eq_true rfl) (Nat.le_of_ble_eq_true rfl) ?_
        exact absurd t69 (by decide)
      · have hP : va_P D vwCl [(h_s, .inl (cI, 335, .inl f_s)), (h0, .inr (10, vL 67 F70))] H := hP
        have hD : va_D A [(h_s, .inl (cI, 335, .inl f_s)), (h0, .inr (10, vL 67 F70))] := hD
        refine W.widen (k := 0) (n := 0) (Nat.le_of_ble_eq_true rfl) (Nat.le_of_ble_eq_true rfl) ?_
        refine lv_if_eq (tgt := 39) hx hb dX10_man_34 (by decide) (fun g => absurd g (by decide)) (fun _ => ?_)
        refine lv_iconst (v := 0) hx hb dX10_man_37 (by decide) ?_
        exact ret_i (v := 0) hx hb hr hlocks hS (hP.sub (ws' := [(h0, .inr (10, vL 67 F70)), (h_s, .inl (cI, 335, .inl f_s))]) [1, 0] rfl) (hD.sub (ws' := [(h0, .inr (10, vL 67 F70)), (h_s, .inl (cI, 335, .inl f_s))]) [1, 0] (by decide) rfl) dX10_man_38 rfl (Nat.le_of_ble_eq_true rfl) (Nat.le_of_ble_eq_true rfl) ⟨F70, 1, (SAME.tr SAME.rf t71 (by decide)), t72, (show 0 ≤ (1 : Int32).toInt ∧ (1 : Int32).toInt ≤ 1 by decide), rfl⟩
    · have hP : va_P D vwCl [(h0, .inr (10, vL 67 Fh)), (h_s, .inl (cI, 335, .inl f_s))] H := hP
      have hD : va_D A [(h0, .inr (10, vL 67 Fh)), (h_s, .inl (cI, 335, .inl f_s))] := hD
      refine W.widen (k := 0) (n := 0) (Nat.le_of_ble_eq_true rfl) (Nat.le_of_ble_eq_true rfl) ?_
      have k76 : 0 ≤ p1.toInt ∧ p1.toInt ≤ 2147483647 := ⟨Int.le_trans (Int.le_refl _) t46, (ir_any _).2⟩
      have k77 : 0 ≤ p1.toInt ∧ p1.toInt ≤ 4 := ⟨k76.1, Int.le_trans t47 (Int.le_refl _)⟩
      refine lv_if_ne (tgt := 30) hx hb dX10_man_23 (by decide) (fun _ => ?_) (fun g => absurd g (by decide))
      refine lv_iconst (v := 0) hx hb dX10_man_30 (by decide) ?_
      refine call_Vi (wr := [(h_s, .inl (cI, 335, .inl f_s))]) (As := [.int 0]) (rest := []) hx hb hml hown hw (m_X10_throwsIf l D cI cJ cB cP cM cZ h0 Fh 0 _ (show 0 ≤ (0 : Int32).toInt ∧ (0 : Int32).toInt ≤ 1 by decide)) wV_X10_284_X10_throwsIf dX10_man_31 hK hP hD hS hA [0] [1] rfl rfl (by decide) (by decide) (by decide) 0 10 rfl rfl GG.fb hG.at hl.1 rfl (Nat.le_of_ble_eq_true rfl) ⟨(Nat.le_of_ble_eq_true rfl), (Nat.le_of_ble_eq_true rfl)⟩ ⟨(Nat.le_of_ble_eq_true rfl), (Nat.le_of_ble_eq_true rfl)⟩ (fun r78 u H locs hp hP hD hS => ?_)
      rcases hp with ⟨F79, t80, t81, t82, t83, rfl, rfl⟩ | ⟨F84, t85, t86, t87, t88, rfl, rfl⟩
      · have hP : va_P D vwCl [(h_s, .inl (cI, 335, .inl f_s)), (h0, .inr (10, vL 67 F79))] H := hP
        have hD : va_D A [(h_s, .inl (cI, 335, .inl f_s)), (h0, .inr (10, vL 67 F79))] := hD
        refine W.widen (k := 0) (n := 0) (Nat.le_of_ble_eq_true rfl) (Nat.le_of_ble_eq_true rfl) ?_
        refine lv_if_eq (tgt := 39) hx hb dX10_man_34 (by decide) (fun _ => ?_) (fun g => absurd (by decide) g)
        refine lv_aload_n hx hb dX10_man_39 rfl (lv_at hl 0 rfl) ?_
        refine lv_iload_n hx hb dX10_man_40 rfl (lv_at hl 1 rfl) ?_
        have n90 : F79 6 = .ref h_s := (SAME.at t80 (by decide) e_s)
        refine call_Vi (wr := []) (As := [.int p0]) (rest := []) hx hb hml hown hw (m_X10_placeOf l D cI cJ cB cP cM cZ h0 h_s F79 f_s p0 bs _ n90 s_s_K0 s_s_US s_s_0 s_s_105 s_s_114 s_s_130 s_s_139 s_s_153 s_s_44 s_s_5 s_s_6 s_s_7) wV_X10_288_X10_placeOf dX10_man_41 hK hP hD hS hA [1, 0] [] rfl rfl (by decide) (by decide) (by decide) 0 10 rfl rfl GG.fb hG.at hl.1 rfl (Nat.le_of_ble_eq_true rfl) ⟨(Nat.le_of_ble_eq_true rfl), (Nat.le_of_ble_eq_true rfl)⟩ ⟨(Nat.le_of_ble_eq_true rfl), (Nat.le_of_ble_eq_true rfl)⟩ (fun r91 u H locs hp hP hD hS => ?_)
        obtain ⟨t92, rfl⟩ := hp
        have hP : va_P D vwCl [(h0, .inr (10, vL 67 F79)), (h_s, .inl (cI, 335, .inl f_s))] H := hP
        have hD : va_D A [(h0, .inr (10, vL 67 F79)), (h_s, .inl (cI, 335, .inl f_s))] := hD
        refine W.widen (k := 0) (n := 0) (Nat.le_of_ble_eq_true rfl) (Nat.le_of_ble_eq_true rfl) ?_
        refine lv_istore_n (lv' := [(3, .int r91), (0, .ref h0), (1, .int p0), (2, .int p1)]) hx hb dX10_man_44 rfl hl (by decide) rfl (fun ls hl => ?_)
        refine lv_iload_n hx hb dX10_man_45 rfl (lv_at hl 3 rfl) ?_
        by_cases k94 : p1 = 0
        · have dk94 : p1.toInt = 0 := eq_i rfl rfl k94
          have k95 : 0 ≤ p1.toInt ∧ p1.toInt ≤ 0 := ⟨k77.1, Int.le_trans (Int.le_of_eq dk94) (Int.le_refl _)⟩
          refine lv_ci (y := 0) k94 ?_
          refine lv_tableIn (tgt := 76) (off := 30) hx hb dX10_man_46 (by decide) (by decide) (by decide) (by decide) ?_
          refine lv_aload_n hx hb dX10_man_76 rfl (lv_at hl 1 rfl) ?_
          refine get_f (D := D) (ci := 10) (v := .ref h_s) (C := RX10) (T := TX10) (N := 67) hx hb hw inAX10 hown hK hP 0 rfl rfl 6 (by decide) (hw _ q_1267) (fun _ h9 => h9) n90 dX10_man_77 ?_
          refine lv_bipush (v := 8) hx hb dX10_man_80 (by decide) ?_
          refine lv_iload_n hx hb dX10_man_82 rfl (lv_at hl 2 rfl) ?_
          refine lv_iadd hx hb dX10_man_83 ?_
          refine lv_topi (fun v96 ev96 => ?_)
          have bv96 : v96.toInt = 8 + p0.toInt := by rw [ev96]; exact add_k rfl rfl ⟨Int.le_refl _, Int.le_refl _⟩ k39 (by decide)
          have k97 : 8 ≤ v96.toInt ∧ v96.toInt ≤ 19 := add_r bv96 ⟨Int.le_refl _, Int.le_refl _⟩ k39 (by decide)
          refine va_iald hx hb hK hP 1 0 rfl rfl (ix_k k97 (by decide) (by decide)) dX10_man_84 ?_
          refine lv_topi (fun v98 ev98 => ?_)
          exact ret_i (v := v98) hx hb hr hlocks hS hP hD dX10_man_85 rfl (Nat.le_of_ble_eq_true rfl) (Nat.le_of_ble_eq_true rfl) ⟨F79, 0, (SAME.tr SAME.rf t80 (by decide)), t81, (show 0 ≤ (0 : Int32).toInt ∧ (0 : Int32).toInt ≤ 1 by decide), rfl⟩
        by_cases k99 : p1 = 1
        · have dk99 : p1.toInt = 1 := eq_i rfl rfl k99
          have k100 : 1 ≤ p1.toInt ∧ p1.toInt ≤ 1 := ⟨Int.le_trans (Int.le_refl _) (Int.le_of_eq dk99.symm), Int.le_trans (Int.le_of_eq dk99) (Int.le_refl _)⟩
          refine lv_ci (y := 1) k99 ?_
          refine lv_tableIn (tgt := 86) (off := 40) hx hb dX10_man_46 (by decide) (by decide) (by decide) (by decide) ?_
          refine lv_aload_n hx hb dX10_man_86 rfl (lv_at hl 1 rfl) ?_
          refine get_f (D := D) (ci := 10) (v := .ref h_s) (C := RX10) (T := TX10) (N := 67) hx hb hw inAX10 hown hK hP 0 rfl rfl 6 (by decide) (hw _ q_1267) (fun _ h9 => h9) n90 dX10_man_87 ?_
          refine lv_bipush (v := 20) hx hb dX10_man_90 (by decide) ?_
          refine lv_iload_n hx hb dX10_man_92 rfl (lv_at hl 2 rfl) ?_
          refine lv_iadd hx hb dX10_man_93 ?_
          refine lv_topi (fun v101 ev101 => ?_)
          have bv101 : v101.toInt = 20 + p0.toInt := by rw [ev101]; exact add_k rfl rfl ⟨Int.le_refl _, Int.le_refl _⟩ k39 (by decide)
          have k102 : 20 ≤ v101.toInt ∧ v101.toInt ≤ 31 := add_r bv101 ⟨Int.le_refl _, Int.le_refl _⟩ k39 (by decide)
          refine va_iald hx hb hK hP 1 0 rfl rfl (ix_k k102 (by decide) (by decide)) dX10_man_94 ?_
          refine lv_topi (fun v103 ev103 => ?_)
          exact ret_i (v := v103) hx hb hr hlocks hS hP hD dX10_man_95 rfl (Nat.le_of_ble_eq_true rfl) (Nat.le_of_ble_eq_true rfl) ⟨F79, 0, (SAME.tr SAME.rf t80 (by decide)), t81, (show 0 ≤ (0 : Int32).toInt ∧ (0 : Int32).toInt ≤ 1 by decide), rfl⟩
        by_cases k104 : p1 = 2
        · have dk104 : p1.toInt = 2 := eq_i rfl rfl k104
          have k105 : 2 ≤ p1.toInt ∧ p1.toInt ≤ 2 := ⟨Int.le_trans (Int.le_refl _) (Int.le_of_eq dk104.symm), Int.le_trans (Int.le_of_eq dk104) (Int.le_refl _)⟩
          refine lv_ci (y := 2) k104 ?_
          refine lv_tableIn (tgt := 96) (off := 50) hx hb dX10_man_46 (by decide) (by decide) (by decide) (by decide) ?_
          refine lv_aload_n hx hb dX10_man_96 rfl (lv_at hl 1 rfl) ?_
          refine get_f (D := D) (ci := 10) (v := .ref h_s) (C := RX10) (T := TX10) (N := 67) hx hb hw inAX10 hown hK hP 0 rfl rfl 6 (by decide) (hw _ q_1267) (fun _ h9 => h9) n90 dX10_man_97 ?_
          refine lv_bipush (v := 32) hx hb dX10_man_100 (by decide) ?_
          refine lv_iload_n hx hb dX10_man_102 rfl (lv_at hl 2 rfl) ?_
          refine lv_iadd hx hb dX10_man_103 ?_
          refine lv_topi (fun v106 ev106 => ?_)
          have bv106 : v106.toInt = 32 + p0.toInt := by rw [ev106]; exact add_k rfl rfl ⟨Int.le_refl _, Int.le_refl _⟩ k39 (by decide)
          have k107 : 32 ≤ v106.toInt ∧ v106.toInt ≤ 43 := add_r bv106 ⟨Int.le_refl _, Int.le_refl _⟩ k39 (by decide)
          refine va_iald hx hb hK hP 1 0 rfl rfl (ix_k k107 (by decide) (by decide)) dX10_man_104 ?_
          refine lv_topi (fun v108 ev108 => ?_)
          exact ret_i (v := v108) hx hb hr hlocks hS hP hD dX10_man_105 rfl (Nat.le_of_ble_eq_true rfl) (Nat.le_of_ble_eq_true rfl) ⟨F79, 0, (SAME.tr SAME.rf t80 (by decide)), t81, (show 0 ≤ (0 : Int32).toInt ∧ (0 : Int32).toInt ≤ 1 by decide), rfl⟩
        by_cases k109 : p1 = 3
        · have dk109 : p1.toInt = 3 := eq_i rfl rfl k109
          have k110 : 3 ≤ p1.toInt ∧ p1.toInt ≤ 3 := ⟨Int.le_trans (Int.le_refl _) (Int.le_of_eq dk109.symm), Int.le_trans (Int.le_of_eq dk109) (Int.le_refl _)⟩
          refine lv_ci (y := 3) k109 ?_
          refine lv_tableIn (tgt := 106) (off := 60) hx hb dX10_man_46 (by decide) (by decide) (by decide) (by decide) ?_
          refine lv_iload_n hx hb dX10_man_106 rfl (lv_at hl 0 rfl) ?_
          exact ret_i (v := r91) hx hb hr hlocks hS hP hD dX10_man_107 rfl (Nat.le_of_ble_eq_true rfl) (Nat.le_of_ble_eq_true rfl) ⟨F79, 0, (SAME.tr SAME.rf t80 (by decide)), t81, (show 0 ≤ (0 : Int32).toInt ∧ (0 : Int32).toInt ≤ 1 by decide), rfl⟩
        have dk94 : p1.toInt ≠ 0 := ne_i rfl rfl k94
        have k111 : 1 ≤ p1.toInt ∧ p1.toInt ≤ 4 := ⟨ne_lo dk94 k77.1 ⟨Int.le_refl _, Int.le_refl _⟩ (by decide), k77.2⟩
        have dk99 : p1.toInt ≠ 1 := ne_i rfl rfl k99
        have k112 : 2 ≤ p1.toInt ∧ p1.toInt ≤ 4 := ⟨ne_lo dk99 k111.1 ⟨Int.le_refl _, Int.le_refl _⟩ (by decide), k111.2⟩
        have dk104 : p1.toInt ≠ 2 := ne_i rfl rfl k104
        have k113 : 3 ≤ p1.toInt ∧ p1.toInt ≤ 4 := ⟨ne_lo dk104 k112.1 ⟨Int.le_refl _, Int.le_refl _⟩ (by decide), k112.2⟩
        have dk109 : p1.toInt ≠ 3 := ne_i rfl rfl k109
        have k114 : 4 ≤ p1.toInt ∧ p1.toInt ≤ 4 := ⟨ne_lo dk109 k113.1 ⟨Int.le_refl _, Int.le_refl _⟩ (by decide), k113.2⟩
        refine lv_tableOut (tgt := 108) hx hb dX10_man_46 (by omega) (by decide) ?_
        refine lv_iload_n hx hb dX10_man_108 rfl (lv_at hl 0 rfl) ?_
        refine lv_if_ge (tgt := 116) hx hb dX10_man_109 (by decide) (fun c115 => ?_) (fun c115 => ?_)
        · have dc115 : 0 ≤ r91.toInt := le_i (a := 0) (b := r91.toInt) rfl rfl c115
          have k116 : 0 ≤ r91.toInt ∧ r91.toInt ≤ 3 := ⟨Int.le_trans (Int.le_refl _) dc115, t92.2⟩
          refine lv_aload_n hx hb dX10_man_116 rfl (lv_at hl 1 rfl) ?_
          refine get_f (D := D) (ci := 10) (v := .ref h_s) (C := RX10) (T := TX10) (N := 67) hx hb hw inAX10 hown hK hP 0 rfl rfl 6 (by decide) (hw _ q_1267) (fun _ h9 => h9) n90 dX10_man_117 ?_
          refine lv_bipush (v := 109) hx hb dX10_man_120 (by decide) ?_
          refine lv_iload_n hx hb dX10_man_122 rfl (lv_at hl 0 rfl) ?_
          refine lv_iadd hx hb dX10_man_123 ?_
          refine lv_topi (fun v117 ev117 => ?_)
          have bv117 : v117.toInt = 109 + r91.toInt := by rw [ev117]; exact add_k rfl rfl ⟨Int.le_refl _, Int.le_refl _⟩ k116 (by decide)
          have k118 : 109 ≤ v117.toInt ∧ v117.toInt ≤ 112 := add_r bv117 ⟨Int.le_refl _, Int.le_refl _⟩ k116 (by decide)
          refine va_iald hx hb hK hP 1 0 rfl rfl (ix_k k118 (by decide) (by decide)) dX10_man_124 ?_
          refine lv_topi (fun v119 ev119 => ?_)
          exact ret_i (v := v119) hx hb hr hlocks hS hP hD dX10_man_125 rfl (Nat.le_of_ble_eq_true rfl) (Nat.le_of_ble_eq_true rfl) ⟨F79, 0, (SAME.tr SAME.rf t80 (by decide)), t81, (show 0 ≤ (0 : Int32).toInt ∧ (0 : Int32).toInt ≤ 1 by decide), rfl⟩
        · have dc115 : r91.toInt < 0 := nle_i (a := 0) (b := r91.toInt) rfl rfl c115
          have k120 : (-1) ≤ r91.toInt ∧ r91.toInt ≤ (-1) := ⟨t92.1, up_lt dc115 (Int.le_refl _) (by decide)⟩
          refine lv_iconst (v := (-1)) hx hb dX10_man_112 (by decide) ?_
          refine lv_goto (tgt := 125) hx hb dX10_man_113 (by decide) ?_
          exact ret_i (v := (-1)) hx hb hr hlocks hS hP hD dX10_man_125 rfl (Nat.le_of_ble_eq_true rfl) (Nat.le_of_ble_eq_true rfl) ⟨F79, 0, (SAME.tr SAME.rf t80 (by decide)), t81, (show 0 ≤ (0 : Int32).toInt ∧ (0 : Int32).toInt ≤ 1 by decide), rfl⟩
      · have hP : va_P D vwCl [(h_s, .inl (cI, 335, .inl f_s)), (h0, .inr (10, vL 67 F84))] H := hP
        have hD : va_D A [(h_s, .inl (cI, 335, .inl f_s)), (h0, .inr (10, vL 67 F84))] := hD
        refine W.widen (k := 0) (n := 0) (Nat.le_of_ble_eq_true rfl) (Nat.le_of_ble_eq_true rfl) ?_
        exact absurd t88 (by decide)
set_option maxHeartbeats 4000000 in
set_option maxRecDepth 100000 in
theorem m_X10_isBend (l : Launch) (D : va_G) (cI cJ cB cP cM cZ : ClassId) (h0 : Nat) (h_s : Nat) (Fh : Nat → Value) (f_s : Nat → Int32) (p0 : Int32) (bs : Nat → Int32) (sz : Nat) (e_s : Fh 6 = .ref h_s) (s_s_K0 : KW 0 f_s) (s_s_US : US bs f_s) (s_s_0 : SG 0 0 0 40 f_s) (s_s_105 : SG 105 108 0 11 f_s) (s_s_114 : SG 114 114 0 5 f_s) (s_s_130 : SG 130 133 0 11 f_s) (s_s_139 : SG 139 139 0 5 f_s) (s_s_153 : SG 153 153 0 44 f_s) (s_s_44 : SG 44 55 0 9 f_s) (s_s_5 : SG 5 5 0 12 f_s) (s_s_6 : SG 6 6 0 12 f_s) (s_s_7 : SG 7 7 0 6 f_s) : CI l yX10_isBend cX10_isBend 2 (some .boolean) { frames := 1, cells := 0, slots := 0, locals := 22 } (GG D cI cJ cB cP cM cZ) D [(h0, .inr (10, vL 67 Fh)), (h_s, .inl (cI, 335, .inl f_s))] sz [.ref h0, .int p0] (fun (r : Int32) (u : va_W) => (p0.toInt < 0 ∧ r = 0 ∧ u = [(h0, .inr (10, vL 67 Fh)), (h_s, .inl (cI, 335, .inl f_s))]) ∨ (0 ≤ p0.toInt ∧ (-1) < p0.toInt ∧ r = 0 ∧ u = [(h0, .inr (10, vL 67 Fh)), (h_s, .inl (cI, 335, .inl f_s))]) ∨ (0 ≤ p0.toInt ∧ p0.toInt ≤ 11 ∧ r = 1 ∧ u = [(h0, .inr (10, vL 67 Fh)), (h_s, .inl (cI, 335, .inl f_s))])) := by
  refine CI_mk (by decide) (Nat.le_of_ble_eq_true rfl) ?_
  intro p e s m below meth c A ls E hAe hG hsz hP hD hA hS hl
  obtain ⟨hx, hb, hr, hw, hown, hlocks, hml, hnm⟩ := E
  have hK := hG.1
  have hl : lv_has ls 2 [(0, .ref h0), (1, .int p0)] := hl
  refine lv_iload_n hx hb dX10_isBend_0 rfl (lv_at hl 1 rfl) ?_
  refine lv_iconst (v := 0) hx hb dX10_isBend_1 (by decide) ?_
  refine lv_aload_n hx hb dX10_isBend_2 rfl (lv_at hl 0 rfl) ?_
  refine get_f (D := D) (ci := 10) (v := .ref h_s) (C := RX10) (T := TX10) (N := 67) hx hb hw inAX10 hown hK hP 0 rfl rfl 6 (by decide) (hw _ q_1267) (fun _ h9 => h9) e_s dX10_isBend_3 ?_
  refine lv_bipush (v := 6) hx hb dX10_isBend_6 (by decide) ?_
  refine iald_n hx hb hK hP 1 0 rfl rfl 6 rfl (Nat.le_of_ble_eq_true rfl) (Nat.le_of_ble_eq_true rfl) rfl dX10_isBend_8 ?_
  refine lv_topi (fun v1 ev1 => ?_)
  have k2 : 0 ≤ v1.toInt ∧ v1.toInt ≤ 12 := by rw [ev1]; exact s_s_6.atN 6 (by decide) (by decide)
  refine lv_iconst (v := 1) hx hb dX10_isBend_9 (by decide) ?_
  refine lv_isub hx hb dX10_isBend_10 ?_
  refine lv_topi (fun v3 ev3 => ?_)
  have bv3 : v3.toInt = v1.toInt - 1 := by rw [ev3]; exact sub_k rfl rfl k2 ⟨Int.le_refl _, Int.le_refl _⟩ (by decide)
  have k4 : (-1) ≤ v3.toInt ∧ v3.toInt ≤ 11 := sub_r bv3 k2 ⟨Int.le_refl _, Int.le_refl _⟩ (by decide)
  refine call_Si (wr := [(h0, .inr (10, vL 67 Fh)), (h_s, .inl (cI, 335, .inl f_s))]) (As := [.int p0, .int 0, .int v3]) (rest := []) hx hb hml hown hw (m_X10_isIn l D cI cJ cB cP cM cZ p0 0 v3 _ ) wS_X10_211_X10_isIn dX10_isBend_11 hP hD hS hA [] [0, 1] rfl rfl (by decide) (by decide) (by decide) GG.fb hG.at hl.1 rfl (Nat.le_of_ble_eq_true rfl) ⟨(Nat.le_of_ble_eq_true rfl), (Nat.le_of_ble_eq_true rfl)⟩ ⟨(Nat.le_of_ble_eq_true rfl), (Nat.le_of_ble_eq_true rfl)⟩ (fun r5 u H locs hp hP hD hS => ?_)
  have zl0 : (0 : Int32).toInt = 0 := by decide
  rcases hp with ⟨t6, rfl, rfl⟩ | ⟨t7, t8, rfl, rfl⟩ | ⟨t9, t10, rfl, rfl⟩
  · have hP : va_P D vwCl [(h0, .inr (10, vL 67 Fh)), (h_s, .inl (cI, 335, .inl f_s))] H := hP
    have hD : va_D A [(h0, .inr (10, vL 67 Fh)), (h_s, .inl (cI, 335, .inl f_s))] := hD
    refine W.widen (k := 0) (n := 0) (Nat.le_of_ble_eq_true rfl) (Nat.le_of_ble_eq_true rfl) ?_
    have k12 : (-2147483648) ≤ p0.toInt ∧ p0.toInt ≤ (-1) := ⟨(ir_any _).1, up_lt t6 (Int.le_refl _) (by decide)⟩
    exact ret_i (v := 0) hx hb hr hlocks hS hP hD dX10_isBend_14 rfl (Nat.le_of_ble_eq_true rfl) (Nat.le_of_ble_eq_true rfl) (Or.inl ⟨t6, rfl, rfl⟩)
  · have hP : va_P D vwCl [(h0, .inr (10, vL 67 Fh)), (h_s, .inl (cI, 335, .inl f_s))] H := hP
    have hD : va_D A [(h0, .inr (10, vL 67 Fh)), (h_s, .inl (cI, 335, .inl f_s))] := hD
    refine W.widen (k := 0) (n := 0) (Nat.le_of_ble_eq_true rfl) (Nat.le_of_ble_eq_true rfl) ?_
    have k13 : 0 ≤ p0.toInt ∧ p0.toInt ≤ 2147483647 := ⟨Int.le_trans (Int.le_refl _) t7, (ir_any _).2⟩
    exact ret_i (v := 0) hx hb hr hlocks hS hP hD dX10_isBend_14 rfl (Nat.le_of_ble_eq_true rfl) (Nat.le_of_ble_eq_true rfl) (Or.inr (Or.inl ⟨t7, (by omega), rfl, rfl⟩))
  · have hP : va_P D vwCl [(h0, .inr (10, vL 67 Fh)), (h_s, .inl (cI, 335, .inl f_s))] H := hP
    have hD : va_D A [(h0, .inr (10, vL 67 Fh)), (h_s, .inl (cI, 335, .inl f_s))] := hD
    refine W.widen (k := 0) (n := 0) (Nat.le_of_ble_eq_true rfl) (Nat.le_of_ble_eq_true rfl) ?_
    have k14 : 0 ≤ p0.toInt ∧ p0.toInt ≤ 2147483647 := ⟨Int.le_trans (Int.le_refl _) t9, (ir_any _).2⟩
    have k15 : 0 ≤ p0.toInt ∧ p0.toInt ≤ 11 := ⟨k14.1, Int.le_trans t10 k4.2⟩
    have k16 : 0 ≤ v3.toInt ∧ v3.toInt ≤ 11 := ⟨Int.le_trans k14.1 t10, k4.2⟩
    have k17 : 1 ≤ v1.toInt ∧ v1.toInt ≤ 12 := ⟨lin_lo (lin_m bv3) k16.1 (by decide), k2.2⟩
    exact ret_i (v := 1) hx hb hr hlocks hS hP hD dX10_isBend_14 rfl (Nat.le_of_ble_eq_true rfl) (Nat.le_of_ble_eq_true rfl) (Or.inr (Or.inr ⟨t9, (by omega), rfl, rfl⟩))
set_option maxHeartbeats 4000000 in
set_option maxRecDepth 100000 in
theorem m_X10_bend (l : Launch) (D : va_G) (cI cJ cB cP cM cZ : ClassId) (h0 : Nat) (h_s : Nat) (Fh : Nat → Value) (f_s : Nat → Int32) (p0 : Int32) (p1 : Int32) (bs : Nat → Int32) (sz : Nat) (e_s : Fh 6 = .ref h_s) (s_s_K0 : KW 0 f_s) (s_s_US : US bs f_s) (s_s_0 : SG 0 0 0 40 f_s) (s_s_105 : SG 105 108 0 11 f_s) (s_s_114 : SG 114 114 0 5 f_s) (s_s_130 : SG 130 133 0 11 f_s) (s_s_139 : SG 139 139 0 5 f_s) (s_s_153 : SG 153 153 0 44 f_s) (s_s_44 : SG 44 55 0 9 f_s) (s_s_5 : SG 5 5 0 12 f_s) (s_s_6 : SG 6 6 0 12 f_s) (s_s_7 : SG 7 7 0 6 f_s) : CI l yX10_bend cX10_bend 3 (some .int) { frames := 2, cells := 0, slots := 0, locals := 43 } (GG D cI cJ cB cP cM cZ) D [(h0, .inr (10, vL 67 Fh)), (h_s, .inl (cI, 335, .inl f_s))] sz [.ref h0, .int p0, .int p1] (fun (r : Int32) (u : va_W) => ∃ (Gh : Nat → Value), SAME [0] Fh Gh ∧ Gh 0 = .int 0 ∧ u = [(h0, .inr (10, vL 67 Gh)), (h_s, .inl (cI, 335, .inl f_s))]) := by
  refine CI_mk (by decide) (Nat.le_of_ble_eq_true rfl) ?_
  intro p e s m below meth c A ls E hAe hG hsz hP hD hA hS hl
  obtain ⟨hx, hb, hr, hw, hown, hlocks, hml, hnm⟩ := E
  have hK := hG.1
  have hl : lv_has ls 3 [(0, .ref h0), (1, .int p0), (2, .int p1)] := hl
  refine lv_aload_n hx hb dX10_bend_0 rfl (lv_at hl 0 rfl) ?_
  refine lv_iconst (v := 0) hx hb dX10_bend_1 (by decide) ?_
  refine put_f (D := D) (ci := 10) (v := .int 0) (ty := .int) (C := RX10) (T := TX10) (N := 67) hx hb hw inAX10 tyX10 tyX10_ok nmX10 hown hK hP hD hS 0 rfl rfl 0 (by decide) (hw _ q_1261) (fun _ h9 => h9) rfl (by decide +kernel) rfl rfl dX10_bend_2 (fun H locs F1 eF1 hP hD hS => ?_)
  have hP : va_P D vwCl [(h0, .inr (10, vL 67 F1)), (h_s, .inl (cI, 335, .inl f_s))] H := hP
  have hD : va_D A [(h0, .inr (10, vL 67 F1)), (h_s, .inl (cI, 335, .inl f_s))] := hD
  refine lv_aload_n hx hb dX10_bend_5 rfl (lv_at hl 0 rfl) ?_
  refine lv_iload_n hx hb dX10_bend_6 rfl (lv_at hl 1 rfl) ?_
  have n2 : F1 6 = .ref h_s := (get_ne eF1 (by decide) e_s)
  refine call_Vi (wr := []) (As := [.int p0]) (rest := []) hx hb hml hown hw (m_X10_isBend l D cI cJ cB cP cM cZ h0 h_s F1 f_s p0 bs _ n2 s_s_K0 s_s_US s_s_0 s_s_105 s_s_114 s_s_130 s_s_139 s_s_153 s_s_44 s_s_5 s_s_6 s_s_7) wV_X10_292_X10_isBend dX10_bend_7 hK hP hD hS hA [0, 1] [] rfl rfl (by decide) (by decide) (by decide) 0 10 rfl rfl GG.fb hG.at hl.1 rfl (Nat.le_of_ble_eq_true rfl) ⟨(Nat.le_of_ble_eq_true rfl), (Nat.le_of_ble_eq_true rfl)⟩ ⟨(Nat.le_of_ble_eq_true rfl), (Nat.le_of_ble_eq_true rfl)⟩ (fun r3 u H locs hp hP hD hS => ?_)
  rcases hp with ⟨t4, rfl, rfl⟩ | ⟨t5, t6, rfl, rfl⟩ | ⟨t7, t8, rfl, rfl⟩
  · have hP : va_P D vwCl [(h0, .inr (10, vL 67 F1)), (h_s, .inl (cI, 335, .inl f_s))] H := hP
    have hD : va_D A [(h0, .inr (10, vL 67 F1)), (h_s, .inl (cI, 335, .inl f_s))] := hD
    refine W.widen (k := 0) (n := 0) (Nat.le_of_ble_eq_true rfl) (Nat.le_of_ble_eq_true rfl) ?_
    have k10 : (-2147483648) ≤ p0.toInt ∧ p0.toInt ≤ (-1) := ⟨(ir_any _).1, up_lt t4 (Int.le_refl _) (by decide)⟩
    refine lv_if_ne (tgt := 15) hx hb dX10_bend_10 (by decide) (fun g => absurd (by decide) g) (fun _ => ?_)
    refine lv_iconst (v := (-1)) hx hb dX10_bend_13 (by decide) ?_
    exact ret_i (v := (-1)) hx hb hr hlocks hS hP hD dX10_bend_14 rfl (Nat.le_of_ble_eq_true rfl) (Nat.le_of_ble_eq_true rfl) ⟨F1, (SAME.up eF1 SAME.rf (by decide)), (get_eq eF1), rfl⟩
  · have hP : va_P D vwCl [(h0, .inr (10, vL 67 F1)), (h_s, .inl (cI, 335, .inl f_s))] H := hP
    have hD : va_D A [(h0, .inr (10, vL 67 F1)), (h_s, .inl (cI, 335, .inl f_s))] := hD
    refine W.widen (k := 0) (n := 0) (Nat.le_of_ble_eq_true rfl) (Nat.le_of_ble_eq_true rfl) ?_
    have k11 : 0 ≤ p0.toInt ∧ p0.toInt ≤ 2147483647 := ⟨Int.le_trans (Int.le_refl _) t5, (ir_any _).2⟩
    refine lv_if_ne (tgt := 15) hx hb dX10_bend_10 (by decide) (fun g => absurd (by decide) g) (fun _ => ?_)
    refine lv_iconst (v := (-1)) hx hb dX10_bend_13 (by decide) ?_
    exact ret_i (v := (-1)) hx hb hr hlocks hS hP hD dX10_bend_14 rfl (Nat.le_of_ble_eq_true rfl) (Nat.le_of_ble_eq_true rfl) ⟨F1, (SAME.up eF1 SAME.rf (by decide)), (get_eq eF1), rfl⟩
  · have hP : va_P D vwCl [(h0, .inr (10, vL 67 F1)), (h_s, .inl (cI, 335, .inl f_s))] H := hP
    have hD : va_D A [(h0, .inr (10, vL 67 F1)), (h_s, .inl (cI, 335, .inl f_s))] := hD
    refine W.widen (k := 0) (n := 0) (Nat.le_of_ble_eq_true rfl) (Nat.le_of_ble_eq_true rfl) ?_
    have k12 : 0 ≤ p0.toInt ∧ p0.toInt ≤ 2147483647 := ⟨Int.le_trans (Int.le_refl _) t7, (ir_any _).2⟩
    have k13 : 0 ≤ p0.toInt ∧ p0.toInt ≤ 11 := ⟨k12.1, Int.le_trans t8 (Int.le_refl _)⟩
    refine lv_if_ne (tgt := 15) hx hb dX10_bend_10 (by decide) (fun _ => ?_) (fun g => absurd g (by decide))
    refine lv_iload_n hx hb dX10_bend_15 rfl (lv_at hl 2 rfl) ?_
    by_cases k14 : p1 = 0
    · have dk14 : p1.toInt = 0 := eq_i rfl rfl k14
      have k15 : 0 ≤ p1.toInt ∧ p1.toInt ≤ 0 := ⟨Int.le_trans (Int.le_refl _) (Int.le_of_eq dk14.symm), Int.le_trans (Int.le_of_eq dk14) (Int.le_refl _)⟩
      refine lv_ci (y := 0) k14 ?_
      refine lv_tableIn (tgt := 52) (off := 36) hx hb dX10_bend_16 (by decide) (by decide) (by decide) (by decide) ?_
      refine lv_aload_n hx hb dX10_bend_52 rfl (lv_at hl 0 rfl) ?_
      refine get_f (D := D) (ci := 10) (v := .ref h_s) (C := RX10) (T := TX10) (N := 67) hx hb hw inAX10 hown hK hP 0 rfl rfl 6 (by decide) (hw _ q_1267) (fun _ h9 => h9) n2 dX10_bend_53 ?_
      refine lv_bipush (v := 44) hx hb dX10_bend_56 (by decide) ?_
      refine lv_iload_n hx hb dX10_bend_58 rfl (lv_at hl 1 rfl) ?_
      refine lv_iadd hx hb dX10_bend_59 ?_
      refine lv_topi (fun v16 ev16 => ?_)
      have bv16 : v16.toInt = 44 + p0.toInt := by rw [ev16]; exact add_k rfl rfl ⟨Int.le_refl _, Int.le_refl _⟩ k13 (by decide)
      have k17 : 44 ≤ v16.toInt ∧ v16.toInt ≤ 55 := add_r bv16 ⟨Int.le_refl _, Int.le_refl _⟩ k13 (by decide)
      refine va_iald hx hb hK hP 1 0 rfl rfl (ix_k k17 (by decide) (by decide)) dX10_bend_60 ?_
      refine lv_topi (fun v18 ev18 => ?_)
      have k19 : 0 ≤ v18.toInt ∧ v18.toInt ≤ 9 := by rw [ev18]; exact s_s_44.at _ (Int.le_trans (by decide) k17.1) (Int.le_trans k17.2 (by decide))
      exact ret_i (v := v18) hx hb hr hlocks hS hP hD dX10_bend_61 rfl (Nat.le_of_ble_eq_true rfl) (Nat.le_of_ble_eq_true rfl) ⟨F1, (SAME.up eF1 SAME.rf (by decide)), (get_eq eF1), rfl⟩
    by_cases k20 : p1 = 1
    · have dk20 : p1.toInt = 1 := eq_i rfl rfl k20
      have k21 : 1 ≤ p1.toInt ∧ p1.toInt ≤ 1 := ⟨Int.le_trans (Int.le_refl _) (Int.le_of_eq dk20.symm), Int.le_trans (Int.le_of_eq dk20) (Int.le_refl _)⟩
      refine lv_ci (y := 1) k20 ?_
      refine lv_tableIn (tgt := 62) (off := 46) hx hb dX10_bend_16 (by decide) (by decide) (by decide) (by decide) ?_
      refine lv_aload_n hx hb dX10_bend_62 rfl (lv_at hl 0 rfl) ?_
      refine get_f (D := D) (ci := 10) (v := .ref h_s) (C := RX10) (T := TX10) (N := 67) hx hb hw inAX10 hown hK hP 0 rfl rfl 6 (by decide) (hw _ q_1267) (fun _ h9 => h9) n2 dX10_bend_63 ?_
      refine lv_bipush (v := 56) hx hb dX10_bend_66 (by decide) ?_
      refine lv_iload_n hx hb dX10_bend_68 rfl (lv_at hl 1 rfl) ?_
      refine lv_iadd hx hb dX10_bend_69 ?_
      refine lv_topi (fun v22 ev22 => ?_)
      have bv22 : v22.toInt = 56 + p0.toInt := by rw [ev22]; exact add_k rfl rfl ⟨Int.le_refl _, Int.le_refl _⟩ k13 (by decide)
      have k23 : 56 ≤ v22.toInt ∧ v22.toInt ≤ 67 := add_r bv22 ⟨Int.le_refl _, Int.le_refl _⟩ k13 (by decide)
      refine va_iald hx hb hK hP 1 0 rfl rfl (ix_k k23 (by decide) (by decide)) dX10_bend_70 ?_
      refine lv_topi (fun v24 ev24 => ?_)
      exact ret_i (v := v24) hx hb hr hlocks hS hP hD dX10_bend_71 rfl (Nat.le_of_ble_eq_true rfl) (Nat.le_of_ble_eq_true rfl) ⟨F1, (SAME.up eF1 SAME.rf (by decide)), (get_eq eF1), rfl⟩
    by_cases k25 : p1 = 2
    · have dk25 : p1.toInt = 2 := eq_i rfl rfl k25
      have k26 : 2 ≤ p1.toInt ∧ p1.toInt ≤ 2 := ⟨Int.le_trans (Int.le_refl _) (Int.le_of_eq dk25.symm), Int.le_trans (Int.le_of_eq dk25) (Int.le_refl _)⟩
      refine lv_ci (y := 2) k25 ?_
      refine lv_tableIn (tgt := 72) (off := 56) hx hb dX10_bend_16 (by decide) (by decide) (by decide) (by decide) ?_
      refine lv_aload_n hx hb dX10_bend_72 rfl (lv_at hl 0 rfl) ?_
      refine get_f (D := D) (ci := 10) (v := .ref h_s) (C := RX10) (T := TX10) (N := 67) hx hb hw inAX10 hown hK hP 0 rfl rfl 6 (by decide) (hw _ q_1267) (fun _ h9 => h9) n2 dX10_bend_73 ?_
      refine lv_bipush (v := 68) hx hb dX10_bend_76 (by decide) ?_
      refine lv_iload_n hx hb dX10_bend_78 rfl (lv_at hl 1 rfl) ?_
      refine lv_iadd hx hb dX10_bend_79 ?_
      refine lv_topi (fun v27 ev27 => ?_)
      have bv27 : v27.toInt = 68 + p0.toInt := by rw [ev27]; exact add_k rfl rfl ⟨Int.le_refl _, Int.le_refl _⟩ k13 (by decide)
      have k28 : 68 ≤ v27.toInt ∧ v27.toInt ≤ 79 := add_r bv27 ⟨Int.le_refl _, Int.le_refl _⟩ k13 (by decide)
      refine va_iald hx hb hK hP 1 0 rfl rfl (ix_k k28 (by decide) (by decide)) dX10_bend_80 ?_
      refine lv_topi (fun v29 ev29 => ?_)
      exact ret_i (v := v29) hx hb hr hlocks hS hP hD dX10_bend_81 rfl (Nat.le_of_ble_eq_true rfl) (Nat.le_of_ble_eq_true rfl) ⟨F1, (SAME.up eF1 SAME.rf (by decide)), (get_eq eF1), rfl⟩
    by_cases k30 : p1 = 3
    · have dk30 : p1.toInt = 3 := eq_i rfl rfl k30
      have k31 : 3 ≤ p1.toInt ∧ p1.toInt ≤ 3 := ⟨Int.le_trans (Int.le_refl _) (Int.le_of_eq dk30.symm), Int.le_trans (Int.le_of_eq dk30) (Int.le_refl _)⟩
      refine lv_ci (y := 3) k30 ?_
      refine lv_tableIn (tgt := 82) (off := 66) hx hb dX10_bend_16 (by decide) (by decide) (by decide) (by decide) ?_
      refine lv_aload_n hx hb dX10_bend_82 rfl (lv_at hl 0 rfl) ?_
      refine get_f (D := D) (ci := 10) (v := .ref h_s) (C := RX10) (T := TX10) (N := 67) hx hb hw inAX10 hown hK hP 0 rfl rfl 6 (by decide) (hw _ q_1267) (fun _ h9 => h9) n2 dX10_bend_83 ?_
      refine lv_bipush (v := 80) hx hb dX10_bend_86 (by decide) ?_
      refine lv_iload_n hx hb dX10_bend_88 rfl (lv_at hl 1 rfl) ?_
      refine lv_iadd hx hb dX10_bend_89 ?_
      refine lv_topi (fun v32 ev32 => ?_)
      have bv32 : v32.toInt = 80 + p0.toInt := by rw [ev32]; exact add_k rfl rfl ⟨Int.le_refl _, Int.le_refl _⟩ k13 (by decide)
      have k33 : 80 ≤ v32.toInt ∧ v32.toInt ≤ 91 := add_r bv32 ⟨Int.le_refl _, Int.le_refl _⟩ k13 (by decide)
      refine va_iald hx hb hK hP 1 0 rfl rfl (ix_k k33 (by decide) (by decide)) dX10_bend_90 ?_
      refine lv_topi (fun v34 ev34 => ?_)
      exact ret_i (v := v34) hx hb hr hlocks hS hP hD dX10_bend_91 rfl (Nat.le_of_ble_eq_true rfl) (Nat.le_of_ble_eq_true rfl) ⟨F1, (SAME.up eF1 SAME.rf (by decide)), (get_eq eF1), rfl⟩
    by_cases k35 : p1 = 4
    · have dk35 : p1.toInt = 4 := eq_i rfl rfl k35
      have k36 : 4 ≤ p1.toInt ∧ p1.toInt ≤ 4 := ⟨Int.le_trans (Int.le_refl _) (Int.le_of_eq dk35.symm), Int.le_trans (Int.le_of_eq dk35) (Int.le_refl _)⟩
      refine lv_ci (y := 4) k35 ?_
      refine lv_tableIn (tgt := 92) (off := 76) hx hb dX10_bend_16 (by decide) (by decide) (by decide) (by decide) ?_
      refine lv_aload_n hx hb dX10_bend_92 rfl (lv_at hl 0 rfl) ?_
      refine get_f (D := D) (ci := 10) (v := .ref h_s) (C := RX10) (T := TX10) (N := 67) hx hb hw inAX10 hown hK hP 0 rfl rfl 6 (by decide) (hw _ q_1267) (fun _ h9 => h9) n2 dX10_bend_93 ?_
      refine lv_bipush (v := 116) hx hb dX10_bend_96 (by decide) ?_
      refine lv_iload_n hx hb dX10_bend_98 rfl (lv_at hl 1 rfl) ?_
      refine lv_iadd hx hb dX10_bend_99 ?_
      refine lv_topi (fun v37 ev37 => ?_)
      have bv37 : v37.toInt = 116 + p0.toInt := by rw [ev37]; exact add_k rfl rfl ⟨Int.le_refl _, Int.le_refl _⟩ k13 (by decide)
      have k38 : 116 ≤ v37.toInt ∧ v37.toInt ≤ 127 := add_r bv37 ⟨Int.le_refl _, Int.le_refl _⟩ k13 (by decide)
      refine va_iald hx hb hK hP 1 0 rfl rfl (ix_k k38 (by decide) (by decide)) dX10_bend_100 ?_
      refine lv_topi (fun v39 ev39 => ?_)
      exact ret_i (v := v39) hx hb hr hlocks hS hP hD dX10_bend_101 rfl (Nat.le_of_ble_eq_true rfl) (Nat.le_of_ble_eq_true rfl) ⟨F1, (SAME.up eF1 SAME.rf (by decide)), (get_eq eF1), rfl⟩
    have dk14 : p1.toInt ≠ 0 := ne_i rfl rfl k14
    have dk20 : p1.toInt ≠ 1 := ne_i rfl rfl k20
    have dk25 : p1.toInt ≠ 2 := ne_i rfl rfl k25
    have dk30 : p1.toInt ≠ 3 := ne_i rfl rfl k30
    have dk35 : p1.toInt ≠ 4 := ne_i rfl rfl k35
    refine lv_tableOut (tgt := 102) hx hb dX10_bend_16 (by omega) (by decide) ?_
    refine lv_iconst (v := (-1)) hx hb dX10_bend_102 (by decide) ?_
    exact ret_i (v := (-1)) hx hb hr hlocks hS hP hD dX10_bend_103 rfl (Nat.le_of_ble_eq_true rfl) (Nat.le_of_ble_eq_true rfl) ⟨F1, (SAME.up eF1 SAME.rf (by decide)), (get_eq eF1), rfl⟩
set_option maxHeartbeats 4000000 in
set_option maxRecDepth 100000 in
theorem m_X10_isRunner (l : Launch) (D : va_G) (cI cJ cB cP cM cZ : ClassId) (h0 : Nat) (h_s : Nat) (Fh : Nat → Value) (f_s : Nat → Int32) (p0 : Int32) (bs : Nat → Int32) (sz : Nat) (e_s : Fh 6 = .ref h_s) (s_s_K0 : KW 0 f_s) (s_s_US : US bs f_s) (s_s_0 : SG 0 0 0 40 f_s) (s_s_105 : SG 105 108 0 11 f_s) (s_s_114 : SG 114 114 0 5 f_s) (s_s_130 : SG 130 133 0 11 f_s) (s_s_139 : SG 139 139 0 5 f_s) (s_s_153 : SG 153 153 0 44 f_s) (s_s_44 : SG 44 55 0 9 f_s) (s_s_5 : SG 5 5 0 12 f_s) (s_s_6 : SG 6 6 0 12 f_s) (s_s_7 : SG 7 7 0 6 f_s) : CI l yX10_isRunner cX10_isRunner 2 (some .boolean) { frames := 1, cells := 0, slots := 0, locals := 22 } (GG D cI cJ cB cP cM cZ) D [(h0, .inr (10, vL 67 Fh)), (h_s, .inl (cI, 335, .inl f_s))] sz [.ref h0, .int p0] (fun (r : Int32) (u : va_W) => (p0.toInt < 0 ∧ r = 0 ∧ u = [(h0, .inr (10, vL 67 Fh)), (h_s, .inl (cI, 335, .inl f_s))]) ∨ (0 ≤ p0.toInt ∧ (-1) < p0.toInt ∧ r = 0 ∧ u = [(h0, .inr (10, vL 67 Fh)), (h_s, .inl (cI, 335, .inl f_s))]) ∨ (0 ≤ p0.toInt ∧ p0.toInt ≤ 5 ∧ r = 1 ∧ u = [(h0, .inr (10, vL 67 Fh)), (h_s, .inl (cI, 335, .inl f_s))])) := by
  refine CI_mk (by decide) (Nat.le_of_ble_eq_true rfl) ?_
  intro p e s m below meth c A ls E hAe hG hsz hP hD hA hS hl
  obtain ⟨hx, hb, hr, hw, hown, hlocks, hml, hnm⟩ := E
  have hK := hG.1
  have hl : lv_has ls 2 [(0, .ref h0), (1, .int p0)] := hl
  refine lv_iload_n hx hb dX10_isRunner_0 rfl (lv_at hl 1 rfl) ?_
  refine lv_iconst (v := 0) hx hb dX10_isRunner_1 (by decide) ?_
  refine lv_aload_n hx hb dX10_isRunner_2 rfl (lv_at hl 0 rfl) ?_
  refine get_f (D := D) (ci := 10) (v := .ref h_s) (C := RX10) (T := TX10) (N := 67) hx hb hw inAX10 hown hK hP 0 rfl rfl 6 (by decide) (hw _ q_1267) (fun _ h9 => h9) e_s dX10_isRunner_3 ?_
  refine lv_bipush (v := 7) hx hb dX10_isRunner_6 (by decide) ?_
  refine iald_n hx hb hK hP 1 0 rfl rfl 7 rfl (Nat.le_of_ble_eq_true rfl) (Nat.le_of_ble_eq_true rfl) rfl dX10_isRunner_8 ?_
  refine lv_topi (fun v1 ev1 => ?_)
  have k2 : 0 ≤ v1.toInt ∧ v1.toInt ≤ 6 := by rw [ev1]; exact s_s_7.atN 7 (by decide) (by decide)
  refine lv_iconst (v := 1) hx hb dX10_isRunner_9 (by decide) ?_
  refine lv_isub hx hb dX10_isRunner_10 ?_
  refine lv_topi (fun v3 ev3 => ?_)
  have bv3 : v3.toInt = v1.toInt - 1 := by rw [ev3]; exact sub_k rfl rfl k2 ⟨Int.le_refl _, Int.le_refl _⟩ (by decide)
  have k4 : (-1) ≤ v3.toInt ∧ v3.toInt ≤ 5 := sub_r bv3 k2 ⟨Int.le_refl _, Int.le_refl _⟩ (by decide)
  refine call_Si (wr := [(h0, .inr (10, vL 67 Fh)), (h_s, .inl (cI, 335, .inl f_s))]) (As := [.int p0, .int 0, .int v3]) (rest := []) hx hb hml hown hw (m_X10_isIn l D cI cJ cB cP cM cZ p0 0 v3 _ ) wS_X10_211_X10_isIn dX10_isRunner_11 hP hD hS hA [] [0, 1] rfl rfl (by decide) (by decide) (by decide) GG.fb hG.at hl.1 rfl (Nat.le_of_ble_eq_true rfl) ⟨(Nat.le_of_ble_eq_true rfl), (Nat.le_of_ble_eq_true rfl)⟩ ⟨(Nat.le_of_ble_eq_true rfl), (Nat.le_of_ble_eq_true rfl)⟩ (fun r5 u H locs hp hP hD hS => ?_)
  have zl0 : (0 : Int32).toInt = 0 := by decide
  rcases hp with ⟨t6, rfl, rfl⟩ | ⟨t7, t8, rfl, rfl⟩ | ⟨t9, t10, rfl, rfl⟩
  · have hP : va_P D vwCl [(h0, .inr (10, vL 67 Fh)), (h_s, .inl (cI, 335, .inl f_s))] H := hP
    have hD : va_D A [(h0, .inr (10, vL 67 Fh)), (h_s, .inl (cI, 335, .inl f_s))] := hD
    refine W.widen (k := 0) (n := 0) (Nat.le_of_ble_eq_true rfl) (Nat.le_of_ble_eq_true rfl) ?_
    have k12 : (-2147483648) ≤ p0.toInt ∧ p0.toInt ≤ (-1) := ⟨(ir_any _).1, up_lt t6 (Int.le_refl _) (by decide)⟩
    exact ret_i (v := 0) hx hb hr hlocks hS hP hD dX10_isRunner_14 rfl (Nat.le_of_ble_eq_true rfl) (Nat.le_of_ble_eq_true rfl) (Or.inl ⟨t6, rfl, rfl⟩)
  · have hP : va_P D vwCl [(h0, .inr (10, vL 67 Fh)), (h_s, .inl (cI, 335, .inl f_s))] H := hP
    have hD : va_D A [(h0, .inr (10, vL 67 Fh)), (h_s, .inl (cI, 335, .inl f_s))] := hD
    refine W.widen (k := 0) (n := 0) (Nat.le_of_ble_eq_true rfl) (Nat.le_of_ble_eq_true rfl) ?_
    have k13 : 0 ≤ p0.toInt ∧ p0.toInt ≤ 2147483647 := ⟨Int.le_trans (Int.le_refl _) t7, (ir_any _).2⟩
    exact ret_i (v := 0) hx hb hr hlocks hS hP hD dX10_isRunner_14 rfl (Nat.le_of_ble_eq_true rfl) (Nat.le_of_ble_eq_true rfl) (Or.inr (Or.inl ⟨t7, (by omega), rfl, rfl⟩))
  · have hP : va_P D vwCl [(h0, .inr (10, vL 67 Fh)), (h_s, .inl (cI, 335, .inl f_s))] H := hP
    have hD : va_D A [(h0, .inr (10, vL 67 Fh)), (h_s, .inl (cI, 335, .inl f_s))] := hD
    refine W.widen (k := 0) (n := 0) (Nat.le_of_ble_eq_true rfl) (Nat.le_of_ble_eq_true rfl) ?_
    have k14 : 0 ≤ p0.toInt ∧ p0.toInt ≤ 2147483647 := ⟨Int.le_trans (Int.le_refl _) t9, (ir_any _).2⟩
    have k15 : 0 ≤ p0.toInt ∧ p0.toInt ≤ 5 := ⟨k14.1, Int.le_trans t10 k4.2⟩
    have k16 : 0 ≤ v3.toInt ∧ v3.toInt ≤ 5 := ⟨Int.le_trans k14.1 t10, k4.2⟩
    have k17 : 1 ≤ v1.toInt ∧ v1.toInt ≤ 6 := ⟨lin_lo (lin_m bv3) k16.1 (by decide), k2.2⟩
    exact ret_i (v := 1) hx hb hr hlocks hS hP hD dX10_isRunner_14 rfl (Nat.le_of_ble_eq_true rfl) (Nat.le_of_ble_eq_true rfl) (Or.inr (Or.inr ⟨t9, (by omega), rfl, rfl⟩))
def fn_X10_takenBy (f_s : Nat → Int32) (p0 : Int32) : Int32 := (((f_s ((98 : Int32) + p0).toNatClampNeg) * (fn_X10_off ((f_s 4) + ((f_s 115) / (3 : Int32))) (f_s ((92 : Int32) + p0).toNatClampNeg))) / (4 : Int32))
set_option maxHeartbeats 4000000 in
set_option maxRecDepth 100000 in
theorem m_X10_takenBy (l : Launch) (D : va_G) (cI cJ cB cP cM cZ : ClassId) (h0 : Nat) (h_s : Nat) (Fh : Nat → Value) (f_s : Nat → Int32) (p0 : Int32) (bs : Nat → Int32) (sz : Nat) (e_s : Fh 6 = .ref h_s) (s_s_K0 : KW 0 f_s) (s_s_US : US bs f_s) (s_s_0 : SG 0 0 0 40 f_s) (s_s_105 : SG 105 108 0 11 f_s) (s_s_114 : SG 114 114 0 5 f_s) (s_s_130 : SG 130 133 0 11 f_s) (s_s_139 : SG 139 139 0 5 f_s) (s_s_153 : SG 153 153 0 44 f_s) (s_s_44 : SG 44 55 0 9 f_s) (s_s_5 : SG 5 5 0 12 f_s) (s_s_6 : SG 6 6 0 12 f_s) (s_s_7 : SG 7 7 0 6 f_s) (i_p0 : IR 0 5 p0) : CI l yX10_takenBy cX10_takenBy 2 (some .int) { frames := 1, cells := 0, slots := 0, locals := 21 } (GG D cI cJ cB cP cM cZ) D [(h0, .inr (10, vL 67 Fh)), (h_s, .inl (cI, 335, .inl f_s))] sz [.ref h0, .int p0] (fun (r : Int32) (u : va_W) => r = fn_X10_takenBy f_s p0 ∧ u = [(h0, .inr (10, vL 67 Fh)), (h_s, .inl (cI, 335, .inl f_s))]) := by
  refine CI_mk (by decide) (Nat.le_of_ble_eq_true rfl) ?_
  intro p e s m below meth c A ls E hAe hG hsz hP hD hA hS hl
  obtain ⟨hx, hb, hr, hw, hown, hlocks, hml, hnm⟩ := E
  have hK := hG.1
  have i_p0 : 0 ≤ p0.toInt ∧ p0.toInt ≤ 5 := i_p0
  have hl : lv_has ls 2 [(0, .ref h0), (1, .int p0)] := hl
  refine lv_aload_n hx hb dX10_takenBy_0 rfl (lv_at hl 0 rfl) ?_
  refine get_f (D := D) (ci := 10) (v := .ref h_s) (C := RX10) (T := TX10) (N := 67) hx hb hw inAX10 hown hK hP 0 rfl rfl 6 (by decide) (hw _ q_1267) (fun _ h9 => h9) e_s dX10_takenBy_1 ?_
  refine lv_bipush (v := 98) hx hb dX10_takenBy_4 (by decide) ?_
  refine lv_iload_n hx hb dX10_takenBy_6 rfl (lv_at hl 1 rfl) ?_
  refine lv_iadd hx hb dX10_takenBy_7 ?_
  refine lv_topi (fun v1 ev1 => ?_)
  have bv1 : v1.toInt = 98 + p0.toInt := by rw [ev1]; exact add_k rfl rfl ⟨Int.le_refl _, Int.le_refl _⟩ i_p0 (by decide)
  have k2 : 98 ≤ v1.toInt ∧ v1.toInt ≤ 103 := add_r bv1 ⟨Int.le_refl _, Int.le_refl _⟩ i_p0 (by decide)
  refine va_iald hx hb hK hP 1 0 rfl rfl (ix_k k2 (by decide) (by decide)) dX10_takenBy_8 ?_
  refine lv_topi (fun v3 ev3 => ?_)
  refine lv_aload_n hx hb dX10_takenBy_9 rfl (lv_at hl 0 rfl) ?_
  refine get_f (D := D) (ci := 10) (v := .ref h_s) (C := RX10) (T := TX10) (N := 67) hx hb hw inAX10 hown hK hP 0 rfl rfl 6 (by decide) (hw _ q_1267) (fun _ h9 => h9) e_s dX10_takenBy_10 ?_
  refine lv_iconst (v := 4) hx hb dX10_takenBy_13 (by decide) ?_
  refine iald_n hx hb hK hP 1 0 rfl rfl 4 rfl (Nat.le_of_ble_eq_true rfl) (Nat.le_of_ble_eq_true rfl) rfl dX10_takenBy_14 ?_
  refine lv_topi (fun v4 ev4 => ?_)
  refine lv_aload_n hx hb dX10_takenBy_15 rfl (lv_at hl 0 rfl) ?_
  refine get_f (D := D) (ci := 10) (v := .ref h_s) (C := RX10) (T := TX10) (N := 67) hx hb hw inAX10 hown hK hP 0 rfl rfl 6 (by decide) (hw _ q_1267) (fun _ h9 => h9) e_s dX10_takenBy_16 ?_
  refine lv_bipush (v := 115) hx hb dX10_takenBy_19 (by decide) ?_
  refine iald_n hx hb hK hP 1 0 rfl rfl 115 rfl (Nat.le_of_ble_eq_true rfl) (Nat.le_of_ble_eq_true rfl) rfl dX10_takenBy_21 ?_
  refine lv_topi (fun v5 ev5 => ?_)
  refine lv_iconst (v := 3) hx hb dX10_takenBy_22 (by decide) ?_
  refine lv_idiv hx hb dX10_takenBy_23 (by decide) ?_
  refine lv_topi (fun v6 ev6 => ?_)
  refine lv_iadd hx hb dX10_takenBy_24 ?_
  refine lv_topi (fun v7 ev7 => ?_)
  refine lv_aload_n hx hb dX10_takenBy_25 rfl (lv_at hl 0 rfl) ?_
  refine get_f (D := D) (ci := 10) (v := .ref h_s) (C := RX10) (T := TX10) (N := 67) hx hb hw inAX10 hown hK hP 0 rfl rfl 6 (by decide) (hw _ q_1267) (fun _ h9 => h9) e_s dX10_takenBy_26 ?_
  refine lv_bipush (v := 92) hx hb dX10_takenBy_29 (by decide) ?_
  refine lv_iload_n hx hb dX10_takenBy_31 rfl (lv_at hl 1 rfl) ?_
  refine lv_iadd hx hb dX10_takenBy_32 ?_
  refine lv_topi (fun v8 ev8 => ?_)
  have bv8 : v8.toInt = 92 + p0.toInt := by rw [ev8]; exact add_k rfl rfl ⟨Int.le_refl _, Int.le_refl _⟩ i_p0 (by decide)
  have k9 : 92 ≤ v8.toInt ∧ v8.toInt ≤ 97 := add_r bv8 ⟨Int.le_refl _, Int.le_refl _⟩ i_p0 (by decide)
  refine va_iald hx hb hK hP 1 0 rfl rfl (ix_k k9 (by decide) (by decide)) dX10_takenBy_33 ?_
  refine lv_topi (fun v10 ev10 => ?_)
  refine call_Si (wr := [(h0, .inr (10, vL 67 Fh)), (h_s, .inl (cI, 335, .inl f_s))]) (As := [.int v7, .int v10]) (rest := [.int v3]) hx hb hml hown hw (m_X10_off l D cI cJ cB cP cM cZ v7 v10 _ ) wS_X10_295_X10_off dX10_takenBy_34 hP hD hS hA [] [0, 1] rfl rfl (by decide) (by decide) (by decide) GG.fb hG.at hl.1 rfl (Nat.le_of_ble_eq_true rfl) ⟨(Nat.le_of_ble_eq_true rfl), (Nat.le_of_ble_eq_true rfl)⟩ ⟨(Nat.le_of_ble_eq_true rfl), (Nat.le_of_ble_eq_true rfl)⟩ (fun r11 u H locs hp hP hD hS => ?_)
  obtain ⟨t12, rfl⟩ := hp
  have hP : va_P D vwCl [(h0, .inr (10, vL 67 Fh)), (h_s, .inl (cI, 335, .inl f_s))] H := hP
  have hD : va_D A [(h0, .inr (10, vL 67 Fh)), (h_s, .inl (cI, 335, .inl f_s))] := hD
  refine W.widen (k := 0) (n := 0) (Nat.le_of_ble_eq_true rfl) (Nat.le_of_ble_eq_true rfl) ?_
  refine lv_imul hx hb dX10_takenBy_37 ?_
  refine lv_topi (fun v14 ev14 => ?_)
  refine lv_iconst (v := 4) hx hb dX10_takenBy_38 (by decide) ?_
  refine lv_idiv hx hb dX10_takenBy_39 (by decide) ?_
  refine lv_topi (fun v15 ev15 => ?_)
  exact ret_i (v := v15) hx hb hr hlocks hS hP hD dX10_takenBy_40 rfl (Nat.le_of_ble_eq_true rfl) (Nat.le_of_ble_eq_true rfl) ⟨(by subst_vars; unfold fn_X10_takenBy; rfl), rfl⟩
set_option maxHeartbeats 4000000 in
set_option maxRecDepth 100000 in
theorem m_X10_runner (l : Launch) (D : va_G) (cI cJ cB cP cM cZ : ClassId) (h0 : Nat) (h_s : Nat) (Fh : Nat → Value) (f_s : Nat → Int32) (p0 : Int32) (p1 : Int32) (bs : Nat → Int32) (sz : Nat) (e_s : Fh 6 = .ref h_s) (s_s_K0 : KW 0 f_s) (s_s_US : US bs f_s) (s_s_0 : SG 0 0 0 40 f_s) (s_s_105 : SG 105 108 0 11 f_s) (s_s_114 : SG 114 114 0 5 f_s) (s_s_130 : SG 130 133 0 11 f_s) (s_s_139 : SG 139 139 0 5 f_s) (s_s_153 : SG 153 153 0 44 f_s) (s_s_44 : SG 44 55 0 9 f_s) (s_s_5 : SG 5 5 0 12 f_s) (s_s_6 : SG 6 6 0 12 f_s) (s_s_7 : SG 7 7 0 6 f_s) : CI l yX10_runner cX10_runner 3 (some .int) { frames := 2, cells := 0, slots := 0, locals := 43 } (GG D cI cJ cB cP cM cZ) D [(h0, .inr (10, vL 67 Fh)), (h_s, .inl (cI, 335, .inl f_s))] sz [.ref h0, .int p0, .int p1] (fun (r : Int32) (u : va_W) => ∃ (Gh : Nat → Value), SAME [0] Fh Gh ∧ Gh 0 = .int 0 ∧ u = [(h0, .inr (10, vL 67 Gh)), (h_s, .inl (cI, 335, .inl f_s))]) := by
  refine CI_mk (by decide) (Nat.le_of_ble_eq_true rfl) ?_
  intro p e s m below meth c A ls E hAe hG hsz hP hD hA hS hl
  obtain ⟨hx, hb, hr, hw, hown, hlocks, hml, hnm⟩ := E
  have hK := hG.1
  have hl : lv_has ls 3 [(0, .ref h0), (1, .int p0), (2, .int p1)] := hl
  refine lv_aload_n hx hb dX10_runner_0 rfl (lv_at hl 0 rfl) ?_
  refine lv_iconst (v := 0) hx hb dX10_runner_1 (by decide) ?_
  refine put_f (D := D) (ci := 10) (v := .int 0) (ty := .int) (C := RX10) (T := TX10) (N := 67) hx hb hw inAX10 tyX10 tyX10_ok nmX10 hown hK hP hD hS 0 rfl rfl 0 (by decide) (hw _ q_1261) (fun _ h9 => h9) rfl (by decide +kernel) rfl rfl dX10_runner_2 (fun H locs F1 eF1 hP hD hS => ?_)
  have hP : va_P D vwCl [(h0, .inr (10, vL 67 F1)), (h_s, .inl (cI, 335, .inl f_s))] H := hP
  have hD : va_D A [(h0, .inr (10, vL 67 F1)), (h_s, .inl (cI, 335, .inl f_s))] := hD
  refine lv_aload_n hx hb dX10_runner_5 rfl (lv_at hl 0 rfl) ?_
  refine lv_iload_n hx hb dX10_runner_6 rfl (lv_at hl 1 rfl) ?_
  have n2 : F1 6 = .ref h_s := (get_ne eF1 (by decide) e_s)
  refine call_Vi (wr := []) (As := [.int p0]) (rest := []) hx hb hml hown hw (m_X10_isRunner l D cI cJ cB cP cM cZ h0 h_s F1 f_s p0 bs _ n2 s_s_K0 s_s_US s_s_0 s_s_105 s_s_114 s_s_130 s_s_139 s_s_153 s_s_44 s_s_5 s_s_6 s_s_7) wV_X10_298_X10_isRunner dX10_runner_7 hK hP hD hS hA [0, 1] [] rfl rfl (by decide) (by decide) (by decide) 0 10 rfl rfl GG.fb hG.at hl.1 rfl (Nat.le_of_ble_eq_true rfl) ⟨(Nat.le_of_ble_eq_true rfl), (Nat.le_of_ble_eq_true rfl)⟩ ⟨(Nat.le_of_ble_eq_true rfl), (Nat.le_of_ble_eq_true rfl)⟩ (fun r3 u H locs hp hP hD hS => ?_)
  rcases hp with ⟨t4, rfl, rfl⟩ | ⟨t5, t6, rfl, rfl⟩ | ⟨t7, t8, rfl, rfl⟩
  · have hP : va_P D vwCl [(h0, .inr (10, vL 67 F1)), (h_s, .inl (cI, 335, .inl f_s))] H := hP
    have hD : va_D A [(h0, .inr (10, vL 67 F1)), (h_s, .inl (cI, 335, .inl f_s))] := hD
    refine W.widen (k := 0) (n := 0) (Nat.le_of_ble_eq_true rfl) (Nat.le_of_ble_eq_true rfl) ?_
    have k10 : (-2147483648) ≤ p0.toInt ∧ p0.toInt ≤ (-1) := ⟨(ir_any _).1, up_lt t4 (Int.le_refl _) (by decide)⟩
    refine lv_if_ne (tgt := 15) hx hb dX10_runner_10 (by decide) (fun g => absurd (by decide) g) (fun _ => ?_)
    refine lv_iconst (v := (-1)) hx hb dX10_runner_13 (by decide) ?_
    exact ret_i (v := (-1)) hx hb hr hlocks hS hP hD dX10_runner_14 rfl (Nat.le_of_ble_eq_true rfl) (Nat.le_of_ble_eq_true rfl) ⟨F1, (SAME.up eF1 SAME.rf (by decide)), (get_eq eF1), rfl⟩
  · have hP : va_P D vwCl [(h0, .inr (10, vL 67 F1)), (h_s, .inl (cI, 335, .inl f_s))] H := hP
    have hD : va_D A [(h0, .inr (10, vL 67 F1)), (h_s, .inl (cI, 335, .inl f_s))] := hD
    refine W.widen (k := 0) (n := 0) (Nat.le_of_ble_eq_true rfl) (Nat.le_of_ble_eq_true rfl) ?_
    have k11 : 0 ≤ p0.toInt ∧ p0.toInt ≤ 2147483647 := ⟨Int.le_trans (Int.le_refl _) t5, (ir_any _).2⟩
    refine lv_if_ne (tgt := 15) hx hb dX10_runner_10 (by decide) (fun g => absurd (by decide) g) (fun _ => ?_)
    refine lv_iconst (v := (-1)) hx hb dX10_runner_13 (by decide) ?_
    exact ret_i (v := (-1)) hx hb hr hlocks hS hP hD dX10_runner_14 rfl (Nat.le_of_ble_eq_true rfl) (Nat.le_of_ble_eq_true rfl) ⟨F1, (SAME.up eF1 SAME.rf (by decide)), (get_eq eF1), rfl⟩
  · have hP : va_P D vwCl [(h0, .inr (10, vL 67 F1)), (h_s, .inl (cI, 335, .inl f_s))] H := hP
    have hD : va_D A [(h0, .inr (10, vL 67 F1)), (h_s, .inl (cI, 335, .inl f_s))] := hD
    refine W.widen (k := 0) (n := 0) (Nat.le_of_ble_eq_true rfl) (Nat.le_of_ble_eq_true rfl) ?_
    have k12 : 0 ≤ p0.toInt ∧ p0.toInt ≤ 2147483647 := ⟨Int.le_trans (Int.le_refl _) t7, (ir_any _).2⟩
    have k13 : 0 ≤ p0.toInt ∧ p0.toInt ≤ 5 := ⟨k12.1, Int.le_trans t8 (Int.le_refl _)⟩
    refine lv_if_ne (tgt := 15) hx hb dX10_runner_10 (by decide) (fun _ => ?_) (fun g => absurd g (by decide))
    refine lv_iload_n hx hb dX10_runner_15 rfl (lv_at hl 2 rfl) ?_
    refine lv_if_ne (tgt := 31) hx hb dX10_runner_16 (by decide) (fun c14 => ?_) (fun c14 => ?_)
    · have dc14 : p1.toInt ≠ 0 := ne_i (a := p1.toInt) (b := 0) rfl rfl c14
      refine lv_iload_n hx hb dX10_runner_31 rfl (lv_at hl 2 rfl) ?_
      refine lv_iconst (v := 1) hx hb dX10_runner_32 (by decide) ?_
      refine lv_icmp_ne (tgt := 48) hx hb dX10_runner_33 (by decide) (fun c15 => ?_) (fun c15 => ?_)
      · have dc15 : p1.toInt ≠ 1 := ne_i (a := p1.toInt) (b := 1) rfl rfl c15
        refine lv_iload_n hx hb dX10_runner_48 rfl (lv_at hl 2 rfl) ?_
        refine lv_iconst (v := 2) hx hb dX10_runner_49 (by decide) ?_
        refine lv_icmp_ne (tgt := 61) hx hb dX10_runner_50 (by decide) (fun c16 => ?_) (fun c16 => ?_)
        · have dc16 : p1.toInt ≠ 2 := ne_i (a := p1.toInt) (b := 2) rfl rfl c16
          refine lv_iconst (v := (-1)) hx hb dX10_runner_61 (by decide) ?_
          exact ret_i (v := (-1)) hx hb hr hlocks hS hP hD dX10_runner_62 rfl (Nat.le_of_ble_eq_true rfl) (Nat.le_of_ble_eq_true rfl) ⟨F1, (SAME.up eF1 SAME.rf (by decide)), (get_eq eF1), rfl⟩
        · have dc16 : p1.toInt = 2 := eq_i (a := p1.toInt) (b := 2) rfl rfl c16
          have k17 : 2 ≤ p1.toInt ∧ p1.toInt ≤ 2 := ⟨Int.le_trans (Int.le_refl _) (Int.le_of_eq dc16.symm), Int.le_trans (Int.le_of_eq dc16) (Int.le_refl _)⟩
          refine lv_aload_n hx hb dX10_runner_53 rfl (lv_at hl 0 rfl) ?_
          refine lv_iload_n hx hb dX10_runner_54 rfl (lv_at hl 1 rfl) ?_
          refine call_Vi (wr := []) (As := [.int p0]) (rest := []) hx hb hml hown hw (m_X10_takenBy l D cI cJ cB cP cM cZ h0 h_s F1 f_s p0 bs _ n2 s_s_K0 s_s_US s_s_0 s_s_105 s_s_114 s_s_130 s_s_139 s_s_153 s_s_44 s_s_5 s_s_6 s_s_7 k13) wV_X10_301_X10_takenBy dX10_runner_55 hK hP hD hS hA [0, 1] [] rfl rfl (by decide) (by decide) (by decide) 0 10 rfl rfl GG.fb hG.at hl.1 rfl (Nat.le_of_ble_eq_true rfl) ⟨(Nat.le_of_ble_eq_true rfl), (Nat.le_of_ble_eq_true rfl)⟩ ⟨(Nat.le_of_ble_eq_true rfl), (Nat.le_of_ble_eq_true rfl)⟩ (fun r18 u H locs hp hP hD hS => ?_)
          obtain ⟨t19, rfl⟩ := hp
          have hP : va_P D vwCl [(h0, .inr (10, vL 67 F1)), (h_s, .inl (cI, 335, .inl f_s))] H := hP
          have hD : va_D A [(h0, .inr (10, vL 67 F1)), (h_s, .inl (cI, 335, .inl f_s))] := hD
          refine W.widen (k := 0) (n := 0) (Nat.le_of_ble_eq_true rfl) (Nat.le_of_ble_eq_true rfl) ?_
          refine lv_goto (tgt := 62) hx hb dX10_runner_58 (by decide) ?_
          exact ret_i (v := r18) hx hb hr hlocks hS hP hD dX10_runner_62 rfl (Nat.le_of_ble_eq_true rfl) (Nat.le_of_ble_eq_true rfl) ⟨F1, (SAME.up eF1 SAME.rf (by decide)), (get_eq eF1), rfl⟩
      · have dc15 : p1.toInt = 1 := eq_i (a := p1.toInt) (b := 1) rfl rfl c15
        have k21 : 1 ≤ p1.toInt ∧ p1.toInt ≤ 1 := ⟨Int.le_trans (Int.le_refl _) (Int.le_of_eq dc15.symm), Int.le_trans (Int.le_of_eq dc15) (Int.le_refl _)⟩
        refine lv_aload_n hx hb dX10_runner_36 rfl (lv_at hl 0 rfl) ?_
        refine get_f (D := D) (ci := 10) (v := .ref h_s) (C := RX10) (T := TX10) (N := 67) hx hb hw inAX10 hown hK hP 0 rfl rfl 6 (by decide) (hw _ q_1267) (fun _ h9 => h9) n2 dX10_runner_37 ?_
        refine lv_bipush (v := 98) hx hb dX10_runner_40 (by decide) ?_
        refine lv_iload_n hx hb dX10_runner_42 rfl (lv_at hl 1 rfl) ?_
        refine lv_iadd hx hb dX10_runner_43 ?_
        refine lv_topi (fun v22 ev22 => ?_)
        have bv22 : v22.toInt = 98 + p0.toInt := by rw [ev22]; exact add_k rfl rfl ⟨Int.le_refl _, Int.le_refl _⟩ k13 (by decide)
        have k23 : 98 ≤ v22.toInt ∧ v22.toInt ≤ 103 := add_r bv22 ⟨Int.le_refl _, Int.le_refl _⟩ k13 (by decide)
        refine va_iald hx hb hK hP 1 0 rfl rfl (ix_k k23 (by decide) (by decide)) dX10_runner_44 ?_
        refine lv_topi (fun v24 ev24 => ?_)
        refine lv_goto (tgt := 62) hx hb dX10_runner_45 (by decide) ?_
        exact ret_i (v := v24) hx hb hr hlocks hS hP hD dX10_runner_62 rfl (Nat.le_of_ble_eq_true rfl) (Nat.le_of_ble_eq_true rfl) ⟨F1, (SAME.up eF1 SAME.rf (by decide)), (get_eq eF1), rfl⟩
    · have dc14 : p1.toInt = 0 := eq_i (a := p1.toInt) (b := 0) rfl rfl c14
      have k25 : 0 ≤ p1.toInt ∧ p1.toInt ≤ 0 := ⟨Int.le_trans (Int.le_refl _) (Int.le_of_eq dc14.symm), Int.le_trans (Int.le_of_eq dc14) (Int.le_refl _)⟩
      refine lv_aload_n hx hb dX10_runner_19 rfl (lv_at hl 0 rfl) ?_
      refine get_f (D := D) (ci := 10) (v := .ref h_s) (C := RX10) (T := TX10) (N := 67) hx hb hw inAX10 hown hK hP 0 rfl rfl 6 (by decide) (hw _ q_1267) (fun _ h9 => h9) n2 dX10_runner_20 ?_
      refine lv_bipush (v := 92) hx hb dX10_runner_23 (by decide) ?_
      refine lv_iload_n hx hb dX10_runner_25 rfl (lv_at hl 1 rfl) ?_
      refine lv_iadd hx hb dX10_runner_26 ?_
      refine lv_topi (fun v26 ev26 => ?_)
      have bv26 : v26.toInt = 92 + p0.toInt := by rw [ev26]; exact add_k rfl rfl ⟨Int.le_refl _, Int.le_refl _⟩ k13 (by decide)
      have k27 : 92 ≤ v26.toInt ∧ v26.toInt ≤ 97 := add_r bv26 ⟨Int.le_refl _, Int.le_refl _⟩ k13 (by decide)
      refine va_iald hx hb hK hP 1 0 rfl rfl (ix_k k27 (by decide) (by decide)) dX10_runner_27 ?_
      refine lv_topi (fun v28 ev28 => ?_)
      refine lv_goto (tgt := 62) hx hb dX10_runner_28 (by decide) ?_
      exact ret_i (v := v28) hx hb hr hlocks hS hP hD dX10_runner_62 rfl (Nat.le_of_ble_eq_true rfl) (Nat.le_of_ble_eq_true rfl) ⟨F1, (SAME.up eF1 SAME.rf (by decide)), (get_eq eF1), rfl⟩
set_option maxHeartbeats 4000000 in
set_option maxRecDepth 100000 in
theorem m_X10_draw (l : Launch) (D : va_G) (cI cJ cB cP cM cZ : ClassId) (h0 : Nat) (Fh : Nat → Value) (x_seed : Int32) (p0 : Int32) (sz : Nat) (e_seed : Fh 31 = .int x_seed) (i_p0 : IR 8 8 p0) : CI l yX10_draw cX10_draw 2 (some .int) { frames := 0, cells := 0, slots := 0, locals := 0 } (GG D cI cJ cB cP cM cZ) D [(h0, .inr (10, vL 67 Fh))] sz [.ref h0, .int p0] (fun (r : Int32) (u : va_W) => ∃ (Gh : Nat → Value) (y_seed : Int32), SAME [31] Fh Gh ∧ Gh 31 = .int y_seed ∧ u = [(h0, .inr (10, vL 67 Gh))]) := by
  refine CI_mk (by decide) (Nat.le_of_ble_eq_true rfl) ?_
  intro p e s m below meth c A ls E hAe hG hsz hP hD hA hS hl
  obtain ⟨hx, hb, hr, hw, hown, hlocks, hml, hnm⟩ := E
  have hK := hG.1
  have i_p0 : 8 ≤ p0.toInt ∧ p0.toInt ≤ 8 := i_p0
  have hl : lv_has ls 2 [(0, .ref h0), (1, .int p0)] := hl
  refine lv_aload_n hx hb dX10_draw_0 rfl (lv_at hl 0 rfl) ?_
  refine lv_aload_n hx hb dX10_draw_1 rfl (lv_at hl 0 rfl) ?_
  refine get_f (D := D) (ci := 10) (v := .int x_seed) (C := RX10) (T := TX10) (N := 67) hx hb hw inAX10 hown hK hP 0 rfl rfl 31 (by decide) (hw _ q_1292) (fun _ h9 => h9) e_seed dX10_draw_2 ?_
  refine lv_ldcw hx hb hown (hw _ q_1625) dX10_draw_5 ?_
  refine lv_imul hx hb dX10_draw_8 ?_
  refine lv_topi (fun v1 ev1 => ?_)
  refine lv_sipush (v := 12345) hx hb dX10_draw_9 (by decide) ?_
  refine lv_iadd hx hb dX10_draw_12 ?_
  refine lv_topi (fun v2 ev2 => ?_)
  refine put_f (D := D) (ci := 10) (v := .int v2) (ty := .int) (C := RX10) (T := TX10) (N := 67) hx hb hw inAX10 tyX10 tyX10_ok nmX10 hown hK hP hD hS 0 rfl rfl 31 (by decide) (hw _ q_1292) (fun _ h9 => h9) rfl (by decide +kernel) rfl rfl dX10_draw_13 (fun H locs F3 eF3 hP hD hS => ?_)
  have hP : va_P D vwCl [(h0, .inr (10, vL 67 F3))] H := hP
  have hD : va_D A [(h0, .inr (10, vL 67 F3))] := hD
  refine lv_aload_n hx hb dX10_draw_16 rfl (lv_at hl 0 rfl) ?_
  refine get_f (D := D) (ci := 10) (v := .int v2) (C := RX10) (T := TX10) (N := 67) hx hb hw inAX10 hown hK hP 0 rfl rfl 31 (by decide) (hw _ q_1292) (fun _ h9 => h9) (get_eq eF3) dX10_draw_17 ?_
  refine lv_bipush (v := 8) hx hb dX10_draw_20 (by decide) ?_
  obtain ⟨v4, ev4⟩ : ∃ z : Int32, ((v2 : Int32).toUInt32 >>> ((8 : Int32).toUInt32 &&& Int32.toUInt32 31)).toInt32 = z := ⟨_, rfl⟩
  refine lv_iushr (v := v4) hx hb dX10_draw_22 ev4 ?_
  have k5 : 0 ≤ v4.toInt ∧ v4.toInt ≤ 16777215 := by rw [← ev4]; exact ushr8_i _
  refine lv_iload_n hx hb dX10_draw_23 rfl (lv_at hl 1 rfl) ?_
  refine lv_irem hx hb dX10_draw_24 (nz_k i_p0 (by decide)) ?_
  refine lv_topi (fun v6 ev6 => ?_)
  exact ret_i (v := v6) hx hb hr hlocks hS hP hD dX10_draw_25 rfl (Nat.le_of_ble_eq_true rfl) (Nat.le_of_ble_eq_true rfl) ⟨F3, v2, (SAME.up eF3 SAME.rf (by decide)), (get_eq eF3), rfl⟩
set_option maxHeartbeats 4000000 in
set_option maxRecDepth 100000 in
theorem m_X10_weightOf (l : Launch) (D : va_G) (cI cJ cB cP cM cZ : ClassId) (h0 : Nat) (h_s : Nat) (Fh : Nat → Value) (f_s : Nat → Int32) (p0 : Int32) (bs : Nat → Int32) (sz : Nat) (e_s : Fh 6 = .ref h_s) (s_s_K0 : KW 0 f_s) (s_s_US : US bs f_s) (s_s_0 : SG 0 0 0 40 f_s) (s_s_105 : SG 105 108 0 11 f_s) (s_s_114 : SG 114 114 0 5 f_s) (s_s_130 : SG 130 133 0 11 f_s) (s_s_139 : SG 139 139 0 5 f_s) (s_s_153 : SG 153 153 0 44 f_s) (s_s_44 : SG 44 55 0 9 f_s) (s_s_5 : SG 5 5 0 12 f_s) (s_s_6 : SG 6 6 0 12 f_s) (s_s_7 : SG 7 7 0 6 f_s) : CI l yX10_weightOf cX10_weightOf 4 (some .int) { frames := 1, cells := 0, slots := 0, locals := 21 } (GG D cI cJ cB cP cM cZ) D [(h0, .inr (10, vL 67 Fh)), (h_s, .inl (cI, 335, .inl f_s))] sz [.ref h0, .int p0] (fun (r : Int32) (u : va_W) => u = [(h0, .inr (10, vL 67 Fh)), (h_s, .inl (cI, 335, .inl f_s))]) := by
  refine CI_mk (by decide) (Nat.le_of_ble_eq_true rfl) ?_
  intro p e s m below meth c A ls E hAe hG hsz hP hD hA hS hl
  obtain ⟨hx, hb, hr, hw, hown, hlocks, hml, hnm⟩ := E
  have hK := hG.1
  have hl : lv_has ls 4 [(0, .ref h0), (1, .int p0)] := hl
  refine lv_iconst (v := 0) hx hb dX10_weightOf_0 (by decide) ?_
  refine lv_istore_n (lv' := [(2, .int 0), (0, .ref h0), (1, .int p0)]) hx hb dX10_weightOf_1 rfl hl (by decide) rfl (fun ls hl => ?_)
  refine lv_iconst (v := 0) hx hb dX10_weightOf_2 (by decide) ?_
  refine lv_istore_n (lv' := [(3, .int 0), (2, .int 0), (0, .ref h0), (1, .int p0)]) hx hb dX10_weightOf_3 rfl hl (by decide) rfl (fun ls hl => ?_)
  refine mloop (α := (Int32) × (Int32)) (nL := 4) (D := D) (A := A) (H0 := s.heap) (fun a => (4 - a.1.toInt).toNat) (fun a => IR 0 4 a.1) (fun a => [(h0, .inr (10, vL 67 Fh)), (h_s, .inl (cI, 335, .inl f_s))]) (fun a => [(3, .int a.1), (2, .int a.2), (0, .ref h0), (1, .int p0)]) (fun H locs ls => W p l e ({ frames := 1, cells := 0, slots := 0, locals := 21 } : Room) s m [.ref h0, .int p0].toArray below meth c H locs 0 0 (MQ below (va_Qi (fun (r : Int32) (u : va_W) => u = [(h0, .inr (10, vL 67 Fh)), (h_s, .inl (cI, 335, .inl f_s))]) (PO D A) A) [.ref h0, .int p0].toArray s 0 0 A) (F0 m 4 ls [])) ?_ (0, 0) (show 0 ≤ (0 : Int32).toInt ∧ (0 : Int32).toInt ≤ 4 by decide) _ _ _ hP hD hS hl
  rintro ⟨u1, u2⟩ i3 ih H locs ls hP hD hS hl
  have i3 : 0 ≤ u1.toInt ∧ u1.toInt ≤ 4 := i3
  have hP : va_P D vwCl [(h0, .inr (10, vL 67 Fh)), (h_s, .inl (cI, 335, .inl f_s))] H := hP
  have hD : va_D A [(h0, .inr (10, vL 67 Fh)), (h_s, .inl (cI, 335, .inl f_s))] := hD
  have hl : lv_has ls 4 [(3, .int u1), (2, .int u2), (0, .ref h0), (1, .int p0)] := hl
  refine lv_iload_n hx hb dX10_weightOf_4 rfl (lv_at hl 0 rfl) ?_
  refine lv_iconst (v := 4) hx hb dX10_weightOf_5 (by decide) ?_
  refine lv_icmp_ge (tgt := 47) hx hb dX10_weightOf_6 (by decide) (fun c4 => ?_) (fun c4 => ?_)
  · have dc4 : 4 ≤ u1.toInt := le_i (a := 4) (b := u1.toInt) rfl rfl c4
    have k5 : 4 ≤ u1.toInt ∧ u1.toInt ≤ 4 := ⟨Int.le_trans (Int.le_refl _) dc4, i3.2⟩
    refine lv_iload_n hx hb dX10_weightOf_47 rfl (lv_at hl 1 rfl) ?_
    exact ret_i (v := u2) hx hb hr hlocks hS hP hD dX10_weightOf_48 rfl (Nat.le_of_ble_eq_true rfl) (Nat.le_of_ble_eq_true rfl) rfl
  · have dc4 : u1.toInt < 4 := nle_i (a := 4) (b := u1.toInt) rfl rfl c4
    have k6 : 0 ≤ u1.toInt ∧ u1.toInt ≤ 3 := ⟨i3.1, up_lt dc4 (Int.le_refl _) (by decide)⟩
    refine lv_iload_n hx hb dX10_weightOf_9 rfl (lv_at hl 1 rfl) ?_
    refine lv_iload_n hx hb dX10_weightOf_10 rfl (lv_at hl 3 rfl) ?_
    refine lv_iload_n hx hb dX10_weightOf_11 rfl (lv_at hl 0 rfl) ?_
    refine call_Si (wr := [(h0, .inr (10, vL 67 Fh)), (h_s, .inl (cI, 335, .inl f_s))]) (As := [.int p0, .int u1]) (rest := [.int u2]) hx hb hml hown hw (m_X10_bitOf l D cI cJ cB cP cM cZ p0 u1 _ ) wS_X10_232_X10_bitOf dX10_weightOf_12 hP hD hS hA [] [0, 1] rfl rfl (by decide) (by decide) (by decide) GG.fb hG.at hl.1 rfl (Nat.le_of_ble_eq_true rfl) ⟨(Nat.le_of_ble_eq_true rfl), (Nat.le_of_ble_eq_true rfl)⟩ ⟨(Nat.le_of_ble_eq_true rfl), (Nat.le_of_ble_eq_true rfl)⟩ (fun r7 u H locs hp hP hD hS => ?_)
    rcases hp with ⟨t8, rfl, rfl⟩ | ⟨t9, rfl, rfl⟩
    · have hP : va_P D vwCl [(h0, .inr (10, vL 67 Fh)), (h_s, .inl (cI, 335, .inl f_s))] H := hP
      have hD : va_D A [(h0, .inr (10, vL 67 Fh)), (h_s, .inl (cI, 335, .inl f_s))] := hD
      refine W.widen (k := 0) (n := 0) (Nat.le_of_ble_eq_true rfl) (Nat.le_of_ble_eq_true rfl) ?_
      refine lv_if_eq (tgt := 38) hx hb dX10_weightOf_15 (by decide) (fun _ => ?_) (fun g => absurd (by decide) g)
      refine lv_iconst (v := 0) hx hb dX10_weightOf_38 (by decide) ?_
      refine lv_iadd hx hb dX10_weightOf_39 ?_
      refine lv_topi (fun v11 ev11 => ?_)
      have bv11 : v11.toInt = u2.toInt + 0 := by rw [ev11]; exact add_k rfl rfl (ir_any _) ⟨Int.le_refl _, Int.le_refl _⟩ (by decide)
      have k12 : (-2147483648) ≤ v11.toInt ∧ v11.toInt ≤ 2147483647 := add_r bv11 (ir_any _) ⟨Int.le_refl _, Int.le_refl _⟩ (by decide)
      refine lv_istore_n (lv' := [(2, .int v11), (3, .int u1), (0, .ref h0), (1, .int p0)]) hx hb dX10_weightOf_40 rfl hl (by decide) rfl (fun ls hl => ?_)
      obtain ⟨v13, ev13⟩ : ∃ z : Int32, z = u1 + 1 := ⟨_, rfl⟩
      have bv13 : v13.toInt = u1.toInt + 1 := by rw [ev13]; exact add_k rfl rfl k6 ⟨Int.le_refl _, Int.le_refl _⟩ (by decide)
      have k14 : 1 ≤ v13.toInt ∧ v13.toInt ≤ 4 := add_r bv13 k6 ⟨Int.le_refl _, Int.le_refl _⟩ (by decide)
      refine lv_iinc (v := v13) (lv' := [(3, .int v13), (2, .int v11), (0, .ref h0), (1, .int p0)]) hx hb dX10_weightOf_41 hl (k := 1) rfl (by rw [ev13]; rfl) (by decide) rfl (fun ls hl => ?_)
      refine lv_goto (tgt := 4) hx hb dX10_weightOf_44 (by decide) ?_
      exact ih (v13, v11) (ir_wk k14 (by decide) (by decide)) (by show (4 - v13.toInt).toNat < (4 - u1.toInt).toNat; omega) _ _ _ hP hD hS (lv_sub hl [0, 1, 2, 3] rfl)
    · have hP : va_P D vwCl [(h0, .inr (10, vL 67 Fh)), (h_s, .inl (cI, 335, .inl f_s))] H := hP
      have hD : va_D A [(h0, .inr (10, vL 67 Fh)), (h_s, .inl (cI, 335, .inl f_s))] := hD
      refine W.widen (k := 0) (n := 0) (Nat.le_of_ble_eq_true rfl) (Nat.le_of_ble_eq_true rfl) ?_
      refine lv_if_eq (tgt := 38) hx hb dX10_weightOf_15 (by decide) (fun g => absurd g (by decide)) (fun _ => ?_)
      refine lv_aload_n hx hb dX10_weightOf_18 rfl (lv_at hl 2 rfl) ?_
      refine get_f (D := D) (ci := 10) (v := .ref h_s) (C := RX10) (T := TX10) (N := 67) hx hb hw inAX10 hown hK hP 0 rfl rfl 6 (by decide) (hw _ q_1267) (fun _ h9 => h9) e_s dX10_weightOf_19 ?_
      refine lv_bipush (v := 32) hx hb dX10_weightOf_22 (by decide) ?_
      refine lv_aload_n hx hb dX10_weightOf_24 rfl (lv_at hl 2 rfl) ?_
      refine get_f (D := D) (ci := 10) (v := .ref h_s) (C := RX10) (T := TX10) (N := 67) hx hb hw inAX10 hown hK hP 0 rfl rfl 6 (by decide) (hw _ q_1267) (fun _ h9 => h9) e_s dX10_weightOf_25 ?_
      refine lv_bipush (v := 105) hx hb dX10_weightOf_28 (by decide) ?_
      refine lv_iload_n hx hb dX10_weightOf_30 rfl (lv_at hl 0 rfl) ?_
      refine lv_iadd hx hb dX10_weightOf_31 ?_
      refine lv_topi (fun v15 ev15 => ?_)
      have bv15 : v15.toInt = 105 + u1.toInt := by rw [ev15]; exact add_k rfl rfl ⟨Int.le_refl _, Int.le_refl _⟩ k6 (by decide)
      have k16 : 105 ≤ v15.toInt ∧ v15.toInt ≤ 108 := add_r bv15 ⟨Int.le_refl _, Int.le_refl _⟩ k6 (by decide)
      refine va_iald hx hb hK hP 1 0 rfl rfl (ix_k k16 (by decide) (by decide)) dX10_weightOf_32 ?_
      refine lv_topi (fun v17 ev17 => ?_)
      have k18 : 0 ≤ v17.toInt ∧ v17.toInt ≤ 11 := by rw [ev17]; exact s_s_105.at _ (Int.le_trans (by decide) k16.1) (Int.le_trans k16.2 (by decide))
      refine lv_iadd hx hb dX10_weightOf_33 ?_
      refine lv_topi (fun v19 ev19 => ?_)
      have bv19 : v19.toInt = 32 + v17.toInt := by rw [ev19]; exact add_k rfl rfl ⟨Int.le_refl _, Int.le_refl _⟩ k18 (by decide)
      have k20 : 32 ≤ v19.toInt ∧ v19.toInt ≤ 43 := add_r bv19 ⟨Int.le_refl _, Int.le_refl _⟩ k18 (by decide)
      refine va_iald hx hb hK hP 1 0 rfl rfl (ix_k k20 (by decide) (by decide)) dX10_weightOf_34 ?_
      refine lv_topi (fun v21 ev21 => ?_)
      refine lv_goto (tgt := 39) hx hb dX10_weightOf_35 (by decide) ?_
      refine lv_iadd hx hb dX10_weightOf_39 ?_
      refine lv_topi (fun v22 ev22 => ?_)
      refine lv_istore_n (lv' := [(2, .int v22), (3, .int u1), (0, .ref h0), (1, .int p0)]) hx hb dX10_weightOf_40 rfl hl (by decide) rfl (fun ls hl => ?_)
      obtain ⟨v23, ev23⟩ : ∃ z : Int32, z = u1 + 1 := ⟨_, rfl⟩
      have bv23 : v23.toInt = u1.toInt + 1 := by rw [ev23]; exact add_k rfl rfl k6 ⟨Int.le_refl _, Int.le_refl _⟩ (by decide)
      have k24 : 1 ≤ v23.toInt ∧ v23.toInt ≤ 4 := add_r bv23 k6 ⟨Int.le_refl _, Int.le_refl _⟩ (by decide)
      refine lv_iinc (v := v23) (lv' := [(3, .int v23), (2, .int v22), (0, .ref h0), (1, .int p0)]) hx hb dX10_weightOf_41 hl (k := 1) rfl (by rw [ev23]; rfl) (by decide) rfl (fun ls hl => ?_)
      refine lv_goto (tgt := 4) hx hb dX10_weightOf_44 (by decide) ?_
      exact ih (v23, v22) (ir_wk k24 (by decide) (by decide)) (by show (4 - v23.toInt).toNat < (4 - u1.toInt).toNat; omega) _ _ _ hP hD hS (lv_sub hl [0, 1, 2, 3] rfl)
set_option maxHeartbeats 4000000 in
set_option maxRecDepth 100000 in
theorem m_X10_pushed (l : Launch) (D : va_G) (cI cJ cB cP cM cZ : ClassId) (h0 : Nat) (h_s : Nat) (Fh : Nat → Value) (f_s : Nat → Int32) (p0 : Int32) (p1 : Int32) (p2 : Int32) (bs : Nat → Int32) (sz : Nat) (e_s : Fh 6 = .ref h_s) (s_s_K0 : KW 0 f_s) (s_s_US : US bs f_s) (s_s_0 : SG 0 0 0 40 f_s) (s_s_105 : SG 105 108 0 11 f_s) (s_s_114 : SG 114 114 0 5 f_s) (s_s_130 : SG 130 133 0 11 f_s) (s_s_139 : SG 139 139 0 5 f_s) (s_s_153 : SG 153 153 0 44 f_s) (s_s_44 : SG 44 55 0 9 f_s) (s_s_5 : SG 5 5 0 12 f_s) (s_s_6 : SG 6 6 0 12 f_s) (s_s_7 : SG 7 7 0 6 f_s) : CI l yX10_pushed cX10_pushed 6 (some .int) { frames := 2, cells := 0, slots := 0, locals := 44 } (GG D cI cJ cB cP cM cZ) D [(h0, .inr (10, vL 67 Fh)), (h_s, .inl (cI, 335, .inl f_s))] sz [.ref h0, .int p0, .int p1, .int p2] (fun (r : Int32) (u : va_W) => IR 10 250 r ∧ u = [(h0, .inr (10, vL 67 Fh)), (h_s, .inl (cI, 335, .inl f_s))]) := by
  refine CI_mk (by decide) (Nat.le_of_ble_eq_true rfl) ?_
  intro p e s m below meth c A ls E hAe hG hsz hP hD hA hS hl
  obtain ⟨hx, hb, hr, hw, hown, hlocks, hml, hnm⟩ := E
  have hK := hG.1
  have hl : lv_has ls 6 [(0, .ref h0), (1, .int p0), (2, .int p1), (3, .int p2)] := hl
  refine lv_iload_n hx hb dX10_pushed_0 rfl (lv_at hl 1 rfl) ?_
  refine lv_iconst (v := 4) hx hb dX10_pushed_1 (by decide) ?_
  refine lv_isub hx hb dX10_pushed_2 ?_
  refine lv_topi (fun v1 ev1 => ?_)
  refine lv_aload_n hx hb dX10_pushed_3 rfl (lv_at hl 0 rfl) ?_
  refine lv_iload_n hx hb dX10_pushed_4 rfl (lv_at hl 3 rfl) ?_
  refine call_Vi (wr := []) (As := [.int p2]) (rest := [.int v1]) hx hb hml hown hw (m_X10_weightOf l D cI cJ cB cP cM cZ h0 h_s Fh f_s p2 bs _ e_s s_s_K0 s_s_US s_s_0 s_s_105 s_s_114 s_s_130 s_s_139 s_s_153 s_s_44 s_s_5 s_s_6 s_s_7) wV_X10_308_X10_weightOf dX10_pushed_5 hK hP hD hS hA [0, 1] [] rfl rfl (by decide) (by decide) (by decide) 0 10 rfl rfl GG.fb hG.at hl.1 rfl (Nat.le_of_ble_eq_true rfl) ⟨(Nat.le_of_ble_eq_true rfl), (Nat.le_of_ble_eq_true rfl)⟩ ⟨(Nat.le_of_ble_eq_true rfl), (Nat.le_of_ble_eq_true rfl)⟩ (fun r2 u H locs hp hP hD hS => ?_)
  obtain rfl := hp
  have hP : va_P D vwCl [(h0, .inr (10, vL 67 Fh)), (h_s, .inl (cI, 335, .inl f_s))] H := hP
  have hD : va_D A [(h0, .inr (10, vL 67 Fh)), (h_s, .inl (cI, 335, .inl f_s))] := hD
  refine W.widen (k := 0) (n := 0) (Nat.le_of_ble_eq_true rfl) (Nat.le_of_ble_eq_true rfl) ?_
  refine lv_bipush (v := 100) hx hb dX10_pushed_8 (by decide) ?_
  refine lv_idiv hx hb dX10_pushed_10 (by decide) ?_
  refine lv_topi (fun v4 ev4 => ?_)
  refine lv_isub hx hb dX10_pushed_11 ?_
  refine lv_topi (fun v5 ev5 => ?_)
  refine lv_istore (lv' := [(4, .int v5), (0, .ref h0), (1, .int p0), (2, .int p1), (3, .int p2)]) hx hb dX10_pushed_12 hl (by decide) rfl (fun ls hl => ?_)
  refine lv_iconst (v := 0) hx hb dX10_pushed_14 (by decide) ?_
  refine lv_istore (lv' := [(5, .int 0), (4, .int v5), (0, .ref h0), (1, .int p0), (2, .int p1), (3, .int p2)]) hx hb dX10_pushed_15 hl (by decide) rfl (fun ls hl => ?_)
  refine mloop (α := (Int32) × (Int32)) (nL := 6) (D := D) (A := A) (H0 := s.heap) (fun a => (4 - a.1.toInt).toNat) (fun a => IR 0 4 a.1) (fun a => [(h0, .inr (10, vL 67 Fh)), (h_s, .inl (cI, 335, .inl f_s))]) (fun a => [(5, .int a.1), (4, .int a.2), (0, .ref h0), (1, .int p0), (2, .int p1), (3, .int p2)]) (fun H locs ls => W p l e ({ frames := 2, cells := 0, slots := 0, locals := 44 } : Room) s m [.ref h0, .int p0, .int p1, .int p2].toArray below meth c H locs 0 0 (MQ below (va_Qi (fun (r : Int32) (u : va_W) => IR 10 250 r ∧ u = [(h0, .inr (10, vL 67 Fh)), (h_s, .inl (cI, 335, .inl f_s))]) (PO D A) A) [.ref h0, .int p0, .int p1, .int p2].toArray s 0 0 A) (F0 m 17 ls [])) ?_ (0, v5) (show 0 ≤ (0 : Int32).toInt ∧ (0 : Int32).toInt ≤ 4 by decide) _ _ _ hP hD hS hl
  rintro ⟨u6, u7⟩ i8 ih H locs ls hP hD hS hl
  have i8 : 0 ≤ u6.toInt ∧ u6.toInt ≤ 4 := i8
  have hP : va_P D vwCl [(h0, .inr (10, vL 67 Fh)), (h_s, .inl (cI, 335, .inl f_s))] H := hP
  have hD : va_D A [(h0, .inr (10, vL 67 Fh)), (h_s, .inl (cI, 335, .inl f_s))] := hD
  have hl : lv_has ls 6 [(5, .int u6), (4, .int u7), (0, .ref h0), (1, .int p0), (2, .int p1), (3, .int p2)] := hl
  refine lv_iload hx hb dX10_pushed_17 (lv_at hl 0 rfl) ?_
  refine lv_iconst (v := 4) hx hb dX10_pushed_19 (by decide) ?_
  refine lv_icmp_ge (tgt := 90) hx hb dX10_pushed_20 (by decide) (fun c9 => ?_) (fun c9 => ?_)
  · have dc9 : 4 ≤ u6.toInt := le_i (a := 4) (b := u6.toInt) rfl rfl c9
    have k10 : 4 ≤ u6.toInt ∧ u6.toInt ≤ 4 := ⟨Int.le_trans (Int.le_refl _) dc9, i8.2⟩
    refine lv_iload hx hb dX10_pushed_90 (lv_at hl 1 rfl) ?_
    refine call_Si (wr := [(h0, .inr (10, vL 67 Fh)), (h_s, .inl (cI, 335, .inl f_s))]) (As := [.int u7]) (rest := []) hx hb hml hown hw (m_X10_bounded l D cI cJ cB cP cM cZ u7 _ ) wS_X10_311_X10_bounded dX10_pushed_92 hP hD hS hA [] [0, 1] rfl rfl (by decide) (by decide) (by decide) GG.fb hG.at hl.1 rfl (Nat.le_of_ble_eq_true rfl) ⟨(Nat.le_of_ble_eq_true rfl), (Nat.le_of_ble_eq_true rfl)⟩ ⟨(Nat.le_of_ble_eq_true rfl), (Nat.le_of_ble_eq_true rfl)⟩ (fun r11 u H locs hp hP hD hS => ?_)
    obtain ⟨t12, t13, rfl⟩ := hp
    have hP : va_P D vwCl [(h0, .inr (10, vL 67 Fh)), (h_s, .inl (cI, 335, .inl f_s))] H := hP
    have hD : va_D A [(h0, .inr (10, vL 67 Fh)), (h_s, .inl (cI, 335, .inl f_s))] := hD
    refine W.widen (k := 0) (n := 0) (Nat.le_of_ble_eq_true rfl) (Nat.le_of_ble_eq_true rfl) ?_
    exact ret_i (v := r11) hx hb hr hlocks hS hP hD dX10_pushed_95 rfl (Nat.le_of_ble_eq_true rfl) (Nat.le_of_ble_eq_true rfl) ⟨t12, rfl⟩
  · have dc9 : u6.toInt < 4 := nle_i (a := 4) (b := u6.toInt) rfl rfl c9
    have k15 : 0 ≤ u6.toInt ∧ u6.toInt ≤ 3 := ⟨i8.1, up_lt dc9 (Int.le_refl _) (by decide)⟩
    refine lv_iload hx hb dX10_pushed_23 (lv_at hl 1 rfl) ?_
    refine lv_iload_n hx hb dX10_pushed_25 rfl (lv_at hl 4 rfl) ?_
    refine lv_iload hx hb dX10_pushed_26 (lv_at hl 0 rfl) ?_
    refine call_Si (wr := [(h0, .inr (10, vL 67 Fh)), (h_s, .inl (cI, 335, .inl f_s))]) (As := [.int p1, .int u6]) (rest := [.int u7]) hx hb hml hown hw (m_X10_bitOf l D cI cJ cB cP cM cZ p1 u6 _ ) wS_X10_232_X10_bitOf dX10_pushed_28 hP hD hS hA [] [0, 1] rfl rfl (by decide) (by decide) (by decide) GG.fb hG.at hl.1 rfl (Nat.le_of_ble_eq_true rfl) ⟨(Nat.le_of_ble_eq_true rfl), (Nat.le_of_ble_eq_true rfl)⟩ ⟨(Nat.le_of_ble_eq_true rfl), (Nat.le_of_ble_eq_true rfl)⟩ (fun r16 u H locs hp hP hD hS => ?_)
    rcases hp with ⟨t17, rfl, rfl⟩ | ⟨t18, rfl, rfl⟩
    · have hP : va_P D vwCl [(h0, .inr (10, vL 67 Fh)), (h_s, .inl (cI, 335, .inl f_s))] H := hP
      have hD : va_D A [(h0, .inr (10, vL 67 Fh)), (h_s, .inl (cI, 335, .inl f_s))] := hD
      refine W.widen (k := 0) (n := 0) (Nat.le_of_ble_eq_true rfl) (Nat.le_of_ble_eq_true rfl) ?_
      refine lv_if_ne (tgt := 80) hx hb dX10_pushed_31 (by decide) (fun g => absurd (by decide) g) (fun _ => ?_)
      refine lv_iload_n hx hb dX10_pushed_34 rfl (lv_at hl 3 rfl) ?_
      refine lv_bipush (v := 12) hx hb dX10_pushed_35 (by decide) ?_
      refine lv_aload_n hx hb dX10_pushed_37 rfl (lv_at hl 2 rfl) ?_
      refine get_f (D := D) (ci := 10) (v := .ref h_s) (C := RX10) (T := TX10) (N := 67) hx hb hw inAX10 hown hK hP 0 rfl rfl 6 (by decide) (hw _ q_1267) (fun _ h9 => h9) e_s dX10_pushed_38 ?_
      refine lv_bipush (v := 20) hx hb dX10_pushed_41 (by decide) ?_
      refine lv_aload_n hx hb dX10_pushed_43 rfl (lv_at hl 2 rfl) ?_
      refine get_f (D := D) (ci := 10) (v := .ref h_s) (C := RX10) (T := TX10) (N := 67) hx hb hw inAX10 hown hK hP 0 rfl rfl 6 (by decide) (hw _ q_1267) (fun _ h9 => h9) e_s dX10_pushed_44 ?_
      refine lv_bipush (v := 105) hx hb dX10_pushed_47 (by decide) ?_
      refine lv_iload hx hb dX10_pushed_49 (lv_at hl 0 rfl) ?_
      refine lv_iadd hx hb dX10_pushed_51 ?_
      refine lv_topi (fun v20 ev20 => ?_)
      have bv20 : v20.toInt = 105 + u6.toInt := by rw [ev20]; exact add_k rfl rfl ⟨Int.le_refl _, Int.le_refl _⟩ k15 (by decide)
      have k21 : 105 ≤ v20.toInt ∧ v20.toInt ≤ 108 := add_r bv20 ⟨Int.le_refl _, Int.le_refl _⟩ k15 (by decide)
      refine va_iald hx hb hK hP 1 0 rfl rfl (ix_k k21 (by decide) (by decide)) dX10_pushed_52 ?_
      refine lv_topi (fun v22 ev22 => ?_)
      have k23 : 0 ≤ v22.toInt ∧ v22.toInt ≤ 11 := by rw [ev22]; exact s_s_105.at _ (Int.le_trans (by decide) k21.1) (Int.le_trans k21.2 (by decide))
      refine lv_iadd hx hb dX10_pushed_53 ?_
      refine lv_topi (fun v24 ev24 => ?_)
      have bv24 : v24.toInt = 20 + v22.toInt := by rw [ev24]; exact add_k rfl rfl ⟨Int.le_refl _, Int.le_refl _⟩ k23 (by decide)
      have k25 : 20 ≤ v24.toInt ∧ v24.toInt ≤ 31 := add_r bv24 ⟨Int.le_refl _, Int.le_refl _⟩ k23 (by decide)
      refine va_iald hx hb hK hP 1 0 rfl rfl (ix_k k25 (by decide) (by decide)) dX10_pushed_54 ?_
      refine lv_topi (fun v26 ev26 => ?_)
      refine lv_imul hx hb dX10_pushed_55 ?_
      refine lv_topi (fun v27 ev27 => ?_)
      refine lv_icmp_ge (tgt := 80) hx hb dX10_pushed_56 (by decide) (fun c28 => ?_) (fun c28 => ?_)
      · have dc28 : v27.toInt ≤ p0.toInt := le_i (a := v27.toInt) (b := p0.toInt) rfl rfl c28
        refine lv_iconst (v := 0) hx hb dX10_pushed_80 (by decide) ?_
        refine lv_iadd hx hb dX10_pushed_81 ?_
        refine lv_topi (fun v29 ev29 => ?_)
        have bv29 : v29.toInt = u7.toInt + 0 := by rw [ev29]; exact add_k rfl rfl (ir_any _) ⟨Int.le_refl _, Int.le_refl _⟩ (by decide)
        have k30 : (-2147483648) ≤ v29.toInt ∧ v29.toInt ≤ 2147483647 := add_r bv29 (ir_any _) ⟨Int.le_refl _, Int.le_refl _⟩ (by decide)
        refine lv_istore (lv' := [(4, .int v29), (5, .int u6), (0, .ref h0), (1, .int p0), (2, .int p1), (3, .int p2)]) hx hb dX10_pushed_82 hl (by decide) rfl (fun ls hl => ?_)
        obtain ⟨v31, ev31⟩ : ∃ z : Int32, z = u6 + 1 := ⟨_, rfl⟩
        have bv31 : v31.toInt = u6.toInt + 1 := by rw [ev31]; exact add_k rfl rfl k15 ⟨Int.le_refl _, Int.le_refl _⟩ (by decide)
        have k32 : 1 ≤ v31.toInt ∧ v31.toInt ≤ 4 := add_r bv31 k15 ⟨Int.le_refl _, Int.le_refl _⟩ (by decide)
        refine lv_iinc (v := v31) (lv' := [(5, .int v31), (4, .int v29), (0, .ref h0), (1, .int p0), (2, .int p1), (3, .int p2)]) hx hb dX10_pushed_84 hl (k := 1) rfl (by rw [ev31]; rfl) (by decide) rfl (fun ls hl => ?_)
        refine lv_goto (tgt := 17) hx hb dX10_pushed_87 (by decide) ?_
        exact ih (v31, v29) (ir_wk k32 (by decide) (by decide)) (by show (4 - v31.toInt).toNat < (4 - u6.toInt).toNat; omega) _ _ _ hP hD hS (lv_sub hl [0, 1, 2, 3, 4, 5] rfl)
      · have dc28 : p0.toInt < v27.toInt := nle_i (a := v27.toInt) (b := p0.toInt) rfl rfl c28
        have k33 : (-2147483648) ≤ p0.toInt ∧ p0.toInt ≤ 2147483646 := ⟨(ir_any _).1, up_lt dc28 (ir_any _).2 (by decide)⟩
        have k34 : (-2147483647) ≤ v27.toInt ∧ v27.toInt ≤ 2147483647 := ⟨lo_lt dc28 (ir_any _).1 (by decide), (ir_any _).2⟩
        refine lv_aload_n hx hb dX10_pushed_59 rfl (lv_at hl 2 rfl) ?_
        refine get_f (D := D) (ci := 10) (v := .ref h_s) (C := RX10) (T := TX10) (N := 67) hx hb hw inAX10 hown hK hP 0 rfl rfl 6 (by decide) (hw _ q_1267) (fun _ h9 => h9) e_s dX10_pushed_60 ?_
        refine lv_bipush (v := 8) hx hb dX10_pushed_63 (by decide) ?_
        refine lv_aload_n hx hb dX10_pushed_65 rfl (lv_at hl 2 rfl) ?_
        refine get_f (D := D) (ci := 10) (v := .ref h_s) (C := RX10) (T := TX10) (N := 67) hx hb hw inAX10 hown hK hP 0 rfl rfl 6 (by decide) (hw _ q_1267) (fun _ h9 => h9) e_s dX10_pushed_66 ?_
        refine lv_bipush (v := 105) hx hb dX10_pushed_69 (by decide) ?_
        refine lv_iload hx hb dX10_pushed_71 (lv_at hl 0 rfl) ?_
        refine lv_iadd hx hb dX10_pushed_73 ?_
        refine lv_ci (y := v20) ev20.symm ?_
        refine va_iald hx hb hK hP 1 0 rfl rfl (ix_k k21 (by decide) (by decide)) dX10_pushed_74 ?_
        refine lv_ci (y := v22) ev22.symm ?_
        refine lv_iadd hx hb dX10_pushed_75 ?_
        refine lv_topi (fun v35 ev35 => ?_)
        have bv35 : v35.toInt = 8 + v22.toInt := by rw [ev35]; exact add_k rfl rfl ⟨Int.le_refl _, Int.le_refl _⟩ k23 (by decide)
        have k36 : 8 ≤ v35.toInt ∧ v35.toInt ≤ 19 := add_r bv35 ⟨Int.le_refl _, Int.le_refl _⟩ k23 (by decide)
        refine va_iald hx hb hK hP 1 0 rfl rfl (ix_k k36 (by decide) (by decide)) dX10_pushed_76 ?_
        refine lv_topi (fun v37 ev37 => ?_)
        refine lv_goto (tgt := 81) hx hb dX10_pushed_77 (by decide) ?_
        refine lv_iadd hx hb dX10_pushed_81 ?_
        refine lv_topi (fun v38 ev38 => ?_)
        refine lv_istore (lv' := [(4, .int v38), (5, .int u6), (0, .ref h0), (1, .int p0), (2, .int p1), (3, .int p2)]) hx hb dX10_pushed_82 hl (by decide) rfl (fun ls hl => ?_)
        obtain ⟨v39, ev39⟩ : ∃ z : Int32, z = u6 + 1 := ⟨_, rfl⟩
        have bv39 : v39.toInt = u6.toInt + 1 := by rw [ev39]; exact add_k rfl rfl k15 ⟨Int.le_refl _, Int.le_refl _⟩ (by decide)
        have k40 : 1 ≤ v39.toInt ∧ v39.toInt ≤ 4 := add_r bv39 k15 ⟨Int.le_refl _, Int.le_refl _⟩ (by decide)
        refine lv_iinc (v := v39) (lv' := [(5, .int v39), (4, .int v38), (0, .ref h0), (1, .int p0), (2, .int p1), (3, .int p2)]) hx hb dX10_pushed_84 hl (k := 1) rfl (by rw [ev39]; rfl) (by decide) rfl (fun ls hl => ?_)
        refine lv_goto (tgt := 17) hx hb dX10_pushed_87 (by decide) ?_
        exact ih (v39, v38) (ir_wk k40 (by decide) (by decide)) (by show (4 - v39.toInt).toNat < (4 - u6.toInt).toNat; omega) _ _ _ hP hD hS (lv_sub hl [0, 1, 2, 3, 4, 5] rfl)
    · have hP : va_P D vwCl [(h0, .inr (10, vL 67 Fh)), (h_s, .inl (cI, 335, .inl f_s))] H := hP
      have hD : va_D A [(h0, .inr (10, vL 67 Fh)), (h_s, .inl (cI, 335, .inl f_s))] := hD
      refine W.widen (k := 0) (n := 0) (Nat.le_of_ble_eq_true rfl) (Nat.le_of_ble_eq_true rfl) ?_
      refine lv_if_ne (tgt := 80) hx hb dX10_pushed_31 (by decide) (fun _ => ?_) (fun g => absurd g (by decide))
      refine lv_iconst (v := 0) hx hb dX10_pushed_80 (by decide) ?_
      refine lv_iadd hx hb dX10_pushed_81 ?_
      refine lv_topi (fun v41 ev41 => ?_)
      have bv41 : v41.toInt = u7.toInt + 0 := by rw [ev41]; exact add_k rfl rfl (ir_any _) ⟨Int.le_refl _, Int.le_refl _⟩ (by decide)
      have k42 : (-2147483648) ≤ v41.toInt ∧ v41.toInt ≤ 2147483647 := add_r bv41 (ir_any _) ⟨Int.le_refl _, Int.le_refl _⟩ (by decide)
      refine lv_istore (lv' := [(4, .int v41), (5, .int u6), (0, .ref h0), (1, .int p0), (2, .int p1), (3, .int p2)]) hx hb dX10_pushed_82 hl (by decide) rfl (fun ls hl => ?_)
      obtain ⟨v43, ev43⟩ : ∃ z : Int32, z = u6 + 1 := ⟨_, rfl⟩
      have bv43 : v43.toInt = u6.toInt + 1 := by rw [ev43]; exact add_k rfl rfl k15 ⟨Int.le_refl _, Int.le_refl _⟩ (by decide)
      have k44 : 1 ≤ v43.toInt ∧ v43.toInt ≤ 4 := add_r bv43 k15 ⟨Int.le_refl _, Int.le_refl _⟩ (by decide)
      refine lv_iinc (v := v43) (lv' := [(5, .int v43), (4, .int v41), (0, .ref h0), (1, .int p0), (2, .int p1), (3, .int p2)]) hx hb dX10_pushed_84 hl (k := 1) rfl (by rw [ev43]; rfl) (by decide) rfl (fun ls hl => ?_)
      refine lv_goto (tgt := 17) hx hb dX10_pushed_87 (by decide) ?_
      exact ih (v43, v41) (ir_wk k44 (by decide) (by decide)) (by show (4 - v43.toInt).toNat < (4 - u6.toInt).toNat; omega) _ _ _ hP hD hS (lv_sub hl [0, 1, 2, 3, 4, 5] rfl)
set_option maxHeartbeats 4000000 in
set_option maxRecDepth 100000 in
theorem m_X10_isLate (l : Launch) (D : va_G) (cI cJ cB cP cM cZ : ClassId) (h0 : Nat) (h_s : Nat) (Fh : Nat → Value) (f_s : Nat → Int32) (p0 : Int32) (p1 : Int32) (bs : Nat → Int32) (sz : Nat) (e_s : Fh 6 = .ref h_s) (s_s_K0 : KW 0 f_s) (s_s_US : US bs f_s) (s_s_0 : SG 0 0 0 40 f_s) (s_s_105 : SG 105 108 0 11 f_s) (s_s_114 : SG 114 114 0 5 f_s) (s_s_130 : SG 130 133 0 11 f_s) (s_s_139 : SG 139 139 0 5 f_s) (s_s_153 : SG 153 153 0 44 f_s) (s_s_44 : SG 44 55 0 9 f_s) (s_s_5 : SG 5 5 0 12 f_s) (s_s_6 : SG 6 6 0 12 f_s) (s_s_7 : SG 7 7 0 6 f_s) (i_p1 : IR 0 3 p1) : CI l yX10_isLate cX10_isLate 3 (some .boolean) { frames := 0, cells := 0, slots := 0, locals := 0 } (GG D cI cJ cB cP cM cZ) D [(h0, .inr (10, vL 67 Fh)), (h_s, .inl (cI, 335, .inl f_s))] sz [.ref h0, .int p0, .int p1] (fun (r : Int32) (u : va_W) => IR 0 1 r ∧ u = [(h0, .inr (10, vL 67 Fh)), (h_s, .inl (cI, 335, .inl f_s))]) := by
  refine CI_mk (by decide) (Nat.le_of_ble_eq_true rfl) ?_
  intro p e s m below meth c A ls E hAe hG hsz hP hD hA hS hl
  obtain ⟨hx, hb, hr, hw, hown, hlocks, hml, hnm⟩ := E
  have hK := hG.1
  have i_p1 : 0 ≤ p1.toInt ∧ p1.toInt ≤ 3 := i_p1
  have hl : lv_has ls 3 [(0, .ref h0), (1, .int p0), (2, .int p1)] := hl
  refine lv_bipush (v := 12) hx hb dX10_isLate_0 (by decide) ?_
  refine lv_aload_n hx hb dX10_isLate_2 rfl (lv_at hl 0 rfl) ?_
  refine get_f (D := D) (ci := 10) (v := .ref h_s) (C := RX10) (T := TX10) (N := 67) hx hb hw inAX10 hown hK hP 0 rfl rfl 6 (by decide) (hw _ q_1267) (fun _ h9 => h9) e_s dX10_isLate_3 ?_
  refine lv_bipush (v := 20) hx hb dX10_isLate_6 (by decide) ?_
  refine lv_aload_n hx hb dX10_isLate_8 rfl (lv_at hl 0 rfl) ?_
  refine get_f (D := D) (ci := 10) (v := .ref h_s) (C := RX10) (T := TX10) (N := 67) hx hb hw inAX10 hown hK hP 0 rfl rfl 6 (by decide) (hw _ q_1267) (fun _ h9 => h9) e_s dX10_isLate_9 ?_
  refine lv_bipush (v := 105) hx hb dX10_isLate_12 (by decide) ?_
  refine lv_iload_n hx hb dX10_isLate_14 rfl (lv_at hl 2 rfl) ?_
  refine lv_iadd hx hb dX10_isLate_15 ?_
  refine lv_topi (fun v1 ev1 => ?_)
  have bv1 : v1.toInt = 105 + p1.toInt := by rw [ev1]; exact add_k rfl rfl ⟨Int.le_refl _, Int.le_refl _⟩ i_p1 (by decide)
  have k2 : 105 ≤ v1.toInt ∧ v1.toInt ≤ 108 := add_r bv1 ⟨Int.le_refl _, Int.le_refl _⟩ i_p1 (by decide)
  refine va_iald hx hb hK hP 1 0 rfl rfl (ix_k k2 (by decide) (by decide)) dX10_isLate_16 ?_
  refine lv_topi (fun v3 ev3 => ?_)
  have k4 : 0 ≤ v3.toInt ∧ v3.toInt ≤ 11 := by rw [ev3]; exact s_s_105.at _ (Int.le_trans (by decide) k2.1) (Int.le_trans k2.2 (by decide))
  refine lv_iadd hx hb dX10_isLate_17 ?_
  refine lv_topi (fun v5 ev5 => ?_)
  have bv5 : v5.toInt = 20 + v3.toInt := by rw [ev5]; exact add_k rfl rfl ⟨Int.le_refl _, Int.le_refl _⟩ k4 (by decide)
  have k6 : 20 ≤ v5.toInt ∧ v5.toInt ≤ 31 := add_r bv5 ⟨Int.le_refl _, Int.le_refl _⟩ k4 (by decide)
  refine va_iald hx hb hK hP 1 0 rfl rfl (ix_k k6 (by decide) (by decide)) dX10_isLate_18 ?_
  refine lv_topi (fun v7 ev7 => ?_)
  refine lv_imul hx hb dX10_isLate_19 ?_
  refine lv_topi (fun v8 ev8 => ?_)
  refine lv_bipush (v := 20) hx hb dX10_isLate_20 (by decide) ?_
  refine lv_iadd hx hb dX10_isLate_22 ?_
  refine lv_topi (fun v9 ev9 => ?_)
  refine lv_iload_n hx hb dX10_isLate_23 rfl (lv_at hl 1 rfl) ?_
  refine lv_icmp_ge (tgt := 31) hx hb dX10_isLate_24 (by decide) (fun c10 => ?_) (fun c10 => ?_)
  · have dc10 : p0.toInt ≤ v9.toInt := le_i (a := p0.toInt) (b := v9.toInt) rfl rfl c10
    refine lv_iconst (v := 0) hx hb dX10_isLate_31 (by decide) ?_
    exact ret_i (v := 0) hx hb hr hlocks hS hP hD dX10_isLate_32 rfl (Nat.le_of_ble_eq_true rfl) (Nat.le_of_ble_eq_true rfl) ⟨(show 0 ≤ (0 : Int32).toInt ∧ (0 : Int32).toInt ≤ 1 by decide), rfl⟩
  · have dc10 : v9.toInt < p0.toInt := nle_i (a := p0.toInt) (b := v9.toInt) rfl rfl c10
    have k11 : (-2147483648) ≤ v9.toInt ∧ v9.toInt ≤ 2147483646 := ⟨(ir_any _).1, up_lt dc10 (ir_any _).2 (by decide)⟩
    have k12 : (-2147483647) ≤ p0.toInt ∧ p0.toInt ≤ 2147483647 := ⟨lo_lt dc10 (ir_any _).1 (by decide), (ir_any _).2⟩
    refine lv_iconst (v := 1) hx hb dX10_isLate_27 (by decide) ?_
    refine lv_goto (tgt := 32) hx hb dX10_isLate_28 (by decide) ?_
    exact ret_i (v := 1) hx hb hr hlocks hS hP hD dX10_isLate_32 rfl (Nat.le_of_ble_eq_true rfl) (Nat.le_of_ble_eq_true rfl) ⟨(show 0 ≤ (1 : Int32).toInt ∧ (1 : Int32).toInt ≤ 1 by decide), rfl⟩
set_option maxHeartbeats 4000000 in
set_option maxRecDepth 100000 in
theorem m_X10_starts (l : Launch) (D : va_G) (cI cJ cB cP cM cZ : ClassId) (h0 : Nat) (h_s : Nat) (h_paceAt : Nat) (h_kindOf : Nat) (Fh : Nat → Value) (x_seed : Int32) (x_kicks : Int32) (f_s : Nat → Int32) (f_paceAt : Nat → Int32) (f_kindOf : Nat → Int32) (bs : Nat → Int32) (sz : Nat) (e_s : Fh 6 = .ref h_s) (e_paceAt : Fh 25 = .ref h_paceAt) (e_kindOf : Fh 26 = .ref h_kindOf) (e_seed : Fh 31 = .int x_seed) (e_kicks : Fh 32 = .int x_kicks) (i_x_kicks : IR 0 1 x_kicks) (s_s_K0 : KW 0 f_s) (s_s_US : US bs f_s) (s_s_0 : SG 0 0 0 40 f_s) (s_s_105 : SG 105 108 0 11 f_s) (s_s_114 : SG 114 114 0 5 f_s) (s_s_130 : SG 130 133 0 11 f_s) (s_s_139 : SG 139 139 0 5 f_s) (s_s_153 : SG 153 153 0 44 f_s) (s_s_44 : SG 44 55 0 9 f_s) (s_s_5 : SG 5 5 0 12 f_s) (s_s_6 : SG 6 6 0 12 f_s) (s_s_7 : SG 7 7 0 6 f_s) : CV l yX10_starts cX10_starts 6 none { frames := 3, cells := 0, slots := 0, locals := 69 } (GG D cI cJ cB cP cM cZ) D [(h0, .inr (10, vL 67 Fh)), (h_s, .inl (cI, 335, .inl f_s)), (h_paceAt, .inl (cI, 40, .inl f_paceAt)), (h_kindOf, .inl (cI, 4, .inl f_kindOf))] sz [.ref h0] (fun (u : va_W) => ∃ (Gh : Nat → Value) (y_lineTime : Int32) (y_linePace : Int32) (y_inside : Int32) (y_late : Int32) (y_seed : Int32) (g_paceAt : Nat → Int32) (g_kindOf : Nat → Int32), SAME [27, 28, 29, 30, 31] Fh Gh ∧ Gh 27 = .int y_lineTime ∧ Gh 28 = .int y_linePace ∧ IR 10 250 y_linePace ∧ Gh 29 = .int y_inside ∧ IR 0 15 y_inside ∧ Gh 30 = .int y_late ∧ IR 0 15 y_late ∧ Gh 31 = .int y_seed ∧ u = [(h0, .inr (10, vL 67 Gh)), (h_s, .inl (cI, 335, .inl f_s)), (h_paceAt, .inl (cI, 40, .inl g_paceAt)), (h_kindOf, .inl (cI, 4, .inl g_kindOf))]) := by
  refine CV_mk (by decide) (Nat.le_of_ble_eq_true rfl) ?_
  intro p e s m below meth c A ls E hAe hG hsz hP hD hA hS hl
  obtain ⟨hx, hb, hr, hw, hown, hlocks, hml, hnm⟩ := E
  have hK := hG.1
  have i_x_kicks : 0 ≤ x_kicks.toInt ∧ x_kicks.toInt ≤ 1 := i_x_kicks
  have hl : lv_has ls 6 [(0, .ref h0)] := hl
  refine lv_bipush (v := 30) hx hb dX10_starts_0 (by decide) ?_
  refine lv_istore_n (lv' := [(1, .int 30), (0, .ref h0)]) hx hb dX10_starts_2 rfl hl (by decide) rfl (fun ls hl => ?_)
  refine lv_iconst (v := 0) hx hb dX10_starts_3 (by decide) ?_
  refine lv_istore_n (lv' := [(2, .int 0), (1, .int 30), (0, .ref h0)]) hx hb dX10_starts_4 rfl hl (by decide) rfl (fun ls hl => ?_)
  refine lv_aload_n hx hb dX10_starts_5 rfl (lv_at hl 2 rfl) ?_
  refine lv_iconst (v := 0) hx hb dX10_starts_6 (by decide) ?_
  refine put_f (D := D) (ci := 10) (v := .int 0) (ty := .int) (C := RX10) (T := TX10) (N := 67) hx hb hw inAX10 tyX10 tyX10_ok nmX10 hown hK hP hD hS 0 rfl rfl 27 (by decide) (hw _ q_1288) (fun _ h9 => h9) rfl (by decide +kernel) rfl rfl dX10_starts_7 (fun H locs F1 eF1 hP hD hS => ?_)
  have hP : va_P D vwCl [(h0, .inr (10, vL 67 F1)), (h_s, .inl (cI, 335, .inl f_s)), (h_paceAt, .inl (cI, 40, .inl f_paceAt)), (h_kindOf, .inl (cI, 4, .inl f_kindOf))] H := hP
  have hD : va_D A [(h0, .inr (10, vL 67 F1)), (h_s, .inl (cI, 335, .inl f_s)), (h_paceAt, .inl (cI, 40, .inl f_paceAt)), (h_kindOf, .inl (cI, 4, .inl f_kindOf))] := hD
  refine lv_aload_n hx hb dX10_starts_10 rfl (lv_at hl 2 rfl) ?_
  refine lv_iconst (v := 0) hx hb dX10_starts_11 (by decide) ?_
  refine put_f (D := D) (ci := 10) (v := .int 0) (ty := .int) (C := RX10) (T := TX10) (N := 67) hx hb hw inAX10 tyX10 tyX10_ok nmX10 hown hK hP hD hS 0 rfl rfl 29 (by decide) (hw _ q_1290) (fun _ h9 => h9) rfl (by decide +kernel) rfl rfl dX10_starts_12 (fun H locs F2 eF2 hP hD hS => ?_)
  have hP : va_P D vwCl [(h0, .inr (10, vL 67 F2)), (h_s, .inl (cI, 335, .inl f_s)), (h_paceAt, .inl (cI, 40, .inl f_paceAt)), (h_kindOf, .inl (cI, 4, .inl f_kindOf))] H := hP
  have hD : va_D A [(h0, .inr (10, vL 67 F2)), (h_s, .inl (cI, 335, .inl f_s)), (h_paceAt, .inl (cI, 40, .inl f_paceAt)), (h_kindOf, .inl (cI, 4, .inl f_kindOf))] := hD
  refine lv_aload_n hx hb dX10_starts_15 rfl (lv_at hl 2 rfl) ?_
  refine lv_iconst (v := 0) hx hb dX10_starts_16 (by decide) ?_
  refine put_f (D := D) (ci := 10) (v := .int 0) (ty := .int) (C := RX10) (T := TX10) (N := 67) hx hb hw inAX10 tyX10 tyX10_ok nmX10 hown hK hP hD hS 0 rfl rfl 30 (by decide) (hw _ q_1291) (fun _ h9 => h9) rfl (by decide +kernel) rfl rfl dX10_starts_17 (fun H locs F3 eF3 hP hD hS => ?_)
  have hP : va_P D vwCl [(h0, .inr (10, vL 67 F3)), (h_s, .inl (cI, 335, .inl f_s)), (h_paceAt, .inl (cI, 40, .inl f_paceAt)), (h_kindOf, .inl (cI, 4, .inl f_kindOf))] H := hP
  have hD : va_D A [(h0, .inr (10, vL 67 F3)), (h_s, .inl (cI, 335, .inl f_s)), (h_paceAt, .inl (cI, 40, .inl f_paceAt)), (h_kindOf, .inl (cI, 4, .inl f_kindOf))] := hD
  refine lv_iconst (v := 0) hx hb dX10_starts_20 (by decide) ?_
  refine lv_istore_n (lv' := [(3, .int 0), (2, .int 0), (1, .int 30), (0, .ref h0)]) hx hb dX10_starts_21 rfl hl (by decide) rfl (fun ls hl => ?_)
  have n14 : F2 27 = .int 0 := (get_ne eF2 (by decide) (get_eq eF1))
  have n15 : F3 27 = .int 0 := (get_ne eF3 (by decide) n14)
  have n16 : F3 29 = .int 0 := (get_ne eF3 (by decide) (get_eq eF2))
  have n17 : F1 31 = .int x_seed := (get_ne eF1 (by decide) e_seed)
  have n18 : F2 31 = .int x_seed := (get_ne eF2 (by decide) n17)
  have n19 : F3 31 = .int x_seed := (get_ne eF3 (by decide) n18)
  refine mloop (α := (Int32) × (Int32) × (Int32) × (Nat → Value) × (Int32) × (Int32) × (Int32) × (Int32) × (Nat → Int32) × (Nat → Int32)) (nL := 6) (D := D) (A := A) (H0 := s.heap) (fun a => (40 - a.1.toInt).toNat) (fun a => IR 0 40 a.1 ∧ IR 0 1 a.2.1 ∧ IR 10 250 a.2.2.1 ∧ SAME [27, 29, 30, 31] F3 a.2.2.2.1 ∧ a.2.2.2.1 27 = .int a.2.2.2.2.1 ∧ a.2.2.2.1 29 = .int a.2.2.2.2.2.1 ∧ a.2.2.2.1 30 = .int a.2.2.2.2.2.2.1 ∧ a.2.2.2.1 31 = .int a.2.2.2.2.2.2.2.1 ∧ IR 0 15 a.2.2.2.2.2.1 ∧ IR 0 15 a.2.2.2.2.2.2.1) (fun a => [(h0, .inr (10, vL 67 a.2.2.2.1)), (h_s, .inl (cI, 335, .inl f_s)), (h_paceAt, .inl (cI, 40, .inl a.2.2.2.2.2.2.2.2.1)), (h_kindOf, .inl (cI, 4, .inl a.2.2.2.2.2.2.2.2.2))]) (fun a => [(3, .int a.1), (2, .int a.2.1), (1, .int a.2.2.1), (0, .ref h0)]) (fun H locs ls => W p l e ({ frames := 3, cells := 0, slots := 0, locals := 69 } : Room) s m [.ref h0].toArray below meth c H locs 0 0 (MQ below (va_Qv (fun (u : va_W) => ∃ (Gh : Nat → Value) (y_lineTime : Int32) (y_linePace : Int32) (y_inside : Int32) (y_late : Int32) (y_seed : Int32) (g_paceAt : Nat → Int32) (g_kindOf : Nat → Int32), SAME [27, 28, 29, 30, 31] Fh Gh ∧ Gh 27 = .int y_lineTime ∧ Gh 28 = .int y_linePace ∧ IR 10 250 y_linePace ∧ Gh 29 = .int y_inside ∧ IR 0 15 y_inside ∧ Gh 30 = .int y_late ∧ IR 0 15 y_late ∧ Gh 31 = .int y_seed ∧ u = [(h0, .inr (10, vL 67 Gh)), (h_s, .inl (cI, 335, .inl f_s)), (h_paceAt, .inl (cI, 40, .inl g_paceAt)), (h_kindOf, .inl (cI, 4, .inl g_kindOf))]) (PO D A) A) [.ref h0].toArray s 0 0 A) (F0 m 22 ls [])) ?_ (0, 0, 30, F3, 0, 0, 0, x_seed, f_paceAt, f_kindOf) ⟨(show 0 ≤ (0 : Int32).toInt ∧ (0 : Int32).toInt ≤ 40 by decide), (show 0 ≤ (0 : Int32).toInt ∧ (0 : Int32).toInt ≤ 1 by decide), (show 10 ≤ (30 : Int32).toInt ∧ (30 : Int32).toInt ≤ 250 by decide), SAME.rf, n15, n16, (get_eq eF3), n19, (show 0 ≤ (0 : Int32).toInt ∧ (0 : Int32).toInt ≤ 15 by decide), (show 0 ≤ (0 : Int32).toInt ∧ (0 : Int32).toInt ≤ 15 by decide)⟩ _ _ _ hP hD hS hl
  rintro ⟨u4, u5, u6, G7, u8, u9, u10, u11, w12, w13⟩ ⟨i20, i21, i22, i23, i24, i25, i26, i27, i28, i29⟩ ih H locs ls hP hD hS hl
  have i20 : 0 ≤ u4.toInt ∧ u4.toInt ≤ 40 := i20
  have i21 : 0 ≤ u5.toInt ∧ u5.toInt ≤ 1 := i21
  have i22 : 10 ≤ u6.toInt ∧ u6.toInt ≤ 250 := i22
  have i28 : 0 ≤ u9.toInt ∧ u9.toInt ≤ 15 := i28
  have i29 : 0 ≤ u10.toInt ∧ u10.toInt ≤ 15 := i29
  have hP : va_P D vwCl [(h0, .inr (10, vL 67 G7)), (h_s, .inl (cI, 335, .inl f_s)), (h_paceAt, .inl (cI, 40, .inl w12)), (h_kindOf, .inl (cI, 4, .inl w13))] H := hP
  have hD : va_D A [(h0, .inr (10, vL 67 G7)), (h_s, .inl (cI, 335, .inl f_s)), (h_paceAt, .inl (cI, 40, .inl w12)), (h_kindOf, .inl (cI, 4, .inl w13))] := hD
  have hl : lv_has ls 6 [(3, .int u4), (2, .int u5), (1, .int u6), (0, .ref h0)] := hl
  refine lv_iload_n hx hb dX10_starts_22 rfl (lv_at hl 0 rfl) ?_
  refine lv_aload_n hx hb dX10_starts_23 rfl (lv_at hl 3 rfl) ?_
  have n30 : F1 6 = .ref h_s := (get_ne eF1 (by decide) e_s)
  have n31 : F2 6 = .ref h_s := (get_ne eF2 (by decide) n30)
  have n32 : F3 6 = .ref h_s := (get_ne eF3 (by decide) n31)
  have n33 : G7 6 = .ref h_s := (SAME.at i23 (by decide) n32)
  refine get_f (D := D) (ci := 10) (v := .ref h_s) (C := RX10) (T := TX10) (N := 67) hx hb hw inAX10 hown hK hP 0 rfl rfl 6 (by decide) (hw _ q_1267) (fun _ h9 => h9) n33 dX10_starts_24 ?_
  refine lv_iconst (v := 0) hx hb dX10_starts_27 (by decide) ?_
  refine iald_n hx hb hK hP 1 0 rfl rfl 0 rfl (Nat.le_of_ble_eq_true rfl) (Nat.le_of_ble_eq_true rfl) rfl dX10_starts_28 ?_
  refine lv_topi (fun v34 ev34 => ?_)
  have k35 : 0 ≤ v34.toInt ∧ v34.toInt ≤ 40 := by rw [ev34]; exact s_s_0.atN 0 (by decide) (by decide)
  refine lv_icmp_ge (tgt := 233) hx hb dX10_starts_29 (by decide) (fun c36 => ?_) (fun c36 => ?_)
  · have dc36 : v34.toInt ≤ u4.toInt := le_i (a := v34.toInt) (b := u4.toInt) rfl rfl c36
    refine lv_aload_n hx hb dX10_starts_233 rfl (lv_at hl 3 rfl) ?_
    refine lv_iload_n hx hb dX10_starts_234 rfl (lv_at hl 2 rfl) ?_
    refine put_f (D := D) (ci := 10) (v := .int u6) (ty := .int) (C := RX10) (T := TX10) (N := 67) hx hb hw inAX10 tyX10 tyX10_ok nmX10 hown hK hP hD hS 0 rfl rfl 28 (by decide) (hw _ q_1289) (fun _ h9 => h9) rfl (by decide +kernel) rfl rfl dX10_starts_235 (fun H locs F37 eF37 hP hD hS => ?_)
    have hP : va_P D vwCl [(h0, .inr (10, vL 67 F37)), (h_s, .inl (cI, 335, .inl f_s)), (h_paceAt, .inl (cI, 40, .inl w12)), (h_kindOf, .inl (cI, 4, .inl w13))] H := hP
    have hD : va_D A [(h0, .inr (10, vL 67 F37)), (h_s, .inl (cI, 335, .inl f_s)), (h_paceAt, .inl (cI, 40, .inl w12)), (h_kindOf, .inl (cI, 4, .inl w13))] := hD
    exact ret_v hx hb hr hlocks hS hP hD dX10_starts_238 (Nat.le_of_ble_eq_true rfl) (Nat.le_of_ble_eq_true rfl) ⟨F37, u8, u6, u9, u10, u11, w12, w13, (SAME.up eF37 (SAME.tr (SAME.up eF3 (SAME.up eF2 (SAME.up eF1 SAME.rf (by decide)) (by decide)) (by decide)) i23 (by decide)) (by decide)), (get_ne eF37 (by decide) i24), (get_eq eF37), i22, (get_ne eF37 (by decide) i25), i28, (get_ne eF37 (by decide) i26), i29, (get_ne eF37 (by decide) i27), rfl⟩
  · have dc36 : u4.toInt < v34.toInt := nle_i (a := v34.toInt) (b := u4.toInt) rfl rfl c36
    have k38 : 0 ≤ u4.toInt ∧ u4.toInt ≤ 39 := ⟨i20.1, up_lt dc36 k35.2 (by decide)⟩
    have k39 : 1 ≤ v34.toInt ∧ v34.toInt ≤ 40 := ⟨lo_lt dc36 i20.1 (by decide), k35.2⟩
    refine lv_aload_n hx hb dX10_starts_32 rfl (lv_at hl 3 rfl) ?_
    refine lv_iload_n hx hb dX10_starts_33 rfl (lv_at hl 2 rfl) ?_
    refine lv_aload_n hx hb dX10_starts_34 rfl (lv_at hl 3 rfl) ?_
    refine get_f (D := D) (ci := 10) (v := .int u9) (C := RX10) (T := TX10) (N := 67) hx hb hw inAX10 hown hK hP 0 rfl rfl 29 (by decide) (hw _ q_1290) (fun _ h9 => h9) i25 dX10_starts_35 ?_
    refine lv_aload_n hx hb dX10_starts_38 rfl (lv_at hl 3 rfl) ?_
    refine get_f (D := D) (ci := 10) (v := .int u10) (C := RX10) (T := TX10) (N := 67) hx hb hw inAX10 hown hK hP 0 rfl rfl 30 (by decide) (hw _ q_1291) (fun _ h9 => h9) i26 dX10_starts_39 ?_
    refine lv_ior hx hb dX10_starts_42 ?_
    refine lv_topi (fun v40 ev40 => ?_)
    have k41 : 0 ≤ v40.toInt ∧ v40.toInt ≤ 15 := by rw [ev40]; exact or_ik (ir_wk i28 (by decide) (by decide)) (ir_wk i29 (by decide) (by decide))
    refine lv_aload_n hx hb dX10_starts_43 rfl (lv_at hl 3 rfl) ?_
    refine get_f (D := D) (ci := 10) (v := .int u9) (C := RX10) (T := TX10) (N := 67) hx hb hw inAX10 hown hK hP 0 rfl rfl 29 (by decide) (hw _ q_1290) (fun _ h9 => h9) i25 dX10_starts_44 ?_
    refine call_Vi (wr := [(h_paceAt, .inl (cI, 40, .inl w12)), (h_kindOf, .inl (cI, 4, .inl w13))]) (As := [.int u6, .int v40, .int u9]) (rest := []) hx hb hml hown hw (m_X10_pushed l D cI cJ cB cP cM cZ h0 h_s G7 f_s u6 v40 u9 bs _ n33 s_s_K0 s_s_US s_s_0 s_s_105 s_s_114 s_s_130 s_s_139 s_s_153 s_s_44 s_s_5 s_s_6 s_s_7) wV_X10_323_X10_pushed dX10_starts_47 hK hP hD hS hA [0, 1] [2, 3] rfl rfl (by decide) (by decide) (by decide) 0 10 rfl rfl GG.fb hG.at hl.1 rfl (Nat.le_of_ble_eq_true rfl) ⟨(Nat.le_of_ble_eq_true rfl), (Nat.le_of_ble_eq_true rfl)⟩ ⟨(Nat.le_of_ble_eq_true rfl), (Nat.le_of_ble_eq_true rfl)⟩ (fun r42 u H locs hp hP hD hS => ?_)
    obtain ⟨t43, rfl⟩ := hp
    have hP : va_P D vwCl [(h_paceAt, .inl (cI, 40, .inl w12)), (h_kindOf, .inl (cI, 4, .inl w13)), (h0, .inr (10, vL 67 G7)), (h_s, .inl (cI, 335, .inl f_s))] H := hP
    have hD : va_D A [(h_paceAt, .inl (cI, 40, .inl w12)), (h_kindOf, .inl (cI, 4, .inl w13)), (h0, .inr (10, vL 67 G7)), (h_s, .inl (cI, 335, .inl f_s))] := hD
    refine W.widen (k := 0) (n := 0) (Nat.le_of_ble_eq_true rfl) (Nat.le_of_ble_eq_true rfl) ?_
    refine lv_istore_n (lv' := [(1, .int r42), (3, .int u4), (2, .int u5), (0, .ref h0)]) hx hb dX10_starts_50 rfl hl (by decide) rfl (fun ls hl => ?_)
    refine lv_iconst (v := 0) hx hb dX10_starts_51 (by decide) ?_
    refine lv_istore (lv' := [(4, .int 0), (1, .int r42), (3, .int u4), (2, .int u5), (0, .ref h0)]) hx hb dX10_starts_52 hl (by decide) rfl (fun ls hl => ?_)
    refine lv_iconst (v := 0) hx hb dX10_starts_54 (by decide) ?_
    refine lv_istore (lv' := [(5, .int 0), (4, .int 0), (1, .int r42), (3, .int u4), (2, .int u5), (0, .ref h0)]) hx hb dX10_starts_55 hl (by decide) rfl (fun ls hl => ?_)
    refine mloop (α := (Int32) × (Int32) × (Int32) × (Nat → Int32) × (Nat → Value) × (Int32) × (Int32) × (Int32)) (nL := 6) (D := D) (A := A) (H0 := s.heap) (fun a => (4 - a.1.toInt).toNat) (fun a => IR 0 4 a.1 ∧ IR 0 1 a.2.1 ∧ IR 10 250 a.2.2.1 ∧ SAME [29, 30, 31] G7 a.2.2.2.2.1 ∧ a.2.2.2.2.1 29 = .int a.2.2.2.2.2.1 ∧ a.2.2.2.2.1 30 = .int a.2.2.2.2.2.2.1 ∧ a.2.2.2.2.1 31 = .int a.2.2.2.2.2.2.2 ∧ IR 0 15 a.2.2.2.2.2.1 ∧ IR 0 15 a.2.2.2.2.2.2.1) (fun a => [(h_paceAt, .inl (cI, 40, .inl w12)), (h_kindOf, .inl (cI, 4, .inl a.2.2.2.1)), (h0, .inr (10, vL 67 a.2.2.2.2.1)), (h_s, .inl (cI, 335, .inl f_s))]) (fun a => [(5, .int a.1), (4, .int a.2.1), (1, .int a.2.2.1), (3, .int u4), (2, .int u5), (0, .ref h0)]) (fun H locs ls => W p l e ({ frames := 3, cells := 0, slots := 0, locals := 69 } : Room) s m [.ref h0].toArray below meth c H locs 0 0 (MQ below (va_Qv (fun (u : va_W) => ∃ (Gh : Nat → Value) (y_lineTime : Int32) (y_linePace : Int32) (y_inside : Int32) (y_late : Int32) (y_seed : Int32) (g_paceAt : Nat → Int32) (g_kindOf : Nat → Int32), SAME [27, 28, 29, 30, 31] Fh Gh ∧ Gh 27 = .int y_lineTime ∧ Gh 28 = .int y_linePace ∧ IR 10 250 y_linePace ∧ Gh 29 = .int y_inside ∧ IR 0 15 y_inside ∧ Gh 30 = .int y_late ∧ IR 0 15 y_late ∧ Gh 31 = .int y_seed ∧ u = [(h0, .inr (10, vL 67 Gh)), (h_s, .inl (cI, 335, .inl f_s)), (h_paceAt, .inl (cI, 40, .inl g_paceAt)), (h_kindOf, .inl (cI, 4, .inl g_kindOf))]) (PO D A) A) [.ref h0].toArray s 0 0 A) (F0 m 57 ls [])) ?_ (0, 0, r42, w13, G7, u9, u10, u11) ⟨(show 0 ≤ (0 : Int32).toInt ∧ (0 : Int32).toInt ≤ 4 by decide), (show 0 ≤ (0 : Int32).toInt ∧ (0 : Int32).toInt ≤ 1 by decide), t43, SAME.rf, i25, i26, i27, i28, i29⟩ _ _ _ hP hD hS hl
    rintro ⟨u45, u46, u47, w48, G49, u50, u51, u52⟩ ⟨i53, i54, i55, i56, i57, i58, i59, i60, i61⟩ ih_57 H locs ls hP hD hS hl
    have i53 : 0 ≤ u45.toInt ∧ u45.toInt ≤ 4 := i53
    have i54 : 0 ≤ u46.toInt ∧ u46.toInt ≤ 1 := i54
    have i55 : 10 ≤ u47.toInt ∧ u47.toInt ≤ 250 := i55
    have i60 : 0 ≤ u50.toInt ∧ u50.toInt ≤ 15 := i60
    have i61 : 0 ≤ u51.toInt ∧ u51.toInt ≤ 15 := i61
    have hP : va_P D vwCl [(h_paceAt, .inl (cI, 40, .inl w12)), (h_kindOf, .inl (cI, 4, .inl w48)), (h0, .inr (10, vL 67 G49)), (h_s, .inl (cI, 335, .inl f_s))] H := hP
    have hD : va_D A [(h_paceAt, .inl (cI, 40, .inl w12)), (h_kindOf, .inl (cI, 4, .inl w48)), (h0, .inr (10, vL 67 G49)), (h_s, .inl (cI, 335, .inl f_s))] := hD
    have hl : lv_has ls 6 [(5, .int u45), (4, .int u46), (1, .int u47), (3, .int u4), (2, .int u5), (0, .ref h0)] := hl
    refine lv_iload hx hb dX10_starts_57 (lv_at hl 0 rfl) ?_
    refine lv_iconst (v := 4) hx hb dX10_starts_59 (by decide) ?_
    refine lv_icmp_ge (tgt := 203) hx hb dX10_starts_60 (by decide) (fun c62 => ?_) (fun c62 => ?_)
    · have dc62 : 4 ≤ u45.toInt := le_i (a := 4) (b := u45.toInt) rfl rfl c62
      have k63 : 4 ≤ u45.toInt ∧ u45.toInt ≤ 4 := ⟨Int.le_trans (Int.le_refl _) dc62, i53.2⟩
      refine lv_iload hx hb dX10_starts_203 (lv_at hl 1 rfl) ?_
      refine lv_istore_n (lv' := [(2, .int u46), (5, .int u45), (4, .int u46), (1, .int u47), (3, .int u4), (0, .ref h0)]) hx hb dX10_starts_205 rfl hl (by decide) rfl (fun ls hl => ?_)
      refine lv_aload_n hx hb dX10_starts_206 rfl (lv_at hl 5 rfl) ?_
      have n64 : F1 25 = .ref h_paceAt := (get_ne eF1 (by decide) e_paceAt)
      have n65 : F2 25 = .ref h_paceAt := (get_ne eF2 (by decide) n64)
      have n66 : F3 25 = .ref h_paceAt := (get_ne eF3 (by decide) n65)
      have n67 : G7 25 = .ref h_paceAt := (SAME.at i23 (by decide) n66)
      have n68 : G49 25 = .ref h_paceAt := (SAME.at i56 (by decide) n67)
      refine get_f (D := D) (ci := 10) (v := .ref h_paceAt) (C := RX10) (T := TX10) (N := 67) hx hb hw inAX10 hown hK hP 2 rfl rfl 25 (by decide) (hw _ q_1286) (fun _ h9 => h9) n68 dX10_starts_207 ?_
      refine lv_iload_n hx hb dX10_starts_210 rfl (lv_at hl 4 rfl) ?_
      refine lv_iload_n hx hb dX10_starts_211 rfl (lv_at hl 3 rfl) ?_
      obtain ⟨g69, eg69⟩ : ∃ z : Nat → Int32, upd w12 u4.toNatClampNeg u47 = z := ⟨_, rfl⟩
      refine iast_g hx hb hK hP hD hS 0 0 rfl rfl (ix_k k38 (by decide) (by decide)) eg69 dX10_starts_212 (fun H locs hP hD hS => ?_)
      have hP : va_P D vwCl [(h_paceAt, .inl (cI, 40, .inl g69)), (h_kindOf, .inl (cI, 4, .inl w48)), (h0, .inr (10, vL 67 G49)), (h_s, .inl (cI, 335, .inl f_s))] H := hP
      have hD : va_D A [(h_paceAt, .inl (cI, 40, .inl g69)), (h_kindOf, .inl (cI, 4, .inl w48)), (h0, .inr (10, vL 67 G49)), (h_s, .inl (cI, 335, .inl f_s))] := hD
      refine lv_aload_n hx hb dX10_starts_213 rfl (lv_at hl 5 rfl) ?_
      refine lv_dup hx hb dX10_starts_214 rfl ?_
      have n70 : G49 27 = .int u8 := (SAME.at i56 (by decide) i24)
      refine get_f (D := D) (ci := 10) (v := .int u8) (C := RX10) (T := TX10) (N := 67) hx hb hw inAX10 hown hK hP 2 rfl rfl 27 (by decide) (hw _ q_1288) (fun _ h9 => h9) n70 dX10_starts_215 ?_
      refine lv_sipush (v := 3000) hx hb dX10_starts_218 (by decide) ?_
      refine lv_iload_n hx hb dX10_starts_221 rfl (lv_at hl 3 rfl) ?_
      refine lv_idiv hx hb dX10_starts_222 (nz_k i55 (by decide)) ?_
      refine lv_topi (fun v71 ev71 => ?_)
      have k72 : 0 ≤ v71.toInt ∧ v71.toInt ≤ 300 := by rw [ev71]; exact divv_k (Int.le_trans (by decide) (Int.le_refl _)) (Int.le_refl _) i55.1 (by decide)
      refine lv_iadd hx hb dX10_starts_223 ?_
      refine lv_topi (fun v73 ev73 => ?_)
      refine put_f (D := D) (ci := 10) (v := .int v73) (ty := .int) (C := RX10) (T := TX10) (N := 67) hx hb hw inAX10 tyX10 tyX10_ok nmX10 hown hK hP hD hS 2 rfl rfl 27 (by decide) (hw _ q_1288) (fun _ h9 => h9) rfl (by decide +kernel) rfl rfl dX10_starts_224 (fun H locs F74 eF74 hP hD hS => ?_)
      have hP : va_P D vwCl [(h_paceAt, .inl (cI, 40, .inl g69)), (h_kindOf, .inl (cI, 4, .inl w48)), (h0, .inr (10, vL 67 F74)), (h_s, .inl (cI, 335, .inl f_s))] H := hP
      have hD : va_D A [(h_paceAt, .inl (cI, 40, .inl g69)), (h_kindOf, .inl (cI, 4, .inl w48)), (h0, .inr (10, vL 67 F74)), (h_s, .inl (cI, 335, .inl f_s))] := hD
      obtain ⟨v75, ev75⟩ : ∃ z : Int32, z = u4 + 1 := ⟨_, rfl⟩
      have bv75 : v75.toInt = u4.toInt + 1 := by rw [ev75]; exact add_k rfl rfl k38 ⟨Int.le_refl _, Int.le_refl _⟩ (by decide)
      have k76 : 1 ≤ v75.toInt ∧ v75.toInt ≤ 40 := add_r bv75 k38 ⟨Int.le_refl _, Int.le_refl _⟩ (by decide)
      refine lv_iinc (v := v75) (lv' := [(3, .int v75), (2, .int u46), (5, .int u45), (4, .int u46), (1, .int u47), (0, .ref h0)]) hx hb dX10_starts_227 hl (k := 4) rfl (by rw [ev75]; rfl) (by decide) rfl (fun ls hl => ?_)
      refine lv_goto (tgt := 22) hx hb dX10_starts_230 (by decide) ?_
      have n77 : F74 29 = .int u50 := (get_ne eF74 (by decide) i57)
      have n78 : F74 30 = .int u51 := (get_ne eF74 (by decide) i58)
      have n79 : F74 31 = .int u52 := (get_ne eF74 (by decide) i59)
      exact ih (v75, u46, u47, F74, v73, u50, u51, u52, g69, w48) ⟨(ir_wk k76 (by decide) (by decide)), i54, i55, (SAME.up eF74 (SAME.tr (SAME.tr SAME.rf i23 (by decide)) i56 (by decide)) (by decide)), (get_eq eF74), n77, n78, n79, i60, i61⟩ (by show (40 - v75.toInt).toNat < (40 - u4.toInt).toNat; omega) _ _ _ (hP.sub [2, 3, 0, 1] rfl) (hD.sub [2, 3, 0, 1] (by decide) rfl) hS (lv_sub hl [0, 1, 4, 5] rfl)
    · have dc62 : u45.toInt < 4 := nle_i (a := 4) (b := u45.toInt) rfl rfl c62
      have k80 : 0 ≤ u45.toInt ∧ u45.toInt ≤ 3 := ⟨i53.1, up_lt dc62 (Int.le_refl _) (by decide)⟩
      refine lv_aload_n hx hb dX10_starts_63 rfl (lv_at hl 5 rfl) ?_
      have n81 : G49 6 = .ref h_s := (SAME.at i56 (by decide) n33)
      refine get_f (D := D) (ci := 10) (v := .ref h_s) (C := RX10) (T := TX10) (N := 67) hx hb hw inAX10 hown hK hP 2 rfl rfl 6 (by decide) (hw _ q_1267) (fun _ h9 => h9) n81 dX10_starts_64 ?_
      refine lv_bipush (v := 109) hx hb dX10_starts_67 (by decide) ?_
      refine lv_iload hx hb dX10_starts_69 (lv_at hl 0 rfl) ?_
      refine lv_iadd hx hb dX10_starts_71 ?_
      refine lv_topi (fun v82 ev82 => ?_)
      have bv82 : v82.toInt = 109 + u45.toInt := by rw [ev82]; exact add_k rfl rfl ⟨Int.le_refl _, Int.le_refl _⟩ k80 (by decide)
      have k83 : 109 ≤ v82.toInt ∧ v82.toInt ≤ 112 := add_r bv82 ⟨Int.le_refl _, Int.le_refl _⟩ k80 (by decide)
      refine va_iald hx hb hK hP 3 0 rfl rfl (ix_k k83 (by decide) (by decide)) dX10_starts_72 ?_
      refine lv_topi (fun v84 ev84 => ?_)
      refine lv_iload_n hx hb dX10_starts_73 rfl (lv_at hl 3 rfl) ?_
      refine lv_icmp_eq (tgt := 80) hx hb dX10_starts_74 (by decide) (fun c85 => ?_) (fun c85 => ?_)
      · have dc85 : v84.toInt = u4.toInt := eq_i (a := v84.toInt) (b := u4.toInt) rfl rfl c85
        have k86 : 0 ≤ v84.toInt ∧ v84.toInt ≤ 39 := ⟨Int.le_trans k38.1 (Int.le_of_eq dc85.symm), Int.le_trans (Int.le_of_eq dc85) k38.2⟩
        refine lv_aload_n hx hb dX10_starts_80 rfl (lv_at hl 5 rfl) ?_
        refine lv_iload_n hx hb dX10_starts_81 rfl (lv_at hl 2 rfl) ?_
        refine lv_iload hx hb dX10_starts_82 (lv_at hl 0 rfl) ?_
        refine call_Vi (wr := [(h_paceAt, .inl (cI, 40, .inl w12)), (h_kindOf, .inl (cI, 4, .inl w48))]) (As := [.int u47, .int u45]) (rest := []) hx hb hml hown hw (m_X10_isLate l D cI cJ cB cP cM cZ h0 h_s G49 f_s u47 u45 bs _ n81 s_s_K0 s_s_US s_s_0 s_s_105 s_s_114 s_s_130 s_s_139 s_s_153 s_s_44 s_s_5 s_s_6 s_s_7 k80) wV_X10_327_X10_isLate dX10_starts_84 hK hP hD hS hA [2, 3] [0, 1] rfl rfl (by decide) (by decide) (by decide) 0 10 rfl rfl GG.fb hG.at hl.1 rfl (Nat.le_of_ble_eq_true rfl) ⟨(Nat.le_of_ble_eq_true rfl), (Nat.le_of_ble_eq_true rfl)⟩ ⟨(Nat.le_of_ble_eq_true rfl), (Nat.le_of_ble_eq_true rfl)⟩ (fun r87 u H locs hp hP hD hS => ?_)
        obtain ⟨t88, rfl⟩ := hp
        have hP : va_P D vwCl [(h_paceAt, .inl (cI, 40, .inl w12)), (h_kindOf, .inl (cI, 4, .inl w48)), (h0, .inr (10, vL 67 G49)), (h_s, .inl (cI, 335, .inl f_s))] H := hP
        have hD : va_D A [(h_paceAt, .inl (cI, 40, .inl w12)), (h_kindOf, .inl (cI, 4, .inl w48)), (h0, .inr (10, vL 67 G49)), (h_s, .inl (cI, 335, .inl f_s))] := hD
        refine W.widen (k := 0) (n := 0) (Nat.le_of_ble_eq_true rfl) (Nat.le_of_ble_eq_true rfl) ?_
        refine lv_if_eq (tgt := 114) hx hb dX10_starts_87 (by decide) (fun c90 => ?_) (fun c90 => ?_)
        · have dc90 : r87.toInt = 0 := eq_i (a := r87.toInt) (b := 0) rfl rfl c90
          have k91 : 0 ≤ r87.toInt ∧ r87.toInt ≤ 0 := ⟨t88.1, Int.le_trans (Int.le_of_eq dc90) (Int.le_refl _)⟩
          refine lv_aload_n hx hb dX10_starts_114 rfl (lv_at hl 5 rfl) ?_
          have n92 : F1 26 = .ref h_kindOf := (get_ne eF1 (by decide) e_kindOf)
          have n93 : F2 26 = .ref h_kindOf := (get_ne eF2 (by decide) n92)
          have n94 : F3 26 = .ref h_kindOf := (get_ne eF3 (by decide) n93)
          have n95 : G7 26 = .ref h_kindOf := (SAME.at i23 (by decide) n94)
          have n96 : G49 26 = .ref h_kindOf := (SAME.at i56 (by decide) n95)
          refine get_f (D := D) (ci := 10) (v := .ref h_kindOf) (C := RX10) (T := TX10) (N := 67) hx hb hw inAX10 hown hK hP 2 rfl rfl 26 (by decide) (hw _ q_1287) (fun _ h9 => h9) n96 dX10_starts_115 ?_
          refine lv_iload hx hb dX10_starts_118 (lv_at hl 0 rfl) ?_
          refine lv_iload hx hb dX10_starts_120 (lv_at hl 1 rfl) ?_
          refine lv_if_ne (tgt := 129) hx hb dX10_starts_122 (by decide) (fun c97 => ?_) (fun c97 => ?_)
          · have dc97 : u46.toInt ≠ 0 := ne_i (a := u46.toInt) (b := 0) rfl rfl c97
            have k98 : 1 ≤ u46.toInt ∧ u46.toInt ≤ 1 := ⟨ne_lo dc97 i54.1 ⟨Int.le_refl _, Int.le_refl _⟩ (by decide), i54.2⟩
            refine lv_iconst (v := 1) hx hb dX10_starts_129 (by decide) ?_
            refine lv_goto (tgt := 134) hx hb dX10_starts_130 (by decide) ?_
            obtain ⟨g99, eg99⟩ : ∃ z : Nat → Int32, upd w48 u45.toNatClampNeg 1 = z := ⟨_, rfl⟩
            refine iast_g hx hb hK hP hD hS 1 0 rfl rfl (ix_k k80 (by decide) (by decide)) eg99 dX10_starts_134 (fun H locs hP hD hS => ?_)
            have hP : va_P D vwCl [(h_paceAt, .inl (cI, 40, .inl w12)), (h_kindOf, .inl (cI, 4, .inl g99)), (h0, .inr (10, vL 67 G49)), (h_s, .inl (cI, 335, .inl f_s))] H := hP
            have hD : va_D A [(h_paceAt, .inl (cI, 40, .inl w12)), (h_kindOf, .inl (cI, 4, .inl g99)), (h0, .inr (10, vL 67 G49)), (h_s, .inl (cI, 335, .inl f_s))] := hD
            refine lv_aload_n hx hb dX10_starts_135 rfl (lv_at hl 5 rfl) ?_
            refine lv_dup hx hb dX10_starts_136 rfl ?_
            refine get_f (D := D) (ci := 10) (v := .int u50) (C := RX10) (T := TX10) (N := 67) hx hb hw inAX10 hown hK hP 2 rfl rfl 29 (by decide) (hw _ q_1290) (fun _ h9 => h9) i57 dX10_starts_137 ?_
            refine lv_iconst (v := 1) hx hb dX10_starts_140 (by decide) ?_
            refine lv_iload hx hb dX10_starts_141 (lv_at hl 0 rfl) ?_
            refine lv_ishl hx hb dX10_starts_143 ?_
            refine lv_topi (fun v100 ev100 => ?_)
            have k101 : 1 ≤ v100.toInt ∧ v100.toInt ≤ 8 := by rw [ev100]; exact shl1_i (Int.le_trans (by decide) k80.1) (Int.le_trans k80.2 (by decide))
            refine lv_ior hx hb dX10_starts_144 ?_
            refine lv_topi (fun v102 ev102 => ?_)
            have k103 : 0 ≤ v102.toInt ∧ v102.toInt ≤ 15 := by rw [ev102]; exact or_ik (ir_wk i60 (by decide) (by decide)) (ir_wk k101 (by decide) (by decide))
            refine put_f (D := D) (ci := 10) (v := .int v102) (ty := .int) (C := RX10) (T := TX10) (N := 67) hx hb hw inAX10 tyX10 tyX10_ok nmX10 hown hK hP hD hS 2 rfl rfl 29 (by decide) (hw _ q_1290) (fun _ h9 => h9) rfl (by decide +kernel) rfl rfl dX10_starts_145 (fun H locs F104 eF104 hP hD hS => ?_)
            have hP : va_P D vwCl [(h_paceAt, .inl (cI, 40, .inl w12)), (h_kindOf, .inl (cI, 4, .inl g99)), (h0, .inr (10, vL 67 F104)), (h_s, .inl (cI, 335, .inl f_s))] H := hP
            have hD : va_D A [(h_paceAt, .inl (cI, 40, .inl w12)), (h_kindOf, .inl (cI, 4, .inl g99)), (h0, .inr (10, vL 67 F104)), (h_s, .inl (cI, 335, .inl f_s))] := hD
            refine lv_iconst (v := 1) hx hb dX10_starts_148 (by decide) ?_
            refine lv_istore (lv' := [(4, .int 1), (5, .int u45), (1, .int u47), (3, .int u4), (2, .int u5), (0, .ref h0)]) hx hb dX10_starts_149 hl (by decide) rfl (fun ls hl => ?_)
            refine lv_iload_n hx hb dX10_starts_151 rfl (lv_at hl 2 rfl) ?_
            refine lv_aload_n hx hb dX10_starts_152 rfl (lv_at hl 5 rfl) ?_
            have n105 : F104 26 = .ref h_kindOf := (get_ne eF104 (by decide) n96)
            refine get_f (D := D) (ci := 10) (v := .ref h_kindOf) (C := RX10) (T := TX10) (N := 67) hx hb hw inAX10 hown hK hP 2 rfl rfl 26 (by decide) (hw _ q_1287) (fun _ h9 => h9) n105 dX10_starts_153 ?_
            refine lv_iload hx hb dX10_starts_156 (lv_at hl 1 rfl) ?_
            refine va_iald hx hb hK hP 1 0 rfl rfl (ix_k k80 (by decide) (by decide)) dX10_starts_158 ?_
            refine lv_topi (fun v106 ev106 => ?_)
            refine lv_iconst (v := 1) hx hb dX10_starts_159 (by decide) ?_
            refine lv_icmp_ne (tgt := 168) hx hb dX10_starts_160 (by decide) (fun c107 => ?_) (fun c107 => ?_)
            · have dc107 : v106.toInt ≠ 1 := ne_i (a := v106.toInt) (b := 1) rfl rfl c107
              refine lv_iconst (v := 2) hx hb dX10_starts_168 (by decide) ?_
              refine lv_isub hx hb dX10_starts_169 ?_
              refine lv_topi (fun v108 ev108 => ?_)
              have bv108 : v108.toInt = u47.toInt - 2 := by rw [ev108]; exact sub_k rfl rfl i55 ⟨Int.le_refl _, Int.le_refl _⟩ (by decide)
              have k109 : 8 ≤ v108.toInt ∧ v108.toInt ≤ 248 := sub_r bv108 i55 ⟨Int.le_refl _, Int.le_refl _⟩ (by decide)
              refine lv_aload_n hx hb dX10_starts_170 rfl (lv_at hl 5 rfl) ?_
              have n110 : F1 32 = .int x_kicks := (get_ne eF1 (by decide) e_kicks)
              have n111 : F2 32 = .int x_kicks := (get_ne eF2 (by decide) n110)
              have n112 : F3 32 = .int x_kicks := (get_ne eF3 (by decide) n111)
              have n113 : G7 32 = .int x_kicks := (SAME.at i23 (by decide) n112)
              have n114 : G49 32 = .int x_kicks := (SAME.at i56 (by decide) n113)
              have n115 : F104 32 = .int x_kicks := (get_ne eF104 (by decide) n114)
              refine get_f (D := D) (ci := 10) (v := .int x_kicks) (C := RX10) (T := TX10) (N := 67) hx hb hw inAX10 hown hK hP 2 rfl rfl 32 (by decide) (hw _ q_1293) (fun _ h9 => h9) n115 dX10_starts_171 ?_
              refine lv_if_eq (tgt := 191) hx hb dX10_starts_174 (by decide) (fun c116 => ?_) (fun c116 => ?_)
              · have dc116 : x_kicks.toInt = 0 := eq_i (a := x_kicks.toInt) (b := 0) rfl rfl c116
                have k117 : 0 ≤ x_kicks.toInt ∧ x_kicks.toInt ≤ 0 := ⟨i_x_kicks.1, Int.le_trans (Int.le_of_eq dc116) (Int.le_refl _)⟩
                refine lv_iconst (v := 0) hx hb dX10_starts_191 (by decide) ?_
                refine lv_isub hx hb dX10_starts_192 ?_
                refine lv_topi (fun v118 ev118 => ?_)
                have bv118 : v118.toInt = v108.toInt - 0 := by rw [ev118]; exact sub_k rfl rfl k109 ⟨Int.le_refl _, Int.le_refl _⟩ (by decide)
                have k119 : 8 ≤ v118.toInt ∧ v118.toInt ≤ 248 := sub_r bv118 k109 ⟨Int.le_refl _, Int.le_refl _⟩ (by decide)
                refine call_Si (wr := [(h_paceAt, .inl (cI, 40, .inl w12)), (h_kindOf, .inl (cI, 4, .inl g99)), (h0, .inr (10, vL 67 F104)), (h_s, .inl (cI, 335, .inl f_s))]) (As := [.int v118]) (rest := []) hx hb hml hown hw (m_X10_bounded l D cI cJ cB cP cM cZ v118 _ ) wS_X10_311_X10_bounded dX10_starts_193 hP hD hS hA [] [0, 1, 2, 3] rfl rfl (by decide) (by decide) (by decide) GG.fb hG.at hl.1 rfl (Nat.le_of_ble_eq_true rfl) ⟨(Nat.le_of_ble_eq_true rfl), (Nat.le_of_ble_eq_true rfl)⟩ ⟨(Nat.le_of_ble_eq_true rfl), (Nat.le_of_ble_eq_true rfl)⟩ (fun r120 u H locs hp hP hD hS => ?_)
                obtain ⟨t121, t122, rfl⟩ := hp
                have hP : va_P D vwCl [(h_paceAt, .inl (cI, 40, .inl w12)), (h_kindOf, .inl (cI, 4, .inl g99)), (h0, .inr (10, vL 67 F104)), (h_s, .inl (cI, 335, .inl f_s))] H := hP
                have hD : va_D A [(h_paceAt, .inl (cI, 40, .inl w12)), (h_kindOf, .inl (cI, 4, .inl g99)), (h0, .inr (10, vL 67 F104)), (h_s, .inl (cI, 335, .inl f_s))] := hD
                refine W.widen (k := 0) (n := 0) (Nat.le_of_ble_eq_true rfl) (Nat.le_of_ble_eq_true rfl) ?_
                refine lv_istore_n (lv' := [(1, .int r120), (4, .int 1), (5, .int u45), (3, .int u4), (2, .int u5), (0, .ref h0)]) hx hb dX10_starts_196 rfl hl (by decide) rfl (fun ls hl => ?_)
                obtain ⟨v124, ev124⟩ : ∃ z : Int32, z = u45 + 1 := ⟨_, rfl⟩
                have bv124 : v124.toInt = u45.toInt + 1 := by rw [ev124]; exact add_k rfl rfl k80 ⟨Int.le_refl _, Int.le_refl _⟩ (by decide)
                have k125 : 1 ≤ v124.toInt ∧ v124.toInt ≤ 4 := add_r bv124 k80 ⟨Int.le_refl _, Int.le_refl _⟩ (by decide)
                refine lv_iinc (v := v124) (lv' := [(5, .int v124), (1, .int r120), (4, .int 1), (3, .int u4), (2, .int u5), (0, .ref h0)]) hx hb dX10_starts_197 hl (k := 2) rfl (by rw [ev124]; rfl) (by decide) rfl (fun ls hl => ?_)
                refine lv_goto (tgt := 57) hx hb dX10_starts_200 (by decide) ?_
                have n126 : F104 30 = .int u51 := (get_ne eF104 (by decide) i58)
                have n127 : F104 31 = .int u52 := (get_ne eF104 (by decide) i59)
                exact ih_57 (v124, 1, r120, g99, F104, v102, u51, u52) ⟨(ir_wk k125 (by decide) (by decide)), (show 0 ≤ (1 : Int32).toInt ∧ (1 : Int32).toInt ≤ 1 by decide), t121, (SAME.up eF104 (SAME.tr SAME.rf i56 (by decide)) (by decide)), (get_eq eF104), n126, n127, k103, i61⟩ (by show (4 - v124.toInt).toNat < (4 - u45.toInt).toNat; omega) _ _ _ hP hD hS (lv_sub hl [0, 2, 1, 3, 4, 5] rfl)
              · have dc116 : x_kicks.toInt ≠ 0 := ne_i (a := x_kicks.toInt) (b := 0) rfl rfl c116
                have k128 : 1 ≤ x_kicks.toInt ∧ x_kicks.toInt ≤ 1 := ⟨ne_lo dc116 i_x_kicks.1 ⟨Int.le_refl _, Int.le_refl _⟩ (by decide), i_x_kicks.2⟩
                refine lv_aload_n hx hb dX10_starts_177 rfl (lv_at hl 5 rfl) ?_
                refine lv_bipush (v := 8) hx hb dX10_starts_178 (by decide) ?_
                have n129 : F104 31 = .int u52 := (get_ne eF104 (by decide) i59)
                refine call_Vi (wr := [(h_paceAt, .inl (cI, 40, .inl w12)), (h_kindOf, .inl (cI, 4, .inl g99)), (h_s, .inl (cI, 335, .inl f_s))]) (As := [.int 8]) (rest := [.int v108]) hx hb hml hown hw (m_X10_draw l D cI cJ cB cP cM cZ h0 F104 u52 8 _ n129 (show 8 ≤ (8 : Int32).toInt ∧ (8 : Int32).toInt ≤ 8 by decide)) wV_X10_334_X10_draw dX10_starts_180 hK hP hD hS hA [2] [0, 1, 3] rfl rfl (by decide) (by decide) (by decide) 0 10 rfl rfl GG.fb hG.at hl.1 rfl (Nat.le_of_ble_eq_true rfl) ⟨(Nat.le_of_ble_eq_true rfl), (Nat.le_of_ble_eq_true rfl)⟩ ⟨(Nat.le_of_ble_eq_true rfl), (Nat.le_of_ble_eq_true rfl)⟩ (fun r130 u H locs hp hP hD hS => ?_)
                have zl8 : (8 : Int32).toInt = 8 := by decide
                obtain ⟨F131, y132, t133, t134, rfl⟩ := hp
                have hP : va_P D vwCl [(h_paceAt, .inl (cI, 40, .inl w12)), (h_kindOf, .inl (cI, 4, .inl g99)), (h_s, .inl (cI, 335, .inl f_s)), (h0, .inr (10, vL 67 F131))] H := hP
                have hD : va_D A [(h_paceAt, .inl (cI, 40, .inl w12)), (h_kindOf, .inl (cI, 4, .inl g99)), (h_s, .inl (cI, 335, .inl f_s)), (h0, .inr (10, vL 67 F131))] := hD
                refine W.widen (k := 0) (n := 0) (Nat.le_of_ble_eq_true rfl) (Nat.le_of_ble_eq_true rfl) ?_
                refine lv_if_ne (tgt := 191) hx hb dX10_starts_183 (by decide) (fun c136 => ?_) (fun c136 => ?_)
                · have dc136 : r130.toInt ≠ 0 := ne_i (a := r130.toInt) (b := 0) rfl rfl c136
                  refine lv_iconst (v := 0) hx hb dX10_starts_191 (by decide) ?_
                  refine lv_isub hx hb dX10_starts_192 ?_
                  refine lv_topi (fun v137 ev137 => ?_)
                  have bv137 : v137.toInt = v108.toInt - 0 := by rw [ev137]; exact sub_k rfl rfl k109 ⟨Int.le_refl _, Int.le_refl _⟩ (by decide)
                  have k138 : 8 ≤ v137.toInt ∧ v137.toInt ≤ 248 := sub_r bv137 k109 ⟨Int.le_refl _, Int.le_refl _⟩ (by decide)
                  refine call_Si (wr := [(h_paceAt, .inl (cI, 40, .inl w12)), (h_kindOf, .inl (cI, 4, .inl g99)), (h_s, .inl (cI, 335, .inl f_s)), (h0, .inr (10, vL 67 F131))]) (As := [.int v137]) (rest := []) hx hb hml hown hw (m_X10_bounded l D cI cJ cB cP cM cZ v137 _ ) wS_X10_311_X10_bounded dX10_starts_193 hP hD hS hA [] [0, 1, 2, 3] rfl rfl (by decide) (by decide) (by decide) GG.fb hG.at hl.1 rfl (Nat.le_of_ble_eq_true rfl) ⟨(Nat.le_of_ble_eq_true rfl), (Nat.le_of_ble_eq_true rfl)⟩ ⟨(Nat.le_of_ble_eq_true rfl), (Nat.le_of_ble_eq_true rfl)⟩ (fun r139 u H locs hp hP hD hS => ?_)
                  obtain ⟨t140, t141, rfl⟩ := hp
                  have hP : va_P D vwCl [(h_paceAt, .inl (cI, 40, .inl w12)), (h_kindOf, .inl (cI, 4, .inl g99)), (h_s, .inl (cI, 335, .inl f_s)), (h0, .inr (10, vL 67 F131))] H := hP
                  have hD : va_D A [(h_paceAt, .inl (cI, 40, .inl w12)), (h_kindOf, .inl (cI, 4, .inl g99)), (h_s, .inl (cI, 335, .inl f_s)), (h0, .inr (10, vL 67 F131))] := hD
                  refine W.widen (k := 0) (n := 0) (Nat.le_of_ble_eq_true rfl) (Nat.le_of_ble_eq_true rfl) ?_
                  refine lv_istore_n (lv' := [(1, .int r139), (4, .int 1), (5, .int u45), (3, .int u4), (2, .int u5), (0, .ref h0)]) hx hb dX10_starts_196 rfl hl (by decide) rfl (fun ls hl => ?_)
                  obtain ⟨v143, ev143⟩ : ∃ z : Int32, z = u45 + 1 := ⟨_, rfl⟩
                  have bv143 : v143.toInt = u45.toInt + 1 := by rw [ev143]; exact add_k rfl rfl k80 ⟨Int.le_refl _, Int.le_refl _⟩ (by decide)
                  have k144 : 1 ≤ v143.toInt ∧ v143.toInt ≤ 4 := add_r bv143 k80 ⟨Int.le_refl _, Int.le_refl _⟩ (by decide)
                  refine lv_iinc (v := v143) (lv' := [(5, .int v143), (1, .int r139), (4, .int 1), (3, .int u4), (2, .int u5), (0, .ref h0)]) hx hb dX10_starts_197 hl (k := 2) rfl (by rw [ev143]; rfl) (by decide) rfl (fun ls hl => ?_)
                  refine lv_goto (tgt := 57) hx hb dX10_starts_200 (by decide) ?_
                  have n145 : F131 29 = .int v102 := (SAME.at t133 (by decide) (get_eq eF104))
                  have n146 : F104 30 = .int u51 := (get_ne eF104 (by decide) i58)
                  have n147 : F131 30 = .int u51 := (SAME.at t133 (by decide) n146)
                  exact ih_57 (v143, 1, r139, g99, F131, v102, u51, y132) ⟨(ir_wk k144 (by decide) (by decide)), (show 0 ≤ (1 : Int32).toInt ∧ (1 : Int32).toInt ≤ 1 by decide), t140, (SAME.tr (SAME.up eF104 (SAME.tr SAME.rf i56 (by decide)) (by decide)) t133 (by decide)), n145, n147, t134, k103, i61⟩ (by show (4 - v143.toInt).toNat < (4 - u45.toInt).toNat; omega) _ _ _ (hP.sub [0, 1, 3, 2] rfl) (hD.sub [0, 1, 3, 2] (by decide) rfl) hS (lv_sub hl [0, 2, 1, 3, 4, 5] rfl)
                · have dc136 : r130.toInt = 0 := eq_i (a := r130.toInt) (b := 0) rfl rfl c136
                  have k148 : 0 ≤ r130.toInt ∧ r130.toInt ≤ 0 := ⟨Int.le_trans (Int.le_refl _) (Int.le_of_eq dc136.symm), Int.le_trans (Int.le_of_eq dc136) (Int.le_refl _)⟩
                  refine lv_bipush (v := 10) hx hb dX10_starts_186 (by decide) ?_
                  refine lv_goto (tgt := 192) hx hb dX10_starts_188 (by decide) ?_
                  refine lv_isub hx hb dX10_starts_192 ?_
                  refine lv_topi (fun v149 ev149 => ?_)
                  have bv149 : v149.toInt = v108.toInt - 10 := by rw [ev149]; exact sub_k rfl rfl k109 ⟨Int.le_refl _, Int.le_refl _⟩ (by decide)
                  have k150 : (-2) ≤ v149.toInt ∧ v149.toInt ≤ 238 := sub_r bv149 k109 ⟨Int.le_refl _, Int.le_refl _⟩ (by decide)
                  refine call_Si (wr := [(h_paceAt, .inl (cI, 40, .inl w12)), (h_kindOf, .inl (cI, 4, .inl g99)), (h_s, .inl (cI, 335, .inl f_s)), (h0, .inr (10, vL 67 F131))]) (As := [.int v149]) (rest := []) hx hb hml hown hw (m_X10_bounded l D cI cJ cB cP cM cZ v149 _ ) wS_X10_311_X10_bounded dX10_starts_193 hP hD hS hA [] [0, 1, 2, 3] rfl rfl (by decide) (by decide) (by decide) GG.fb hG.at hl.1 rfl (Nat.le_of_ble_eq_true rfl) ⟨(Nat.le_of_ble_eq_true rfl), (Nat.le_of_ble_eq_true rfl)⟩ ⟨(Nat.le_of_ble_eq_true rfl), (Nat.le_of_ble_eq_true rfl)⟩ (fun r151 u H locs hp hP hD hS => ?_)
                  obtain ⟨t152, t153, rfl⟩ := hp
                  have hP : va_P D vwCl [(h_paceAt, .inl (cI, 40, .inl w12)), (h_kindOf, .inl (cI, 4, .inl g99)), (h_s, .inl (cI, 335, .inl f_s)), (h0, .inr (10, vL 67 F131))] H := hP
                  have hD : va_D A [(h_paceAt, .inl (cI, 40, .inl w12)), (h_kindOf, .inl (cI, 4, .inl g99)), (h_s, .inl (cI, 335, .inl f_s)), (h0, .inr (10, vL 67 F131))] := hD
                  refine W.widen (k := 0) (n := 0) (Nat.le_of_ble_eq_true rfl) (Nat.le_of_ble_eq_true rfl) ?_
                  refine lv_istore_n (lv' := [(1, .int r151), (4, .int 1), (5, .int u45), (3, .int u4), (2, .int u5), (0, .ref h0)]) hx hb dX10_starts_196 rfl hl (by decide) rfl (fun ls hl => ?_)
                  obtain ⟨v155, ev155⟩ : ∃ z : Int32, z = u45 + 1 := ⟨_, rfl⟩
                  have bv155 : v155.toInt = u45.toInt + 1 := by rw [ev155]; exact add_k rfl rfl k80 ⟨Int.le_refl _, Int.le_refl _⟩ (by decide)
                  have k156 : 1 ≤ v155.toInt ∧ v155.toInt ≤ 4 := add_r bv155 k80 ⟨Int.le_refl _, Int.le_refl _⟩ (by decide)
                  refine lv_iinc (v := v155) (lv' := [(5, .int v155), (1, .int r151), (4, .int 1), (3, .int u4), (2, .int u5), (0, .ref h0)]) hx hb dX10_starts_197 hl (k := 2) rfl (by rw [ev155]; rfl) (by decide) rfl (fun ls hl => ?_)
                  refine lv_goto (tgt := 57) hx hb dX10_starts_200 (by decide) ?_
                  have n157 : F131 29 = .int v102 := (SAME.at t133 (by decide) (get_eq eF104))
                  have n158 : F104 30 = .int u51 := (get_ne eF104 (by decide) i58)
                  have n159 : F131 30 = .int u51 := (SAME.at t133 (by decide) n158)
                  exact ih_57 (v155, 1, r151, g99, F131, v102, u51, y132) ⟨(ir_wk k156 (by decide) (by decide)), (show 0 ≤ (1 : Int32).toInt ∧ (1 : Int32).toInt ≤ 1 by decide), t152, (SAME.tr (SAME.up eF104 (SAME.tr SAME.rf i56 (by decide)) (by decide)) t133 (by decide)), n157, n159, t134, k103, i61⟩ (by show (4 - v155.toInt).toNat < (4 - u45.toInt).toNat; omega) _ _ _ (hP.sub [0, 1, 3, 2] rfl) (hD.sub [0, 1, 3, 2] (by decide) rfl) hS (lv_sub hl [0, 2, 1, 3, 4, 5] rfl)
            · have dc107 : v106.toInt = 1 := eq_i (a := v106.toInt) (b := 1) rfl rfl c107
              have k160 : 1 ≤ v106.toInt ∧ v106.toInt ≤ 1 := ⟨Int.le_trans (Int.le_refl _) (Int.le_of_eq dc107.symm), Int.le_trans (Int.le_of_eq dc107) (Int.le_refl _)⟩
              refine lv_bipush (v := 6) hx hb dX10_starts_163 (by decide) ?_
              refine lv_goto (tgt := 169) hx hb dX10_starts_165 (by decide) ?_
              refine lv_isub hx hb dX10_starts_169 ?_
              refine lv_topi (fun v161 ev161 => ?_)
              have bv161 : v161.toInt = u47.toInt - 6 := by rw [ev161]; exact sub_k rfl rfl i55 ⟨Int.le_refl _, Int.le_refl _⟩ (by decide)
              have k162 : 4 ≤ v161.toInt ∧ v161.toInt ≤ 244 := sub_r bv161 i55 ⟨Int.le_refl _, Int.le_refl _⟩ (by decide)
              refine lv_aload_n hx hb dX10_starts_170 rfl (lv_at hl 5 rfl) ?_
              have n163 : F1 32 = .int x_kicks := (get_ne eF1 (by decide) e_kicks)
              have n164 : F2 32 = .int x_kicks := (get_ne eF2 (by decide) n163)
              have n165 : F3 32 = .int x_kicks := (get_ne eF3 (by decide) n164)
              have n166 : G7 32 = .int x_kicks := (SAME.at i23 (by decide) n165)
              have n167 : G49 32 = .int x_kicks := (SAME.at i56 (by decide) n166)
              have n168 : F104 32 = .int x_kicks := (get_ne eF104 (by decide) n167)
              refine get_f (D := D) (ci := 10) (v := .int x_kicks) (C := RX10) (T := TX10) (N := 67) hx hb hw inAX10 hown hK hP 2 rfl rfl 32 (by decide) (hw _ q_1293) (fun _ h9 => h9) n168 dX10_starts_171 ?_
              refine lv_if_eq (tgt := 191) hx hb dX10_starts_174 (by decide) (fun c169 => ?_) (fun c169 => ?_)
              · have dc169 : x_kicks.toInt = 0 := eq_i (a := x_kicks.toInt) (b := 0) rfl rfl c169
                have k170 : 0 ≤ x_kicks.toInt ∧ x_kicks.toInt ≤ 0 := ⟨i_x_kicks.1, Int.le_trans (Int.le_of_eq dc169) (Int.le_refl _)⟩
                refine lv_iconst (v := 0) hx hb dX10_starts_191 (by decide) ?_
                refine lv_isub hx hb dX10_starts_192 ?_
                refine lv_topi (fun v171 ev171 => ?_)
                have bv171 : v171.toInt = v161.toInt - 0 := by rw [ev171]; exact sub_k rfl rfl k162 ⟨Int.le_refl _, Int.le_refl _⟩ (by decide)
                have k172 : 4 ≤ v171.toInt ∧ v171.toInt ≤ 244 := sub_r bv171 k162 ⟨Int.le_refl _, Int.le_refl _⟩ (by decide)
                refine call_Si (wr := [(h_paceAt, .inl (cI, 40, .inl w12)), (h_kindOf, .inl (cI, 4, .inl g99)), (h0, .inr (10, vL 67 F104)), (h_s, .inl (cI, 335, .inl f_s))]) (As := [.int v171]) (rest := []) hx hb hml hown hw (m_X10_bounded l D cI cJ cB cP cM cZ v171 _ ) wS_X10_311_X10_bounded dX10_starts_193 hP hD hS hA [] [0, 1, 2, 3] rfl rfl (by decide) (by decide) (by decide) GG.fb hG.at hl.1 rfl (Nat.le_of_ble_eq_true rfl) ⟨(Nat.le_of_ble_eq_true rfl), (Nat.le_of_ble_eq_true rfl)⟩ ⟨(Nat.le_of_ble_eq_true rfl), (Nat.le_of_ble_eq_true rfl)⟩ (fun r173 u H locs hp hP hD hS => ?_)
                obtain ⟨t174, t175, rfl⟩ := hp
                have hP : va_P D vwCl [(h_paceAt, .inl (cI, 40, .inl w12)), (h_kindOf, .inl (cI, 4, .inl g99)), (h0, .inr (10, vL 67 F104)), (h_s, .inl (cI, 335, .inl f_s))] H := hP
                have hD : va_D A [(h_paceAt, .inl (cI, 40, .inl w12)), (h_kindOf, .inl (cI, 4, .inl g99)), (h0, .inr (10, vL 67 F104)), (h_s, .inl (cI, 335, .inl f_s))] := hD
                refine W.widen (k := 0) (n := 0) (Nat.le_of_ble_eq_true rfl) (Nat.le_of_ble_eq_true rfl) ?_
                refine lv_istore_n (lv' := [(1, .int r173), (4, .int 1), (5, .int u45), (3, .int u4), (2, .int u5), (0, .ref h0)]) hx hb dX10_starts_196 rfl hl (by decide) rfl (fun ls hl => ?_)
                obtain ⟨v177, ev177⟩ : ∃ z : Int32, z = u45 + 1 := ⟨_, rfl⟩
                have bv177 : v177.toInt = u45.toInt + 1 := by rw [ev177]; exact add_k rfl rfl k80 ⟨Int.le_refl _, Int.le_refl _⟩ (by decide)
                have k178 : 1 ≤ v177.toInt ∧ v177.toInt ≤ 4 := add_r bv177 k80 ⟨Int.le_refl _, Int.le_refl _⟩ (by decide)
                refine lv_iinc (v := v177) (lv' := [(5, .int v177), (1, .int r173), (4, .int 1), (3, .int u4), (2, .int u5), (0, .ref h0)]) hx hb dX10_starts_197 hl (k := 2) rfl (by rw [ev177]; rfl) (by decide) rfl (fun ls hl => ?_)
                refine lv_goto (tgt := 57) hx hb dX10_starts_200 (by decide) ?_
                have n179 : F104 30 = .int u51 := (get_ne eF104 (by decide) i58)
                have n180 : F104 31 = .int u52 := (get_ne eF104 (by decide) i59)
                exact ih_57 (v177, 1, r173, g99, F104, v102, u51, u52) ⟨(ir_wk k178 (by decide) (by decide)), (show 0 ≤ (1 : Int32).toInt ∧ (1 : Int32).toInt ≤ 1 by decide), t174, (SAME.up eF104 (SAME.tr SAME.rf i56 (by decide)) (by decide)), (get_eq eF104), n179, n180, k103, i61⟩ (by show (4 - v177.toInt).toNat < (4 - u45.toInt).toNat; omega) _ _ _ hP hD hS (lv_sub hl [0, 2, 1, 3, 4, 5] rfl)
              · have dc169 : x_kicks.toInt ≠ 0 := ne_i (a := x_kicks.toInt) (b := 0) rfl rfl c169
                have k181 : 1 ≤ x_kicks.toInt ∧ x_kicks.toInt ≤ 1 := ⟨ne_lo dc169 i_x_kicks.1 ⟨Int.le_refl _, Int.le_refl _⟩ (by decide), i_x_kicks.2⟩
                refine lv_aload_n hx hb dX10_starts_177 rfl (lv_at hl 5 rfl) ?_
                refine lv_bipush (v := 8) hx hb dX10_starts_178 (by decide) ?_
                have n182 : F104 31 = .int u52 := (get_ne eF104 (by decide) i59)
                refine call_Vi (wr := [(h_paceAt, .inl (cI, 40, .inl w12)), (h_kindOf, .inl (cI, 4, .inl g99)), (h_s, .inl (cI, 335, .inl f_s))]) (As := [.int 8]) (rest := [.int v161]) hx hb hml hown hw (m_X10_draw l D cI cJ cB cP cM cZ h0 F104 u52 8 _ n182 (show 8 ≤ (8 : Int32).toInt ∧ (8 : Int32).toInt ≤ 8 by decide)) wV_X10_334_X10_draw dX10_starts_180 hK hP hD hS hA [2] [0, 1, 3] rfl rfl (by decide) (by decide) (by decide) 0 10 rfl rfl GG.fb hG.at hl.1 rfl (Nat.le_of_ble_eq_true rfl) ⟨(Nat.le_of_ble_eq_true rfl), (Nat.le_of_ble_eq_true rfl)⟩ ⟨(Nat.le_of_ble_eq_true rfl), (Nat.le_of_ble_eq_true rfl)⟩ (fun r183 u H locs hp hP hD hS => ?_)
                have zl8 : (8 : Int32).toInt = 8 := by decide
                obtain ⟨F184, y185, t186, t187, rfl⟩ := hp
                have hP : va_P D vwCl [(h_paceAt, .inl (cI, 40, .inl w12)), (h_kindOf, .inl (cI, 4, .inl g99)), (h_s, .inl (cI, 335, .inl f_s)), (h0, .inr (10, vL 67 F184))] H := hP
                have hD : va_D A [(h_paceAt, .inl (cI, 40, .inl w12)), (h_kindOf, .inl (cI, 4, .inl g99)), (h_s, .inl (cI, 335, .inl f_s)), (h0, .inr (10, vL 67 F184))] := hD
                refine W.widen (k := 0) (n := 0) (Nat.le_of_ble_eq_true rfl) (Nat.le_of_ble_eq_true rfl) ?_
                refine lv_if_ne (tgt := 191) hx hb dX10_starts_183 (by decide) (fun c189 => ?_) (fun c189 => ?_)
                · have dc189 : r183.toInt ≠ 0 := ne_i (a := r183.toInt) (b := 0) rfl rfl c189
                  refine lv_iconst (v := 0) hx hb dX10_starts_191 (by decide) ?_
                  refine lv_isub hx hb dX10_starts_192 ?_
                  refine lv_topi (fun v190 ev190 => ?_)
                  have bv190 : v190.toInt = v161.toInt - 0 := by rw [ev190]; exact sub_k rfl rfl k162 ⟨Int.le_refl _, Int.le_refl _⟩ (by decide)
                  have k191 : 4 ≤ v190.toInt ∧ v190.toInt ≤ 244 := sub_r bv190 k162 ⟨Int.le_refl _, Int.le_refl _⟩ (by decide)
                  refine call_Si (wr := [(h_paceAt, .inl (cI, 40, .inl w12)), (h_kindOf, .inl (cI, 4, .inl g99)), (h_s, .inl (cI, 335, .inl f_s)), (h0, .inr (10, vL 67 F184))]) (As := [.int v190]) (rest := []) hx hb hml hown hw (m_X10_bounded l D cI cJ cB cP cM cZ v190 _ ) wS_X10_311_X10_bounded dX10_starts_193 hP hD hS hA [] [0, 1, 2, 3] rfl rfl (by decide) (by decide) (by decide) GG.fb hG.at hl.1 rfl (Nat.le_of_ble_eq_true rfl) ⟨(Nat.le_of_ble_eq_true rfl), (Nat.le_of_ble_eq_true rfl)⟩ ⟨(Nat.le_of_ble_eq_true rfl), (Nat.le_of_ble_eq_true rfl)⟩ (fun r192 u H locs hp hP hD hS => ?_)
                  obtain ⟨t193, t194, rfl⟩ := hp
                  have hP : va_P D vwCl [(h_paceAt, .inl (cI, 40, .inl w12)), (h_kindOf, .inl (cI, 4, .inl g99)), (h_s, .inl (cI, 335, .inl f_s)), (h0, .inr (10, vL 67 F184))] H := hP
                  have hD : va_D A [(h_paceAt, .inl (cI, 40, .inl w12)), (h_kindOf, .inl (cI, 4, .inl g99)), (h_s, .inl (cI, 335, .inl f_s)), (h0, .inr (10, vL 67 F184))] := hD
                  refine W.widen (k := 0) (n := 0) (Nat.le_of_ble_eq_true rfl) (Nat.le_of_ble_eq_true rfl) ?_
                  refine lv_istore_n (lv' := [(1, .int r192), (4, .int 1), (5, .int u45), (3, .int u4), (2, .int u5), (0, .ref h0)]) hx hb dX10_starts_196 rfl hl (by decide) rfl (fun ls hl => ?_)
                  obtain ⟨v196, ev196⟩ : ∃ z : Int32, z = u45 + 1 := ⟨_, rfl⟩
                  have bv196 : v196.toInt = u45.toInt + 1 := by rw [ev196]; exact add_k rfl rfl k80 ⟨Int.le_refl _, Int.le_refl _⟩ (by decide)
                  have k197 : 1 ≤ v196.toInt ∧ v196.toInt ≤ 4 := add_r bv196 k80 ⟨Int.le_refl _, Int.le_refl _⟩ (by decide)
                  refine lv_iinc (v := v196) (lv' := [(5, .int v196), (1, .int r192), (4, .int 1), (3, .int u4), (2, .int u5), (0, .ref h0)]) hx hb dX10_starts_197 hl (k := 2) rfl (by rw [ev196]; rfl) (by decide) rfl (fun ls hl => ?_)
                  refine lv_goto (tgt := 57) hx hb dX10_starts_200 (by decide) ?_
                  have n198 : F184 29 = .int v102 := (SAME.at t186 (by decide) (get_eq eF104))
                  have n199 : F104 30 = .int u51 := (get_ne eF104 (by decide) i58)
                  have n200 : F184 30 = .int u51 := (SAME.at t186 (by decide) n199)
                  exact ih_57 (v196, 1, r192, g99, F184, v102, u51, y185) ⟨(ir_wk k197 (by decide) (by decide)), (show 0 ≤ (1 : Int32).toInt ∧ (1 : Int32).toInt ≤ 1 by decide), t193, (SAME.tr (SAME.up eF104 (SAME.tr SAME.rf i56 (by decide)) (by decide)) t186 (by decide)), n198, n200, t187, k103, i61⟩ (by show (4 - v196.toInt).toNat < (4 - u45.toInt).toNat; omega) _ _ _ (hP.sub [0, 1, 3, 2] rfl) (hD.sub [0, 1, 3, 2] (by decide) rfl) hS (lv_sub hl [0, 2, 1, 3, 4, 5] rfl)
                · have dc189 : r183.toInt = 0 := eq_i (a := r183.toInt) (b := 0) rfl rfl c189
                  have k201 : 0 ≤ r183.toInt ∧ r183.toInt ≤ 0 := ⟨Int.le_trans (Int.le_refl _) (Int.le_of_eq dc189.symm), Int.le_trans (Int.le_of_eq dc189) (Int.le_refl _)⟩
                  refine lv_bipush (v := 10) hx hb dX10_starts_186 (by decide) ?_
                  refine lv_goto (tgt := 192) hx hb dX10_starts_188 (by decide) ?_
                  refine lv_isub hx hb dX10_starts_192 ?_
                  refine lv_topi (fun v202 ev202 => ?_)
                  have bv202 : v202.toInt = v161.toInt - 10 := by rw [ev202]; exact sub_k rfl rfl k162 ⟨Int.le_refl _, Int.le_refl _⟩ (by decide)
                  have k203 : (-6) ≤ v202.toInt ∧ v202.toInt ≤ 234 := sub_r bv202 k162 ⟨Int.le_refl _, Int.le_refl _⟩ (by decide)
                  refine call_Si (wr := [(h_paceAt, .inl (cI, 40, .inl w12)), (h_kindOf, .inl (cI, 4, .inl g99)), (h_s, .inl (cI, 335, .inl f_s)), (h0, .inr (10, vL 67 F184))]) (As := [.int v202]) (rest := []) hx hb hml hown hw (m_X10_bounded l D cI cJ cB cP cM cZ v202 _ ) wS_X10_311_X10_bounded dX10_starts_193 hP hD hS hA [] [0, 1, 2, 3] rfl rfl (by decide) (by decide) (by decide) GG.fb hG.at hl.1 rfl (Nat.le_of_ble_eq_true rfl) ⟨(Nat.le_of_ble_eq_true rfl), (Nat.le_of_ble_eq_true rfl)⟩ ⟨(Nat.le_of_ble_eq_true rfl), (Nat.le_of_ble_eq_true rfl)⟩ (fun r204 u H locs hp hP hD hS => ?_)
                  obtain ⟨t205, t206, rfl⟩ := hp
                  have hP : va_P D vwCl [(h_paceAt, .inl (cI, 40, .inl w12)), (h_kindOf, .inl (cI, 4, .inl g99)), (h_s, .inl (cI, 335, .inl f_s)), (h0, .inr (10, vL 67 F184))] H := hP
                  have hD : va_D A [(h_paceAt, .inl (cI, 40, .inl w12)), (h_kindOf, .inl (cI, 4, .inl g99)), (h_s, .inl (cI, 335, .inl f_s)), (h0, .inr (10, vL 67 F184))] := hD
                  refine W.widen (k := 0) (n := 0) (Nat.le_of_ble_eq_true rfl) (Nat.le_of_ble_eq_true rfl) ?_
                  refine lv_istore_n (lv' := [(1, .int r204), (4, .int 1), (5, .int u45), (3, .int u4), (2, .int u5), (0, .ref h0)]) hx hb dX10_starts_196 rfl hl (by decide) rfl (fun ls hl => ?_)
                  obtain ⟨v208, ev208⟩ : ∃ z : Int32, z = u45 + 1 := ⟨_, rfl⟩
                  have bv208 : v208.toInt = u45.toInt + 1 := by rw [ev208]; exact add_k rfl rfl k80 ⟨Int.le_refl _, Int.le_refl _⟩ (by decide)
                  have k209 : 1 ≤ v208.toInt ∧ v208.toInt ≤ 4 := add_r bv208 k80 ⟨Int.le_refl _, Int.le_refl _⟩ (by decide)
                  refine lv_iinc (v := v208) (lv' := [(5, .int v208), (1, .int r204), (4, .int 1), (3, .int u4), (2, .int u5), (0, .ref h0)]) hx hb dX10_starts_197 hl (k := 2) rfl (by rw [ev208]; rfl) (by decide) rfl (fun ls hl => ?_)
                  refine lv_goto (tgt := 57) hx hb dX10_starts_200 (by decide) ?_
                  have n210 : F184 29 = .int v102 := (SAME.at t186 (by decide) (get_eq eF104))
                  have n211 : F104 30 = .int u51 := (get_ne eF104 (by decide) i58)
                  have n212 : F184 30 = .int u51 := (SAME.at t186 (by decide) n211)
                  exact ih_57 (v208, 1, r204, g99, F184, v102, u51, y185) ⟨(ir_wk k209 (by decide) (by decide)), (show 0 ≤ (1 : Int32).toInt ∧ (1 : Int32).toInt ≤ 1 by decide), t205, (SAME.tr (SAME.up eF104 (SAME.tr SAME.rf i56 (by decide)) (by decide)) t186 (by decide)), n210, n212, t187, k103, i61⟩ (by show (4 - v208.toInt).toNat < (4 - u45.toInt).toNat; omega) _ _ _ (hP.sub [0, 1, 3, 2] rfl) (hD.sub [0, 1, 3, 2] (by decide) rfl) hS (lv_sub hl [0, 2, 1, 3, 4, 5] rfl)
          · have dc97 : u46.toInt = 0 := eq_i (a := u46.toInt) (b := 0) rfl rfl c97
            have k213 : 0 ≤ u46.toInt ∧ u46.toInt ≤ 0 := ⟨i54.1, Int.le_trans (Int.le_of_eq dc97) (Int.le_refl _)⟩
            refine lv_iload_n hx hb dX10_starts_125 rfl (lv_at hl 4 rfl) ?_
            refine lv_if_eq (tgt := 133) hx hb dX10_starts_126 (by decide) (fun c214 => ?_) (fun c214 => ?_)
            · have dc214 : u5.toInt = 0 := eq_i (a := u5.toInt) (b := 0) rfl rfl c214
              have k215 : 0 ≤ u5.toInt ∧ u5.toInt ≤ 0 := ⟨i21.1, Int.le_trans (Int.le_of_eq dc214) (Int.le_refl _)⟩
              refine lv_iconst (v := 0) hx hb dX10_starts_133 (by decide) ?_
              obtain ⟨g216, eg216⟩ : ∃ z : Nat → Int32, upd w48 u45.toNatClampNeg 0 = z := ⟨_, rfl⟩
              refine iast_g hx hb hK hP hD hS 1 0 rfl rfl (ix_k k80 (by decide) (by decide)) eg216 dX10_starts_134 (fun H locs hP hD hS => ?_)
              have hP : va_P D vwCl [(h_paceAt, .inl (cI, 40, .inl w12)), (h_kindOf, .inl (cI, 4, .inl g216)), (h0, .inr (10, vL 67 G49)), (h_s, .inl (cI, 335, .inl f_s))] H := hP
              have hD : va_D A [(h_paceAt, .inl (cI, 40, .inl w12)), (h_kindOf, .inl (cI, 4, .inl g216)), (h0, .inr (10, vL 67 G49)), (h_s, .inl (cI, 335, .inl f_s))] := hD
              refine lv_aload_n hx hb dX10_starts_135 rfl (lv_at hl 5 rfl) ?_
              refine lv_dup hx hb dX10_starts_136 rfl ?_
              refine get_f (D := D) (ci := 10) (v := .int u50) (C := RX10) (T := TX10) (N := 67) hx hb hw inAX10 hown hK hP 2 rfl rfl 29 (by decide) (hw _ q_1290) (fun _ h9 => h9) i57 dX10_starts_137 ?_
              refine lv_iconst (v := 1) hx hb dX10_starts_140 (by decide) ?_
              refine lv_iload hx hb dX10_starts_141 (lv_at hl 0 rfl) ?_
              refine lv_ishl hx hb dX10_starts_143 ?_
              refine lv_topi (fun v217 ev217 => ?_)
              have k218 : 1 ≤ v217.toInt ∧ v217.toInt ≤ 8 := by rw [ev217]; exact shl1_i (Int.le_trans (by decide) k80.1) (Int.le_trans k80.2 (by decide))
              refine lv_ior hx hb dX10_starts_144 ?_
              refine lv_topi (fun v219 ev219 => ?_)
              have k220 : 0 ≤ v219.toInt ∧ v219.toInt ≤ 15 := by rw [ev219]; exact or_ik (ir_wk i60 (by decide) (by decide)) (ir_wk k218 (by decide) (by decide))
              refine put_f (D := D) (ci := 10) (v := .int v219) (ty := .int) (C := RX10) (T := TX10) (N := 67) hx hb hw inAX10 tyX10 tyX10_ok nmX10 hown hK hP hD hS 2 rfl rfl 29 (by decide) (hw _ q_1290) (fun _ h9 => h9) rfl (by decide +kernel) rfl rfl dX10_starts_145 (fun H locs F221 eF221 hP hD hS => ?_)
              have hP : va_P D vwCl [(h_paceAt, .inl (cI, 40, .inl w12)), (h_kindOf, .inl (cI, 4, .inl g216)), (h0, .inr (10, vL 67 F221)), (h_s, .inl (cI, 335, .inl f_s))] H := hP
              have hD : va_D A [(h_paceAt, .inl (cI, 40, .inl w12)), (h_kindOf, .inl (cI, 4, .inl g216)), (h0, .inr (10, vL 67 F221)), (h_s, .inl (cI, 335, .inl f_s))] := hD
              refine lv_iconst (v := 1) hx hb dX10_starts_148 (by decide) ?_
              refine lv_istore (lv' := [(4, .int 1), (5, .int u45), (1, .int u47), (3, .int u4), (2, .int u5), (0, .ref h0)]) hx hb dX10_starts_149 hl (by decide) rfl (fun ls hl => ?_)
              refine lv_iload_n hx hb dX10_starts_151 rfl (lv_at hl 2 rfl) ?_
              refine lv_aload_n hx hb dX10_starts_152 rfl (lv_at hl 5 rfl) ?_
              have n222 : F221 26 = .ref h_kindOf := (get_ne eF221 (by decide) n96)
              refine get_f (D := D) (ci := 10) (v := .ref h_kindOf) (C := RX10) (T := TX10) (N := 67) hx hb hw inAX10 hown hK hP 2 rfl rfl 26 (by decide) (hw _ q_1287) (fun _ h9 => h9) n222 dX10_starts_153 ?_
              refine lv_iload hx hb dX10_starts_156 (lv_at hl 1 rfl) ?_
              refine va_iald hx hb hK hP 1 0 rfl rfl (ix_k k80 (by decide) (by decide)) dX10_starts_158 ?_
              refine lv_topi (fun v223 ev223 => ?_)
              refine lv_iconst (v := 1) hx hb dX10_starts_159 (by decide) ?_
              refine lv_icmp_ne (tgt := 168) hx hb dX10_starts_160 (by decide) (fun c224 => ?_) (fun c224 => ?_)
              · have dc224 : v223.toInt ≠ 1 := ne_i (a := v223.toInt) (b := 1) rfl rfl c224
                refine lv_iconst (v := 2) hx hb dX10_starts_168 (by decide) ?_
                refine lv_isub hx hb dX10_starts_169 ?_
                refine lv_topi (fun v225 ev225 => ?_)
                have bv225 : v225.toInt = u47.toInt - 2 := by rw [ev225]; exact sub_k rfl rfl i55 ⟨Int.le_refl _, Int.le_refl _⟩ (by decide)
                have k226 : 8 ≤ v225.toInt ∧ v225.toInt ≤ 248 := sub_r bv225 i55 ⟨Int.le_refl _, Int.le_refl _⟩ (by decide)
                refine lv_aload_n hx hb dX10_starts_170 rfl (lv_at hl 5 rfl) ?_
                have n227 : F1 32 = .int x_kicks := (get_ne eF1 (by decide) e_kicks)
                have n228 : F2 32 = .int x_kicks := (get_ne eF2 (by decide) n227)
                have n229 : F3 32 = .int x_kicks := (get_ne eF3 (by decide) n228)
                have n230 : G7 32 = .int x_kicks := (SAME.at i23 (by decide) n229)
                have n231 : G49 32 = .int x_kicks := (SAME.at i56 (by decide) n230)
                have n232 : F221 32 = .int x_kicks := (get_ne eF221 (by decide) n231)
                refine get_f (D := D) (ci := 10) (v := .int x_kicks) (C := RX10) (T := TX10) (N := 67) hx hb hw inAX10 hown hK hP 2 rfl rfl 32 (by decide) (hw _ q_1293) (fun _ h9 => h9) n232 dX10_starts_171 ?_
                refine lv_if_eq (tgt := 191) hx hb dX10_starts_174 (by decide) (fun c233 => ?_) (fun c233 => ?_)
                · have dc233 : x_kicks.toInt = 0 := eq_i (a := x_kicks.toInt) (b := 0) rfl rfl c233
                  have k234 : 0 ≤ x_kicks.toInt ∧ x_kicks.toInt ≤ 0 := ⟨i_x_kicks.1, Int.le_trans (Int.le_of_eq dc233) (Int.le_refl _)⟩
                  refine lv_iconst (v := 0) hx hb dX10_starts_191 (by decide) ?_
                  refine lv_isub hx hb dX10_starts_192 ?_
                  refine lv_topi (fun v235 ev235 => ?_)
                  have bv235 : v235.toInt = v225.toInt - 0 := by rw [ev235]; exact sub_k rfl rfl k226 ⟨Int.le_refl _, Int.le_refl _⟩ (by decide)
                  have k236 : 8 ≤ v235.toInt ∧ v235.toInt ≤ 248 := sub_r bv235 k226 ⟨Int.le_refl _, Int.le_refl _⟩ (by decide)
                  refine call_Si (wr := [(h_paceAt, .inl (cI, 40, .inl w12)), (h_kindOf, .inl (cI, 4, .inl g216)), (h0, .inr (10, vL 67 F221)), (h_s, .inl (cI, 335, .inl f_s))]) (As := [.int v235]) (rest := []) hx hb hml hown hw (m_X10_bounded l D cI cJ cB cP cM cZ v235 _ ) wS_X10_311_X10_bounded dX10_starts_193 hP hD hS hA [] [0, 1, 2, 3] rfl rfl (by decide) (by decide) (by decide) GG.fb hG.at hl.1 rfl (Nat.le_of_ble_eq_true rfl) ⟨(Nat.le_of_ble_eq_true rfl), (Nat.le_of_ble_eq_true rfl)⟩ ⟨(Nat.le_of_ble_eq_true rfl), (Nat.le_of_ble_eq_true rfl)⟩ (fun r237 u H locs hp hP hD hS => ?_)
                  obtain ⟨t238, t239, rfl⟩ := hp
                  have hP : va_P D vwCl [(h_paceAt, .inl (cI, 40, .inl w12)), (h_kindOf, .inl (cI, 4, .inl g216)), (h0, .inr (10, vL 67 F221)), (h_s, .inl (cI, 335, .inl f_s))] H := hP
                  have hD : va_D A [(h_paceAt, .inl (cI, 40, .inl w12)), (h_kindOf, .inl (cI, 4, .inl g216)), (h0, .inr (10, vL 67 F221)), (h_s, .inl (cI, 335, .inl f_s))] := hD
                  refine W.widen (k := 0) (n := 0) (Nat.le_of_ble_eq_true rfl) (Nat.le_of_ble_eq_true rfl) ?_
                  refine lv_istore_n (lv' := [(1, .int r237), (4, .int 1), (5, .int u45), (3, .int u4), (2, .int u5), (0, .ref h0)]) hx hb dX10_starts_196 rfl hl (by decide) rfl (fun ls hl => ?_)
                  obtain ⟨v241, ev241⟩ : ∃ z : Int32, z = u45 + 1 := ⟨_, rfl⟩
                  have bv241 : v241.toInt = u45.toInt + 1 := by rw [ev241]; exact add_k rfl rfl k80 ⟨Int.le_refl _, Int.le_refl _⟩ (by decide)
                  have k242 : 1 ≤ v241.toInt ∧ v241.toInt ≤ 4 := add_r bv241 k80 ⟨Int.le_refl _, Int.le_refl _⟩ (by decide)
                  refine lv_iinc (v := v241) (lv' := [(5, .int v241), (1, .int r237), (4, .int 1), (3, .int u4), (2, .int u5), (0, .ref h0)]) hx hb dX10_starts_197 hl (k := 2) rfl (by rw [ev241]; rfl) (by decide) rfl (fun ls hl => ?_)
                  refine lv_goto (tgt := 57) hx hb dX10_starts_200 (by decide) ?_
                  have n243 : F221 30 = .int u51 := (get_ne eF221 (by decide) i58)
                  have n244 : F221 31 = .int u52 := (get_ne eF221 (by decide) i59)
                  exact ih_57 (v241, 1, r237, g216, F221, v219, u51, u52) ⟨(ir_wk k242 (by decide) (by decide)), (show 0 ≤ (1 : Int32).toInt ∧ (1 : Int32).toInt ≤ 1 by decide), t238, (SAME.up eF221 (SAME.tr SAME.rf i56 (by decide)) (by decide)), (get_eq eF221), n243, n244, k220, i61⟩ (by show (4 - v241.toInt).toNat < (4 - u45.toInt).toNat; omega) _ _ _ hP hD hS (lv_sub hl [0, 2, 1, 3, 4, 5] rfl)
                · have dc233 : x_kicks.toInt ≠ 0 := ne_i (a := x_kicks.toInt) (b := 0) rfl rfl c233
                  have k245 : 1 ≤ x_kicks.toInt ∧ x_kicks.toInt ≤ 1 := ⟨ne_lo dc233 i_x_kicks.1 ⟨Int.le_refl _, Int.le_refl _⟩ (by decide), i_x_kicks.2⟩
                  refine lv_aload_n hx hb dX10_starts_177 rfl (lv_at hl 5 rfl) ?_
                  refine lv_bipush (v := 8) hx hb dX10_starts_178 (by decide) ?_
                  have n246 : F221 31 = .int u52 := (get_ne eF221 (by decide) i59)
                  refine call_Vi (wr := [(h_paceAt, .inl (cI, 40, .inl w12)), (h_kindOf, .inl (cI, 4, .inl g216)), (h_s, .inl (cI, 335, .inl f_s))]) (As := [.int 8]) (rest := [.int v225]) hx hb hml hown hw (m_X10_draw l D cI cJ cB cP cM cZ h0 F221 u52 8 _ n246 (show 8 ≤ (8 : Int32).toInt ∧ (8 : Int32).toInt ≤ 8 by decide)) wV_X10_334_X10_draw dX10_starts_180 hK hP hD hS hA [2] [0, 1, 3] rfl rfl (by decide) (by decide) (by decide) 0 10 rfl rfl GG.fb hG.at hl.1 rfl (Nat.le_of_ble_eq_true rfl) ⟨(Nat.le_of_ble_eq_true rfl), (Nat.le_of_ble_eq_true rfl)⟩ ⟨(Nat.le_of_ble_eq_true rfl), (Nat.le_of_ble_eq_true rfl)⟩ (fun r247 u H locs hp hP hD hS => ?_)
                  have zl8 : (8 : Int32).toInt = 8 := by decide
                  obtain ⟨F248, y249, t250, t251, rfl⟩ := hp
                  have hP : va_P D vwCl [(h_paceAt, .inl (cI, 40, .inl w12)), (h_kindOf, .inl (cI, 4, .inl g216)), (h_s, .inl (cI, 335, .inl f_s)), (h0, .inr (10, vL 67 F248))] H := hP
                  have hD : va_D A [(h_paceAt, .inl (cI, 40, .inl w12)), (h_kindOf, .inl (cI, 4, .inl g216)), (h_s, .inl (cI, 335, .inl f_s)), (h0, .inr (10, vL 67 F248))] := hD
                  refine W.widen (k := 0) (n := 0) (Nat.le_of_ble_eq_true rfl) (Nat.le_of_ble_eq_true rfl) ?_
                  refine lv_if_ne (tgt := 191) hx hb dX10_starts_183 (by decide) (fun c253 => ?_) (fun c253 => ?_)
                  · have dc253 : r247.toInt ≠ 0 := ne_i (a := r247.toInt) (b := 0) rfl rfl c253
                    refine lv_iconst (v := 0) hx hb dX10_starts_191 (by decide) ?_
                    refine lv_isub hx hb dX10_starts_192 ?_
                    refine lv_topi (fun v254 ev254 => ?_)
                    have bv254 : v254.toInt = v225.toInt - 0 := by rw [ev254]; exact sub_k rfl rfl k226 ⟨Int.le_refl _, Int.le_refl _⟩ (by decide)
                    have k255 : 8 ≤ v254.toInt ∧ v254.toInt ≤ 248 := sub_r bv254 k226 ⟨Int.le_refl _, Int.le_refl _⟩ (by decide)
                    refine call_Si (wr := [(h_paceAt, .inl (cI, 40, .inl w12)), (h_kindOf, .inl (cI, 4, .inl g216)), (h_s, .inl (cI, 335, .inl f_s)), (h0, .inr (10, vL 67 F248))]) (As := [.int v254]) (rest := []) hx hb hml hown hw (m_X10_bounded l D cI cJ cB cP cM cZ v254 _ ) wS_X10_311_X10_bounded dX10_starts_193 hP hD hS hA [] [0, 1, 2, 3] rfl rfl (by decide) (by decide) (by decide) GG.fb hG.at hl.1 rfl (Nat.le_of_ble_eq_true rfl) ⟨(Nat.le_of_ble_eq_true rfl), (Nat.le_of_ble_eq_true rfl)⟩ ⟨(Nat.le_of_ble_eq_true rfl), (Nat.le_of_ble_eq_true rfl)⟩ (fun r256 u H locs hp hP hD hS => ?_)
                    obtain ⟨t257, t258, rfl⟩ := hp
                    have hP : va_P D vwCl [(h_paceAt, .inl (cI, 40, .inl w12)), (h_kindOf, .inl (cI, 4, .inl g216)), (h_s, .inl (cI, 335, .inl f_s)), (h0, .inr (10, vL 67 F248))] H := hP
                    have hD : va_D A [(h_paceAt, .inl (cI, 40, .inl w12)), (h_kindOf, .inl (cI, 4, .inl g216)), (h_s, .inl (cI, 335, .inl f_s)), (h0, .inr (10, vL 67 F248))] := hD
                    refine W.widen (k := 0) (n := 0) (Nat.le_of_ble_eq_true rfl) (Nat.le_of_ble_eq_true rfl) ?_
                    refine lv_istore_n (lv' := [(1, .int r256), (4, .int 1), (5, .int u45), (3, .int u4), (2, .int u5), (0, .ref h0)]) hx hb dX10_starts_196 rfl hl (by decide) rfl (fun ls hl => ?_)
                    obtain ⟨v260, ev260⟩ : ∃ z : Int32, z = u45 + 1 := ⟨_, rfl⟩
                    have bv260 : v260.toInt = u45.toInt + 1 := by rw [ev260]; exact add_k rfl rfl k80 ⟨Int.le_refl _, Int.le_refl _⟩ (by decide)
                    have k261 : 1 ≤ v260.toInt ∧ v260.toInt ≤ 4 := add_r bv260 k80 ⟨Int.le_refl _, Int.le_refl _⟩ (by decide)
                    refine lv_iinc (v := v260) (lv' := [(5, .int v260), (1, .int r256), (4, .int 1), (3, .int u4), (2, .int u5), (0, .ref h0)]) hx hb dX10_starts_197 hl (k := 2) rfl (by rw [ev260]; rfl) (by decide) rfl (fun ls hl => ?_)
                    refine lv_goto (tgt := 57) hx hb dX10_starts_200 (by decide) ?_
                    have n262 : F248 29 = .int v219 := (SAME.at t250 (by decide) (get_eq eF221))
                    have n263 : F221 30 = .int u51 := (get_ne eF221 (by decide) i58)
                    have n264 : F248 30 = .int u51 := (SAME.at t250 (by decide) n263)
                    exact ih_57 (v260, 1, r256, g216, F248, v219, u51, y249) ⟨(ir_wk k261 (by decide) (by decide)), (show 0 ≤ (1 : Int32).toInt ∧ (1 : Int32).toInt ≤ 1 by decide), t257, (SAME.tr (SAME.up eF221 (SAME.tr SAME.rf i56 (by decide)) (by decide)) t250 (by decide)), n262, n264, t251, k220, i61⟩ (by show (4 - v260.toInt).toNat < (4 - u45.toInt).toNat; omega) _ _ _ (hP.sub [0, 1, 3, 2] rfl) (hD.sub [0, 1, 3, 2] (by decide) rfl) hS (lv_sub hl [0, 2, 1, 3, 4, 5] rfl)
                  · have dc253 : r247.toInt = 0 := eq_i (a := r247.toInt) (b := 0) rfl rfl c253
                    have k265 : 0 ≤ r247.toInt ∧ r247.toInt ≤ 0 := ⟨Int.le_trans (Int.le_refl _) (Int.le_of_eq dc253.symm), Int.le_trans (Int.le_of_eq dc253) (Int.le_refl _)⟩
                    refine lv_bipush (v := 10) hx hb dX10_starts_186 (by decide) ?_
                    refine lv_goto (tgt := 192) hx hb dX10_starts_188 (by decide) ?_
                    refine lv_isub hx hb dX10_starts_192 ?_
                    refine lv_topi (fun v266 ev266 => ?_)
                    have bv266 : v266.toInt = v225.toInt - 10 := by rw [ev266]; exact sub_k rfl rfl k226 ⟨Int.le_refl _, Int.le_refl _⟩ (by decide)
                    have k267 : (-2) ≤ v266.toInt ∧ v266.toInt ≤ 238 := sub_r bv266 k226 ⟨Int.le_refl _, Int.le_refl _⟩ (by decide)
                    refine call_Si (wr := [(h_paceAt, .inl (cI, 40, .inl w12)), (h_kindOf, .inl (cI, 4, .inl g216)), (h_s, .inl (cI, 335, .inl f_s)), (h0, .inr (10, vL 67 F248))]) (As := [.int v266]) (rest := []) hx hb hml hown hw (m_X10_bounded l D cI cJ cB cP cM cZ v266 _ ) wS_X10_311_X10_bounded dX10_starts_193 hP hD hS hA [] [0, 1, 2, 3] rfl rfl (by decide) (by decide) (by decide) GG.fb hG.at hl.1 rfl (Nat.le_of_ble_eq_true rfl) ⟨(Nat.le_of_ble_eq_true rfl), (Nat.le_of_ble_eq_true rfl)⟩ ⟨(Nat.le_of_ble_eq_true rfl), (Nat.le_of_ble_eq_true rfl)⟩ (fun r268 u H locs hp hP hD hS => ?_)
                    obtain ⟨t269, t270, rfl⟩ := hp
                    have hP : va_P D vwCl [(h_paceAt, .inl (cI, 40, .inl w12)), (h_kindOf, .inl (cI, 4, .inl g216)), (h_s, .inl (cI, 335, .inl f_s)), (h0, .inr (10, vL 67 F248))] H := hP
                    have hD : va_D A [(h_paceAt, .inl (cI, 40, .inl w12)), (h_kindOf, .inl (cI, 4, .inl g216)), (h_s, .inl (cI, 335, .inl f_s)), (h0, .inr (10, vL 67 F248))] := hD
                    refine W.widen (k := 0) (n := 0) (Nat.le_of_ble_eq_true rfl) (Nat.le_of_ble_eq_true rfl) ?_
                    refine lv_istore_n (lv' := [(1, .int r268), (4, .int 1), (5, .int u45), (3, .int u4), (2, .int u5), (0, .ref h0)]) hx hb dX10_starts_196 rfl hl (by decide) rfl (fun ls hl => ?_)
                    obtain ⟨v272, ev272⟩ : ∃ z : Int32, z = u45 + 1 := ⟨_, rfl⟩
                    have bv272 : v272.toInt = u45.toInt + 1 := by rw [ev272]; exact add_k rfl rfl k80 ⟨Int.le_refl _, Int.le_refl _⟩ (by decide)
                    have k273 : 1 ≤ v272.toInt ∧ v272.toInt ≤ 4 := add_r bv272 k80 ⟨Int.le_refl _, Int.le_refl _⟩ (by decide)
                    refine lv_iinc (v := v272) (lv' := [(5, .int v272), (1, .int r268), (4, .int 1), (3, .int u4), (2, .int u5), (0, .ref h0)]) hx hb dX10_starts_197 hl (k := 2) rfl (by rw [ev272]; rfl) (by decide) rfl (fun ls hl => ?_)
                    refine lv_goto (tgt := 57) hx hb dX10_starts_200 (by decide) ?_
                    have n274 : F248 29 = .int v219 := (SAME.at t250 (by decide) (get_eq eF221))
                    have n275 : F221 30 = .int u51 := (get_ne eF221 (by decide) i58)
                    have n276 : F248 30 = .int u51 := (SAME.at t250 (by decide) n275)
                    exact ih_57 (v272, 1, r268, g216, F248, v219, u51, y249) ⟨(ir_wk k273 (by decide) (by decide)), (show 0 ≤ (1 : Int32).toInt ∧ (1 : Int32).toInt ≤ 1 by decide), t269, (SAME.tr (SAME.up eF221 (SAME.tr SAME.rf i56 (by decide)) (by decide)) t250 (by decide)), n274, n276, t251, k220, i61⟩ (by show (4 - v272.toInt).toNat < (4 - u45.toInt).toNat; omega) _ _ _ (hP.sub [0, 1, 3, 2] rfl) (hD.sub [0, 1, 3, 2] (by decide) rfl) hS (lv_sub hl [0, 2, 1, 3, 4, 5] rfl)
              · have dc224 : v223.toInt = 1 := eq_i (a := v223.toInt) (b := 1) rfl rfl c224
                have k277 : 1 ≤ v223.toInt ∧ v223.toInt ≤ 1 := ⟨Int.le_trans (Int.le_refl _) (Int.le_of_eq dc224.symm), Int.le_trans (Int.le_of_eq dc224) (Int.le_refl _)⟩
                refine lv_bipush (v := 6) hx hb dX10_starts_163 (by decide) ?_
                refine lv_goto (tgt := 169) hx hb dX10_starts_165 (by decide) ?_
                refine lv_isub hx hb dX10_starts_169 ?_
                refine lv_topi (fun v278 ev278 => ?_)
                have bv278 : v278.toInt = u47.toInt - 6 := by rw [ev278]; exact sub_k rfl rfl i55 ⟨Int.le_refl _, Int.le_refl _⟩ (by decide)
                have k279 : 4 ≤ v278.toInt ∧ v278.toInt ≤ 244 := sub_r bv278 i55 ⟨Int.le_refl _, Int.le_refl _⟩ (by decide)
                refine lv_aload_n hx hb dX10_starts_170 rfl (lv_at hl 5 rfl) ?_
                have n280 : F1 32 = .int x_kicks := (get_ne eF1 (by decide) e_kicks)
                have n281 : F2 32 = .int x_kicks := (get_ne eF2 (by decide) n280)
                have n282 : F3 32 = .int x_kicks := (get_ne eF3 (by decide) n281)
                have n283 : G7 32 = .int x_kicks := (SAME.at i23 (by decide) n282)
                have n284 : G49 32 = .int x_kicks := (SAME.at i56 (by decide) n283)
                have n285 : F221 32 = .int x_kicks := (get_ne eF221 (by decide) n284)
                refine get_f (D := D) (ci := 10) (v := .int x_kicks) (C := RX10) (T := TX10) (N := 67) hx hb hw inAX10 hown hK hP 2 rfl rfl 32 (by decide) (hw _ q_1293) (fun _ h9 => h9) n285 dX10_starts_171 ?_
                refine lv_if_eq (tgt := 191) hx hb dX10_starts_174 (by decide) (fun c286 => ?_) (fun c286 => ?_)
                · have dc286 : x_kicks.toInt = 0 := eq_i (a := x_kicks.toInt) (b := 0) rfl rfl c286
                  have k287 : 0 ≤ x_kicks.toInt ∧ x_kicks.toInt ≤ 0 := ⟨i_x_kicks.1, Int.le_trans (Int.le_of_eq dc286) (Int.le_refl _)⟩
                  refine lv_iconst (v := 0) hx hb dX10_starts_191 (by decide) ?_
                  refine lv_isub hx hb dX10_starts_192 ?_
                  refine lv_topi (fun v288 ev288 => ?_)
                  have bv288 : v288.toInt = v278.toInt - 0 := by rw [ev288]; exact sub_k rfl rfl k279 ⟨Int.le_refl _, Int.le_refl _⟩ (by decide)
                  have k289 : 4 ≤ v288.toInt ∧ v288.toInt ≤ 244 := sub_r bv288 k279 ⟨Int.le_refl _, Int.le_refl _⟩ (by decide)
                  refine call_Si (wr := [(h_paceAt, .inl (cI, 40, .inl w12)), (h_kindOf, .inl (cI, 4, .inl g216)), (h0, .inr (10, vL 67 F221)), (h_s, .inl (cI, 335, .inl f_s))]) (As := [.int v288]) (rest := []) hx hb hml hown hw (m_X10_bounded l D cI cJ cB cP cM cZ v288 _ ) wS_X10_311_X10_bounded dX10_starts_193 hP hD hS hA [] [0, 1, 2, 3] rfl rfl (by decide) (by decide) (by decide) GG.fb hG.at hl.1 rfl (Nat.le_of_ble_eq_true rfl) ⟨(Nat.le_of_ble_eq_true rfl), (Nat.le_of_ble_eq_true rfl)⟩ ⟨(Nat.le_of_ble_eq_true rfl), (Nat.le_of_ble_eq_true rfl)⟩ (fun r290 u H locs hp hP hD hS => ?_)
                  obtain ⟨t291, t292, rfl⟩ := hp
                  have hP : va_P D vwCl [(h_paceAt, .inl (cI, 40, .inl w12)), (h_kindOf, .inl (cI, 4, .inl g216)), (h0, .inr (10, vL 67 F221)), (h_s, .inl (cI, 335, .inl f_s))] H := hP
                  have hD : va_D A [(h_paceAt, .inl (cI, 40, .inl w12)), (h_kindOf, .inl (cI, 4, .inl g216)), (h0, .inr (10, vL 67 F221)), (h_s, .inl (cI, 335, .inl f_s))] := hD
                  refine W.widen (k := 0) (n := 0) (Nat.le_of_ble_eq_true rfl) (Nat.le_of_ble_eq_true rfl) ?_
                  refine lv_istore_n (lv' := [(1, .int r290), (4, .int 1), (5, .int u45), (3, .int u4), (2, .int u5), (0, .ref h0)]) hx hb dX10_starts_196 rfl hl (by decide) rfl (fun ls hl => ?_)
                  obtain ⟨v294, ev294⟩ : ∃ z : Int32, z = u45 + 1 := ⟨_, rfl⟩
                  have bv294 : v294.toInt = u45.toInt + 1 := by rw [ev294]; exact add_k rfl rfl k80 ⟨Int.le_refl _, Int.le_refl _⟩ (by decide)
                  have k295 : 1 ≤ v294.toInt ∧ v294.toInt ≤ 4 := add_r bv294 k80 ⟨Int.le_refl _, Int.le_refl _⟩ (by decide)
                  refine lv_iinc (v := v294) (lv' := [(5, .int v294), (1, .int r290), (4, .int 1), (3, .int u4), (2, .int u5), (0, .ref h0)]) hx hb dX10_starts_197 hl (k := 2) rfl (by rw [ev294]; rfl) (by decide) rfl (fun ls hl => ?_)
                  refine lv_goto (tgt := 57) hx hb dX10_starts_200 (by decide) ?_
                  have n296 : F221 30 = .int u51 := (get_ne eF221 (by decide) i58)
                  have n297 : F221 31 = .int u52 := (get_ne eF221 (by decide) i59)
                  exact ih_57 (v294, 1, r290, g216, F221, v219, u51, u52) ⟨(ir_wk k295 (by decide) (by decide)), (show 0 ≤ (1 : Int32).toInt ∧ (1 : Int32).toInt ≤ 1 by decide), t291, (SAME.up eF221 (SAME.tr SAME.rf i56 (by decide)) (by decide)), (get_eq eF221), n296, n297, k220, i61⟩ (by show (4 - v294.toInt).toNat < (4 - u45.toInt).toNat; omega) _ _ _ hP hD hS (lv_sub hl [0, 2, 1, 3, 4, 5] rfl)
                · have dc286 : x_kicks.toInt ≠ 0 := ne_i (a := x_kicks.toInt) (b := 0) rfl rfl c286
                  have k298 : 1 ≤ x_kicks.toInt ∧ x_kicks.toInt ≤ 1 := ⟨ne_lo dc286 i_x_kicks.1 ⟨Int.le_refl _, Int.le_refl _⟩ (by decide), i_x_kicks.2⟩
                  refine lv_aload_n hx hb dX10_starts_177 rfl (lv_at hl 5 rfl) ?_
                  refine lv_bipush (v := 8) hx hb dX10_starts_178 (by decide) ?_
                  have n299 : F221 31 = .int u52 := (get_ne eF221 (by decide) i59)
                  refine call_Vi (wr := [(h_paceAt, .inl (cI, 40, .inl w12)), (h_kindOf, .inl (cI, 4, .inl g216)), (h_s, .inl (cI, 335, .inl f_s))]) (As := [.int 8]) (rest := [.int v278]) hx hb hml hown hw (m_X10_draw l D cI cJ cB cP cM cZ h0 F221 u52 8 _ n299 (show 8 ≤ (8 : Int32).toInt ∧ (8 : Int32).toInt ≤ 8 by decide)) wV_X10_334_X10_draw dX10_starts_180 hK hP hD hS hA [2] [0, 1, 3] rfl rfl (by decide) (by decide) (by decide) 0 10 rfl rfl GG.fb hG.at hl.1 rfl (Nat.le_of_ble_eq_true rfl) ⟨(Nat.le_of_ble_eq_true rfl), (Nat.le_of_ble_eq_true rfl)⟩ ⟨(Nat.le_of_ble_eq_true rfl), (Nat.le_of_ble_eq_true rfl)⟩ (fun r300 u H locs hp hP hD hS => ?_)
                  have zl8 : (8 : Int32).toInt = 8 := by decide
                  obtain ⟨F301, y302, t303, t304, rfl⟩ := hp
                  have hP : va_P D vwCl [(h_paceAt, .inl (cI, 40, .inl w12)), (h_kindOf, .inl (cI, 4, .inl g216)), (h_s, .inl (cI, 335, .inl f_s)), (h0, .inr (10, vL 67 F301))] H := hP
                  have hD : va_D A [(h_paceAt, .inl (cI, 40, .inl w12)), (h_kindOf, .inl (cI, 4, .inl g216)), (h_s, .inl (cI, 335, .inl f_s)), (h0, .inr (10, vL 67 F301))] := hD
                  refine W.widen (k := 0) (n := 0) (Nat.le_of_ble_eq_true rfl) (Nat.le_of_ble_eq_true rfl) ?_
                  refine lv_if_ne (tgt := 191) hx hb dX10_starts_183 (by decide) (fun c306 => ?_) (fun c306 => ?_)
                  · have dc306 : r300.toInt ≠ 0 := ne_i (a := r300.toInt) (b := 0) rfl rfl c306
                    refine lv_iconst (v := 0) hx hb dX10_starts_191 (by decide) ?_
                    refine lv_isub hx hb dX10_starts_192 ?_
                    refine lv_topi (fun v307 ev307 => ?_)
                    have bv307 : v307.toInt = v278.toInt - 0 := by rw [ev307]; exact sub_k rfl rfl k279 ⟨Int.le_refl _, Int.le_refl _⟩ (by decide)
                    have k308 : 4 ≤ v307.toInt ∧ v307.toInt ≤ 244 := sub_r bv307 k279 ⟨Int.le_refl _, Int.le_refl _⟩ (by decide)
                    refine call_Si (wr := [(h_paceAt, .inl (cI, 40, .inl w12)), (h_kindOf, .inl (cI, 4, .inl g216)), (h_s, .inl (cI, 335, .inl f_s)), (h0, .inr (10, vL 67 F301))]) (As := [.int v307]) (rest := []) hx hb hml hown hw (m_X10_bounded l D cI cJ cB cP cM cZ v307 _ ) wS_X10_311_X10_bounded dX10_starts_193 hP hD hS hA [] [0, 1, 2, 3] rfl rfl (by decide) (by decide) (by decide) GG.fb hG.at hl.1 rfl (Nat.le_of_ble_eq_true rfl) ⟨(Nat.le_of_ble_eq_true rfl), (Nat.le_of_ble_eq_true rfl)⟩ ⟨(Nat.le_of_ble_eq_true rfl), (Nat.le_of_ble_eq_true rfl)⟩ (fun r309 u H locs hp hP hD hS => ?_)
                    obtain ⟨t310, t311, rfl⟩ := hp
                    have hP : va_P D vwCl [(h_paceAt, .inl (cI, 40, .inl w12)), (h_kindOf, .inl (cI, 4, .inl g216)), (h_s, .inl (cI, 335, .inl f_s)), (h0, .inr (10, vL 67 F301))] H := hP
                    have hD : va_D A [(h_paceAt, .inl (cI, 40, .inl w12)), (h_kindOf, .inl (cI, 4, .inl g216)), (h_s, .inl (cI, 335, .inl f_s)), (h0, .inr (10, vL 67 F301))] := hD
                    refine W.widen (k := 0) (n := 0) (Nat.le_of_ble_eq_true rfl) (Nat.le_of_ble_eq_true rfl) ?_
                    refine lv_istore_n (lv' := [(1, .int r309), (4, .int 1), (5, .int u45), (3, .int u4), (2, .int u5), (0, .ref h0)]) hx hb dX10_starts_196 rfl hl (by decide) rfl (fun ls hl => ?_)
                    obtain ⟨v313, ev313⟩ : ∃ z : Int32, z = u45 + 1 := ⟨_, rfl⟩
                    have bv313 : v313.toInt = u45.toInt + 1 := by rw [ev313]; exact add_k rfl rfl k80 ⟨Int.le_refl _, Int.le_refl _⟩ (by decide)
                    have k314 : 1 ≤ v313.toInt ∧ v313.toInt ≤ 4 := add_r bv313 k80 ⟨Int.le_refl _, Int.le_refl _⟩ (by decide)
                    refine lv_iinc (v := v313) (lv' := [(5, .int v313), (1, .int r309), (4, .int 1), (3, .int u4), (2, .int u5), (0, .ref h0)]) hx hb dX10_starts_197 hl (k := 2) rfl (by rw [ev313]; rfl) (by decide) rfl (fun ls hl => ?_)
                    refine lv_goto (tgt := 57) hx hb dX10_starts_200 (by decide) ?_
                    have n315 : F301 29 = .int v219 := (SAME.at t303 (by decide) (get_eq eF221))
                    have n316 : F221 30 = .int u51 := (get_ne eF221 (by decide) i58)
                    have n317 : F301 30 = .int u51 := (SAME.at t303 (by decide) n316)
                    exact ih_57 (v313, 1, r309, g216, F301, v219, u51, y302) ⟨(ir_wk k314 (by decide) (by decide)), (show 0 ≤ (1 : Int32).toInt ∧ (1 : Int32).toInt ≤ 1 by decide), t310, (SAME.tr (SAME.up eF221 (SAME.tr SAME.rf i56 (by decide)) (by decide)) t303 (by decide)), n315, n317, t304, k220, i61⟩ (by show (4 - v313.toInt).toNat < (4 - u45.toInt).toNat; omega) _ _ _ (hP.sub [0, 1, 3, 2] rfl) (hD.sub [0, 1, 3, 2] (by decide) rfl) hS (lv_sub hl [0, 2, 1, 3, 4, 5] rfl)
                  · have dc306 : r300.toInt = 0 := eq_i (a := r300.toInt) (b := 0) rfl rfl c306
                    have k318 : 0 ≤ r300.toInt ∧ r300.toInt ≤ 0 := ⟨Int.le_trans (Int.le_refl _) (Int.le_of_eq dc306.symm), Int.le_trans (Int.le_of_eq dc306) (Int.le_refl _)⟩
                    refine lv_bipush (v := 10) hx hb dX10_starts_186 (by decide) ?_
                    refine lv_goto (tgt := 192) hx hb dX10_starts_188 (by decide) ?_
                    refine lv_isub hx hb dX10_starts_192 ?_
                    refine lv_topi (fun v319 ev319 => ?_)
                    have bv319 : v319.toInt = v278.toInt - 10 := by rw [ev319]; exact sub_k rfl rfl k279 ⟨Int.le_refl _, Int.le_refl _⟩ (by decide)
                    have k320 : (-6) ≤ v319.toInt ∧ v319.toInt ≤ 234 := sub_r bv319 k279 ⟨Int.le_refl _, Int.le_refl _⟩ (by decide)
                    refine call_Si (wr := [(h_paceAt, .inl (cI, 40, .inl w12)), (h_kindOf, .inl (cI, 4, .inl g216)), (h_s, .inl (cI, 335, .inl f_s)), (h0, .inr (10, vL 67 F301))]) (As := [.int v319]) (rest := []) hx hb hml hown hw (m_X10_bounded l D cI cJ cB cP cM cZ v319 _ ) wS_X10_311_X10_bounded dX10_starts_193 hP hD hS hA [] [0, 1, 2, 3] rfl rfl (by decide) (by decide) (by decide) GG.fb hG.at hl.1 rfl (Nat.le_of_ble_eq_true rfl) ⟨(Nat.le_of_ble_eq_true rfl), (Nat.le_of_ble_eq_true rfl)⟩ ⟨(Nat.le_of_ble_eq_true rfl), (Nat.le_of_ble_eq_true rfl)⟩ (fun r321 u H locs hp hP hD hS => ?_)
                    obtain ⟨t322, t323, rfl⟩ := hp
                    have hP : va_P D vwCl [(h_paceAt, .inl (cI, 40, .inl w12)), (h_kindOf, .inl (cI, 4, .inl g216)), (h_s, .inl (cI, 335, .inl f_s)), (h0, .inr (10, vL 67 F301))] H := hP
                    have hD : va_D A [(h_paceAt, .inl (cI, 40, .inl w12)), (h_kindOf, .inl (cI, 4, .inl g216)), (h_s, .inl (cI, 335, .inl f_s)), (h0, .inr (10, vL 67 F301))] := hD
                    refine W.widen (k := 0) (n := 0) (Nat.le_of_ble_eq_true rfl) (Nat.le_of_ble_eq_true rfl) ?_
                    refine lv_istore_n (lv' := [(1, .int r321), (4, .int 1), (5, .int u45), (3, .int u4), (2, .int u5), (0, .ref h0)]) hx hb dX10_starts_196 rfl hl (by decide) rfl (fun ls hl => ?_)
                    obtain ⟨v325, ev325⟩ : ∃ z : Int32, z = u45 + 1 := ⟨_, rfl⟩
                    have bv325 : v325.toInt = u45.toInt + 1 := by rw [ev325]; exact add_k rfl rfl k80 ⟨Int.le_refl _, Int.le_refl _⟩ (by decide)
                    have k326 : 1 ≤ v325.toInt ∧ v325.toInt ≤ 4 := add_r bv325 k80 ⟨Int.le_refl _, Int.le_refl _⟩ (by decide)
                    refine lv_iinc (v := v325) (lv' := [(5, .int v325), (1, .int r321), (4, .int 1), (3, .int u4), (2, .int u5), (0, .ref h0)]) hx hb dX10_starts_197 hl (k := 2) rfl (by rw [ev325]; rfl) (by decide) rfl (fun ls hl => ?_)
                    refine lv_goto (tgt := 57) hx hb dX10_starts_200 (by decide) ?_
                    have n327 : F301 29 = .int v219 := (SAME.at t303 (by decide) (get_eq eF221))
                    have n328 : F221 30 = .int u51 := (get_ne eF221 (by decide) i58)
                    have n329 : F301 30 = .int u51 := (SAME.at t303 (by decide) n328)
                    exact ih_57 (v325, 1, r321, g216, F301, v219, u51, y302) ⟨(ir_wk k326 (by decide) (by decide)), (show 0 ≤ (1 : Int32).toInt ∧ (1 : Int32).toInt ≤ 1 by decide), t322, (SAME.tr (SAME.up eF221 (SAME.tr SAME.rf i56 (by decide)) (by decide)) t303 (by decide)), n327, n329, t304, k220, i61⟩ (by show (4 - v325.toInt).toNat < (4 - u45.toInt).toNat; omega) _ _ _ (hP.sub [0, 1, 3, 2] rfl) (hD.sub [0, 1, 3, 2] (by decide) rfl) hS (lv_sub hl [0, 2, 1, 3, 4, 5] rfl)
            · have dc214 : u5.toInt ≠ 0 := ne_i (a := u5.toInt) (b := 0) rfl rfl c214
              have k330 : 1 ≤ u5.toInt ∧ u5.toInt ≤ 1 := ⟨ne_lo dc214 i21.1 ⟨Int.le_refl _, Int.le_refl _⟩ (by decide), i21.2⟩
              refine lv_iconst (v := 1) hx hb dX10_starts_129 (by decide) ?_
              refine lv_goto (tgt := 134) hx hb dX10_starts_130 (by decide) ?_
              obtain ⟨g331, eg331⟩ : ∃ z : Nat → Int32, upd w48 u45.toNatClampNeg 1 = z := ⟨_, rfl⟩
              refine iast_g hx hb hK hP hD hS 1 0 rfl rfl (ix_k k80 (by decide) (by decide)) eg331 dX10_starts_134 (fun H locs hP hD hS => ?_)
              have hP : va_P D vwCl [(h_paceAt, .inl (cI, 40, .inl w12)), (h_kindOf, .inl (cI, 4, .inl g331)), (h0, .inr (10, vL 67 G49)), (h_s, .inl (cI, 335, .inl f_s))] H := hP
              have hD : va_D A [(h_paceAt, .inl (cI, 40, .inl w12)), (h_kindOf, .inl (cI, 4, .inl g331)), (h0, .inr (10, vL 67 G49)), (h_s, .inl (cI, 335, .inl f_s))] := hD
              refine lv_aload_n hx hb dX10_starts_135 rfl (lv_at hl 5 rfl) ?_
              refine lv_dup hx hb dX10_starts_136 rfl ?_
              refine get_f (D := D) (ci := 10) (v := .int u50) (C := RX10) (T := TX10) (N := 67) hx hb hw inAX10 hown hK hP 2 rfl rfl 29 (by decide) (hw _ q_1290) (fun _ h9 => h9) i57 dX10_starts_137 ?_
              refine lv_iconst (v := 1) hx hb dX10_starts_140 (by decide) ?_
              refine lv_iload hx hb dX10_starts_141 (lv_at hl 0 rfl) ?_
              refine lv_ishl hx hb dX10_starts_143 ?_
              refine lv_topi (fun v332 ev332 => ?_)
              have k333 : 1 ≤ v332.toInt ∧ v332.toInt ≤ 8 := by rw [ev332]; exact shl1_i (Int.le_trans (by decide) k80.1) (Int.le_trans k80.2 (by decide))
              refine lv_ior hx hb dX10_starts_144 ?_
              refine lv_topi (fun v334 ev334 => ?_)
              have k335 : 0 ≤ v334.toInt ∧ v334.toInt ≤ 15 := by rw [ev334]; exact or_ik (ir_wk i60 (by decide) (by decide)) (ir_wk k333 (by decide) (by decide))
              refine put_f (D := D) (ci := 10) (v := .int v334) (ty := .int) (C := RX10) (T := TX10) (N := 67) hx hb hw inAX10 tyX10 tyX10_ok nmX10 hown hK hP hD hS 2 rfl rfl 29 (by decide) (hw _ q_1290) (fun _ h9 => h9) rfl (by decide +kernel) rfl rfl dX10_starts_145 (fun H locs F336 eF336 hP hD hS => ?_)
              have hP : va_P D vwCl [(h_paceAt, .inl (cI, 40, .inl w12)), (h_kindOf, .inl (cI, 4, .inl g331)), (h0, .inr (10, vL 67 F336)), (h_s, .inl (cI, 335, .inl f_s))] H := hP
              have hD : va_D A [(h_paceAt, .inl (cI, 40, .inl w12)), (h_kindOf, .inl (cI, 4, .inl g331)), (h0, .inr (10, vL 67 F336)), (h_s, .inl (cI, 335, .inl f_s))] := hD
              refine lv_iconst (v := 1) hx hb dX10_starts_148 (by decide) ?_
              refine lv_istore (lv' := [(4, .int 1), (5, .int u45), (1, .int u47), (3, .int u4), (2, .int u5), (0, .ref h0)]) hx hb dX10_starts_149 hl (by decide) rfl (fun ls hl => ?_)
              refine lv_iload_n hx hb dX10_starts_151 rfl (lv_at hl 2 rfl) ?_
              refine lv_aload_n hx hb dX10_starts_152 rfl (lv_at hl 5 rfl) ?_
              have n337 : F336 26 = .ref h_kindOf := (get_ne eF336 (by decide) n96)
              refine get_f (D := D) (ci := 10) (v := .ref h_kindOf) (C := RX10) (T := TX10) (N := 67) hx hb hw inAX10 hown hK hP 2 rfl rfl 26 (by decide) (hw _ q_1287) (fun _ h9 => h9) n337 dX10_starts_153 ?_
              refine lv_iload hx hb dX10_starts_156 (lv_at hl 1 rfl) ?_
              refine va_iald hx hb hK hP 1 0 rfl rfl (ix_k k80 (by decide) (by decide)) dX10_starts_158 ?_
              refine lv_topi (fun v338 ev338 => ?_)
              refine lv_iconst (v := 1) hx hb dX10_starts_159 (by decide) ?_
              refine lv_icmp_ne (tgt := 168) hx hb dX10_starts_160 (by decide) (fun c339 => ?_) (fun c339 => ?_)
              · have dc339 : v338.toInt ≠ 1 := ne_i (a := v338.toInt) (b := 1) rfl rfl c339
                refine lv_iconst (v := 2) hx hb dX10_starts_168 (by decide) ?_
                refine lv_isub hx hb dX10_starts_169 ?_
                refine lv_topi (fun v340 ev340 => ?_)
                have bv340 : v340.toInt = u47.toInt - 2 := by rw [ev340]; exact sub_k rfl rfl i55 ⟨Int.le_refl _, Int.le_refl _⟩ (by decide)
                have k341 : 8 ≤ v340.toInt ∧ v340.toInt ≤ 248 := sub_r bv340 i55 ⟨Int.le_refl _, Int.le_refl _⟩ (by decide)
                refine lv_aload_n hx hb dX10_starts_170 rfl (lv_at hl 5 rfl) ?_
                have n342 : F1 32 = .int x_kicks := (get_ne eF1 (by decide) e_kicks)
                have n343 : F2 32 = .int x_kicks := (get_ne eF2 (by decide) n342)
                have n344 : F3 32 = .int x_kicks := (get_ne eF3 (by decide) n343)
                have n345 : G7 32 = .int x_kicks := (SAME.at i23 (by decide) n344)
                have n346 : G49 32 = .int x_kicks := (SAME.at i56 (by decide) n345)
                have n347 : F336 32 = .int x_kicks := (get_ne eF336 (by decide) n346)
                refine get_f (D := D) (ci := 10) (v := .int x_kicks) (C := RX10) (T := TX10) (N := 67) hx hb hw inAX10 hown hK hP 2 rfl rfl 32 (by decide) (hw _ q_1293) (fun _ h9 => h9) n347 dX10_starts_171 ?_
                refine lv_if_eq (tgt := 191) hx hb dX10_starts_174 (by decide) (fun c348 => ?_) (fun c348 => ?_)
                · have dc348 : x_kicks.toInt = 0 := eq_i (a := x_kicks.toInt) (b := 0) rfl rfl c348
                  have k349 : 0 ≤ x_kicks.toInt ∧ x_kicks.toInt ≤ 0 := ⟨i_x_kicks.1, Int.le_trans (Int.le_of_eq dc348) (Int.le_refl _)⟩
                  refine lv_iconst (v := 0) hx hb dX10_starts_191 (by decide) ?_
                  refine lv_isub hx hb dX10_starts_192 ?_
                  refine lv_topi (fun v350 ev350 => ?_)
                  have bv350 : v350.toInt = v340.toInt - 0 := by rw [ev350]; exact sub_k rfl rfl k341 ⟨Int.le_refl _, Int.le_refl _⟩ (by decide)
                  have k351 : 8 ≤ v350.toInt ∧ v350.toInt ≤ 248 := sub_r bv350 k341 ⟨Int.le_refl _, Int.le_refl _⟩ (by decide)
                  refine call_Si (wr := [(h_paceAt, .inl (cI, 40, .inl w12)), (h_kindOf, .inl (cI, 4, .inl g331)), (h0, .inr (10, vL 67 F336)), (h_s, .inl (cI, 335, .inl f_s))]) (As := [.int v350]) (rest := []) hx hb hml hown hw (m_X10_bounded l D cI cJ cB cP cM cZ v350 _ ) wS_X10_311_X10_bounded dX10_starts_193 hP hD hS hA [] [0, 1, 2, 3] rfl rfl (by decide) (by decide) (by decide) GG.fb hG.at hl.1 rfl (Nat.le_of_ble_eq_true rfl) ⟨(Nat.le_of_ble_eq_true rfl), (Nat.le_of_ble_eq_true rfl)⟩ ⟨(Nat.le_of_ble_eq_true rfl), (Nat.le_of_ble_eq_true rfl)⟩ (fun r352 u H locs hp hP hD hS => ?_)
                  obtain ⟨t353, t354, rfl⟩ := hp
                  have hP : va_P D vwCl [(h_paceAt, .inl (cI, 40, .inl w12)), (h_kindOf, .inl (cI, 4, .inl g331)), (h0, .inr (10, vL 67 F336)), (h_s, .inl (cI, 335, .inl f_s))] H := hP
                  have hD : va_D A [(h_paceAt, .inl (cI, 40, .inl w12)), (h_kindOf, .inl (cI, 4, .inl g331)), (h0, .inr (10, vL 67 F336)), (h_s, .inl (cI, 335, .inl f_s))] := hD
                  refine W.widen (k := 0) (n := 0) (Nat.le_of_ble_eq_true rfl) (Nat.le_of_ble_eq_true rfl) ?_
                  refine lv_istore_n (lv' := [(1, .int r352), (4, .int 1), (5, .int u45), (3, .int u4), (2, .int u5), (0, .ref h0)]) hx hb dX10_starts_196 rfl hl (by decide) rfl (fun ls hl => ?_)
                  obtain ⟨v356, ev356⟩ : ∃ z : Int32, z = u45 + 1 := ⟨_, rfl⟩
                  have bv356 : v356.toInt = u45.toInt + 1 := by rw [ev356]; exact add_k rfl rfl k80 ⟨Int.le_refl _, Int.le_refl _⟩ (by decide)
                  have k357 : 1 ≤ v356.toInt ∧ v356.toInt ≤ 4 := add_r bv356 k80 ⟨Int.le_refl _, Int.le_refl _⟩ (by decide)
                  refine lv_iinc (v := v356) (lv' := [(5, .int v356), (1, .int r352), (4, .int 1), (3, .int u4), (2, .int u5), (0, .ref h0)]) hx hb dX10_starts_197 hl (k := 2) rfl (by rw [ev356]; rfl) (by decide) rfl (fun ls hl => ?_)
                  refine lv_goto (tgt := 57) hx hb dX10_starts_200 (by decide) ?_
                  have n358 : F336 30 = .int u51 := (get_ne eF336 (by decide) i58)
                  have n359 : F336 31 = .int u52 := (get_ne eF336 (by decide) i59)
                  exact ih_57 (v356, 1, r352, g331, F336, v334, u51, u52) ⟨(ir_wk k357 (by decide) (by decide)), (show 0 ≤ (1 : Int32).toInt ∧ (1 : Int32).toInt ≤ 1 by decide), t353, (SAME.up eF336 (SAME.tr SAME.rf i56 (by decide)) (by decide)), (get_eq eF336), n358, n359, k335, i61⟩ (by show (4 - v356.toInt).toNat < (4 - u45.toInt).toNat; omega) _ _ _ hP hD hS (lv_sub hl [0, 2, 1, 3, 4, 5] rfl)
                · have dc348 : x_kicks.toInt ≠ 0 := ne_i (a := x_kicks.toInt) (b := 0) rfl rfl c348
                  have k360 : 1 ≤ x_kicks.toInt ∧ x_kicks.toInt ≤ 1 := ⟨ne_lo dc348 i_x_kicks.1 ⟨Int.le_refl _, Int.le_refl _⟩ (by decide), i_x_kicks.2⟩
                  refine lv_aload_n hx hb dX10_starts_177 rfl (lv_at hl 5 rfl) ?_
                  refine lv_bipush (v := 8) hx hb dX10_starts_178 (by decide) ?_
                  have n361 : F336 31 = .int u52 := (get_ne eF336 (by decide) i59)
                  refine call_Vi (wr := [(h_paceAt, .inl (cI, 40, .inl w12)), (h_kindOf, .inl (cI, 4, .inl g331)), (h_s, .inl (cI, 335, .inl f_s))]) (As := [.int 8]) (rest := [.int v340]) hx hb hml hown hw (m_X10_draw l D cI cJ cB cP cM cZ h0 F336 u52 8 _ n361 (show 8 ≤ (8 : Int32).toInt ∧ (8 : Int32).toInt ≤ 8 by decide)) wV_X10_334_X10_draw dX10_starts_180 hK hP hD hS hA [2] [0, 1, 3] rfl rfl (by decide) (by decide) (by decide) 0 10 rfl rfl GG.fb hG.at hl.1 rfl (Nat.le_of_ble_eq_true rfl) ⟨(Nat.le_of_ble_eq_true rfl), (Nat.le_of_ble_eq_true rfl)⟩ ⟨(Nat.le_of_ble_eq_true rfl), (Nat.le_of_ble_eq_true rfl)⟩ (fun r362 u H locs hp hP hD hS => ?_)
                  have zl8 : (8 : Int32).toInt = 8 := by decide
                  obtain ⟨F363, y364, t365, t366, rfl⟩ := hp
                  have hP : va_P D vwCl [(h_paceAt, .inl (cI, 40, .inl w12)), (h_kindOf, .inl (cI, 4, .inl g331)), (h_s, .inl (cI, 335, .inl f_s)), (h0, .inr (10, vL 67 F363))] H := hP
                  have hD : va_D A [(h_paceAt, .inl (cI, 40, .inl w12)), (h_kindOf, .inl (cI, 4, .inl g331)), (h_s, .inl (cI, 335, .inl f_s)), (h0, .inr (10, vL 67 F363))] := hD
                  refine W.widen (k := 0) (n := 0) (Nat.le_of_ble_eq_true rfl) (Nat.le_of_ble_eq_true rfl) ?_
                  refine lv_if_ne (tgt := 191) hx hb dX10_starts_183 (by decide) (fun c368 => ?_) (fun c368 => ?_)
                  · have dc368 : r362.toInt ≠ 0 := ne_i (a := r362.toInt) (b := 0) rfl rfl c368
                    refine lv_iconst (v := 0) hx hb dX10_starts_191 (by decide) ?_
                    refine lv_isub hx hb dX10_starts_192 ?_
                    refine lv_topi (fun v369 ev369 => ?_)
                    have bv369 : v369.toInt = v340.toInt - 0 := by rw [ev369]; exact sub_k rfl rfl k341 ⟨Int.le_refl _, Int.le_refl _⟩ (by decide)
                    have k370 : 8 ≤ v369.toInt ∧ v369.toInt ≤ 248 := sub_r bv369 k341 ⟨Int.le_refl _, Int.le_refl _⟩ (by decide)
                    refine call_Si (wr := [(h_paceAt, .inl (cI, 40, .inl w12)), (h_kindOf, .inl (cI, 4, .inl g331)), (h_s, .inl (cI, 335, .inl f_s)), (h0, .inr (10, vL 67 F363))]) (As := [.int v369]) (rest := []) hx hb hml hown hw (m_X10_bounded l D cI cJ cB cP cM cZ v369 _ ) wS_X10_311_X10_bounded dX10_starts_193 hP hD hS hA [] [0, 1, 2, 3] rfl rfl (by decide) (by decide) (by decide) GG.fb hG.at hl.1 rfl (Nat.le_of_ble_eq_true rfl) ⟨(Nat.le_of_ble_eq_true rfl), (Nat.le_of_ble_eq_true rfl)⟩ ⟨(Nat.le_of_ble_eq_true rfl), (Nat.le_of_ble_eq_true rfl)⟩ (fun r371 u H locs hp hP hD hS => ?_)
                    obtain ⟨t372, t373, rfl⟩ := hp
                    have hP : va_P D vwCl [(h_paceAt, .inl (cI, 40, .inl w12)), (h_kindOf, .inl (cI, 4, .inl g331)), (h_s, .inl (cI, 335, .inl f_s)), (h0, .inr (10, vL 67 F363))] H := hP
                    have hD : va_D A [(h_paceAt, .inl (cI, 40, .inl w12)), (h_kindOf, .inl (cI, 4, .inl g331)), (h_s, .inl (cI, 335, .inl f_s)), (h0, .inr (10, vL 67 F363))] := hD
                    refine W.widen (k := 0) (n := 0) (Nat.le_of_ble_eq_true rfl) (Nat.le_of_ble_eq_true rfl) ?_
                    refine lv_istore_n (lv' := [(1, .int r371), (4, .int 1), (5, .int u45), (3, .int u4), (2, .int u5), (0, .ref h0)]) hx hb dX10_starts_196 rfl hl (by decide) rfl (fun ls hl => ?_)
                    obtain ⟨v375, ev375⟩ : ∃ z : Int32, z = u45 + 1 := ⟨_, rfl⟩
                    have bv375 : v375.toInt = u45.toInt + 1 := by rw [ev375]; exact add_k rfl rfl k80 ⟨Int.le_refl _, Int.le_refl _⟩ (by decide)
                    have k376 : 1 ≤ v375.toInt ∧ v375.toInt ≤ 4 := add_r bv375 k80 ⟨Int.le_refl _, Int.le_refl _⟩ (by decide)
                    refine lv_iinc (v := v375) (lv' := [(5, .int v375), (1, .int r371), (4, .int 1), (3, .int u4), (2, .int u5), (0, .ref h0)]) hx hb dX10_starts_197 hl (k := 2) rfl (by rw [ev375]; rfl) (by decide) rfl (fun ls hl => ?_)
                    refine lv_goto (tgt := 57) hx hb dX10_starts_200 (by decide) ?_
                    have n377 : F363 29 = .int v334 := (SAME.at t365 (by decide) (get_eq eF336))
                    have n378 : F336 30 = .int u51 := (get_ne eF336 (by decide) i58)
                    have n379 : F363 30 = .int u51 := (SAME.at t365 (by decide) n378)
                    exact ih_57 (v375, 1, r371, g331, F363, v334, u51, y364) ⟨(ir_wk k376 (by decide) (by decide)), (show 0 ≤ (1 : Int32).toInt ∧ (1 : Int32).toInt ≤ 1 by decide), t372, (SAME.tr (SAME.up eF336 (SAME.tr SAME.rf i56 (by decide)) (by decide)) t365 (by decide)), n377, n379, t366, k335, i61⟩ (by show (4 - v375.toInt).toNat < (4 - u45.toInt).toNat; omega) _ _ _ (hP.sub [0, 1, 3, 2] rfl) (hD.sub [0, 1, 3, 2] (by decide) rfl) hS (lv_sub hl [0, 2, 1, 3, 4, 5] rfl)
                  · have dc368 : r362.toInt = 0 := eq_i (a := r362.toInt) (b := 0) rfl rfl c368
                    have k380 : 0 ≤ r362.toInt ∧ r362.toInt ≤ 0 := ⟨Int.le_trans (Int.le_refl _) (Int.le_of_eq dc368.symm), Int.le_trans (Int.le_of_eq dc368) (Int.le_refl _)⟩
                    refine lv_bipush (v := 10) hx hb dX10_starts_186 (by decide) ?_
                    refine lv_goto (tgt := 192) hx hb dX10_starts_188 (by decide) ?_
                    refine lv_isub hx hb dX10_starts_192 ?_
                    refine lv_topi (fun v381 ev381 => ?_)
                    have bv381 : v381.toInt = v340.toInt - 10 := by rw [ev381]; exact sub_k rfl rfl k341 ⟨Int.le_refl _, Int.le_refl _⟩ (by decide)
                    have k382 : (-2) ≤ v381.toInt ∧ v381.toInt ≤ 238 := sub_r bv381 k341 ⟨Int.le_refl _, Int.le_refl _⟩ (by decide)
                    refine call_Si (wr := [(h_paceAt, .inl (cI, 40, .inl w12)), (h_kindOf, .inl (cI, 4, .inl g331)), (h_s, .inl (cI, 335, .inl f_s)), (h0, .inr (10, vL 67 F363))]) (As := [.int v381]) (rest := []) hx hb hml hown hw (m_X10_bounded l D cI cJ cB cP cM cZ v381 _ ) wS_X10_311_X10_bounded dX10_starts_193 hP hD hS hA [] [0, 1, 2, 3] rfl rfl (by decide) (by decide) (by decide) GG.fb hG.at hl.1 rfl (Nat.le_of_ble_eq_true rfl) ⟨(Nat.le_of_ble_eq_true rfl), (Nat.le_of_ble_eq_true rfl)⟩ ⟨(Nat.le_of_ble_eq_true rfl), (Nat.le_of_ble_eq_true rfl)⟩ (fun r383 u H locs hp hP hD hS => ?_)
                    obtain ⟨t384, t385, rfl⟩ := hp
                    have hP : va_P D vwCl [(h_paceAt, .inl (cI, 40, .inl w12)), (h_kindOf, .inl (cI, 4, .inl g331)), (h_s, .inl (cI, 335, .inl f_s)), (h0, .inr (10, vL 67 F363))] H := hP
                    have hD : va_D A [(h_paceAt, .inl (cI, 40, .inl w12)), (h_kindOf, .inl (cI, 4, .inl g331)), (h_s, .inl (cI, 335, .inl f_s)), (h0, .inr (10, vL 67 F363))] := hD
                    refine W.widen (k := 0) (n := 0) (Nat.le_of_ble_eq_true rfl) (Nat.le_of_ble_eq_true rfl) ?_
                    refine lv_istore_n (lv' := [(1, .int r383), (4, .int 1), (5, .int u45), (3, .int u4), (2, .int u5), (0, .ref h0)]) hx hb dX10_starts_196 rfl hl (by decide) rfl (fun ls hl => ?_)
                    obtain ⟨v387, ev387⟩ : ∃ z : Int32, z = u45 + 1 := ⟨_, rfl⟩
                    have bv387 : v387.toInt = u45.toInt + 1 := by rw [ev387]; exact add_k rfl rfl k80 ⟨Int.le_refl _, Int.le_refl _⟩ (by decide)
                    have k388 : 1 ≤ v387.toInt ∧ v387.toInt ≤ 4 := add_r bv387 k80 ⟨Int.le_refl _, Int.le_refl _⟩ (by decide)
                    refine lv_iinc (v := v387) (lv' := [(5, .int v387), (1, .int r383), (4, .int 1), (3, .int u4), (2, .int u5), (0, .ref h0)]) hx hb dX10_starts_197 hl (k := 2) rfl (by rw [ev387]; rfl) (by decide) rfl (fun ls hl => ?_)
                    refine lv_goto (tgt := 57) hx hb dX10_starts_200 (by decide) ?_
                    have n389 : F363 29 = .int v334 := (SAME.at t365 (by decide) (get_eq eF336))
                    have n390 : F336 30 = .int u51 := (get_ne eF336 (by decide) i58)
                    have n391 : F363 30 = .int u51 := (SAME.at t365 (by decide) n390)
                    exact ih_57 (v387, 1, r383, g331, F363, v334, u51, y364) ⟨(ir_wk k388 (by decide) (by decide)), (show 0 ≤ (1 : Int32).toInt ∧ (1 : Int32).toInt ≤ 1 by decide), t384, (SAME.tr (SAME.up eF336 (SAME.tr SAME.rf i56 (by decide)) (by decide)) t365 (by decide)), n389, n391, t366, k335, i61⟩ (by show (4 - v387.toInt).toNat < (4 - u45.toInt).toNat; omega) _ _ _ (hP.sub [0, 1, 3, 2] rfl) (hD.sub [0, 1, 3, 2] (by decide) rfl) hS (lv_sub hl [0, 2, 1, 3, 4, 5] rfl)
              · have dc339 : v338.toInt = 1 := eq_i (a := v338.toInt) (b := 1) rfl rfl c339
                have k392 : 1 ≤ v338.toInt ∧ v338.toInt ≤ 1 := ⟨Int.le_trans (Int.le_refl _) (Int.le_of_eq dc339.symm), Int.le_trans (Int.le_of_eq dc339) (Int.le_refl _)⟩
                refine lv_bipush (v := 6) hx hb dX10_starts_163 (by decide) ?_
                refine lv_goto (tgt := 169) hx hb dX10_starts_165 (by decide) ?_
                refine lv_isub hx hb dX10_starts_169 ?_
                refine lv_topi (fun v393 ev393 => ?_)
                have bv393 : v393.toInt = u47.toInt - 6 := by rw [ev393]; exact sub_k rfl rfl i55 ⟨Int.le_refl _, Int.le_refl _⟩ (by decide)
                have k394 : 4 ≤ v393.toInt ∧ v393.toInt ≤ 244 := sub_r bv393 i55 ⟨Int.le_refl _, Int.le_refl _⟩ (by decide)
                refine lv_aload_n hx hb dX10_starts_170 rfl (lv_at hl 5 rfl) ?_
                have n395 : F1 32 = .int x_kicks := (get_ne eF1 (by decide) e_kicks)
                have n396 : F2 32 = .int x_kicks := (get_ne eF2 (by decide) n395)
                have n397 : F3 32 = .int x_kicks := (get_ne eF3 (by decide) n396)
                have n398 : G7 32 = .int x_kicks := (SAME.at i23 (by decide) n397)
                have n399 : G49 32 = .int x_kicks := (SAME.at i56 (by decide) n398)
                have n400 : F336 32 = .int x_kicks := (get_ne eF336 (by decide) n399)
                refine get_f (D := D) (ci := 10) (v := .int x_kicks) (C := RX10) (T := TX10) (N := 67) hx hb hw inAX10 hown hK hP 2 rfl rfl 32 (by decide) (hw _ q_1293) (fun _ h9 => h9) n400 dX10_starts_171 ?_
                refine lv_if_eq (tgt := 191) hx hb dX10_starts_174 (by decide) (fun c401 => ?_) (fun c401 => ?_)
                · have dc401 : x_kicks.toInt = 0 := eq_i (a := x_kicks.toInt) (b := 0) rfl rfl c401
                  have k402 : 0 ≤ x_kicks.toInt ∧ x_kicks.toInt ≤ 0 := ⟨i_x_kicks.1, Int.le_trans (Int.le_of_eq dc401) (Int.le_refl _)⟩
                  refine lv_iconst (v := 0) hx hb dX10_starts_191 (by decide) ?_
                  refine lv_isub hx hb dX10_starts_192 ?_
                  refine lv_topi (fun v403 ev403 => ?_)
                  have bv403 : v403.toInt = v393.toInt - 0 := by rw [ev403]; exact sub_k rfl rfl k394 ⟨Int.le_refl _, Int.le_refl _⟩ (by decide)
                  have k404 : 4 ≤ v403.toInt ∧ v403.toInt ≤ 244 := sub_r bv403 k394 ⟨Int.le_refl _, Int.le_refl _⟩ (by decide)
                  refine call_Si (wr := [(h_paceAt, .inl (cI, 40, .inl w12)), (h_kindOf, .inl (cI, 4, .inl g331)), (h0, .inr (10, vL 67 F336)), (h_s, .inl (cI, 335, .inl f_s))]) (As := [.int v403]) (rest := []) hx hb hml hown hw (m_X10_bounded l D cI cJ cB cP cM cZ v403 _ ) wS_X10_311_X10_bounded dX10_starts_193 hP hD hS hA [] [0, 1, 2, 3] rfl rfl (by decide) (by decide) (by decide) GG.fb hG.at hl.1 rfl (Nat.le_of_ble_eq_true rfl) ⟨(Nat.le_of_ble_eq_true rfl), (Nat.le_of_ble_eq_true rfl)⟩ ⟨(Nat.le_of_ble_eq_true rfl), (Nat.le_of_ble_eq_true rfl)⟩ (fun r405 u H locs hp hP hD hS => ?_)
                  obtain ⟨t406, t407, rfl⟩ := hp
                  have hP : va_P D vwCl [(h_paceAt, .inl (cI, 40, .inl w12)), (h_kindOf, .inl (cI, 4, .inl g331)), (h0, .inr (10, vL 67 F336)), (h_s, .inl (cI, 335, .inl f_s))] H := hP
                  have hD : va_D A [(h_paceAt, .inl (cI, 40, .inl w12)), (h_kindOf, .inl (cI, 4, .inl g331)), (h0, .inr (10, vL 67 F336)), (h_s, .inl (cI, 335, .inl f_s))] := hD
                  refine W.widen (k := 0) (n := 0) (Nat.le_of_ble_eq_true rfl) (Nat.le_of_ble_eq_true rfl) ?_
                  refine lv_istore_n (lv' := [(1, .int r405), (4, .int 1), (5, .int u45), (3, .int u4), (2, .int u5), (0, .ref h0)]) hx hb dX10_starts_196 rfl hl (by decide) rfl (fun ls hl => ?_)
                  obtain ⟨v409, ev409⟩ : ∃ z : Int32, z = u45 + 1 := ⟨_, rfl⟩
                  have bv409 : v409.toInt = u45.toInt + 1 := by rw [ev409]; exact add_k rfl rfl k80 ⟨Int.le_refl _, Int.le_refl _⟩ (by decide)
                  have k410 : 1 ≤ v409.toInt ∧ v409.toInt ≤ 4 := add_r bv409 k80 ⟨Int.le_refl _, Int.le_refl _⟩ (by decide)
                  refine lv_iinc (v := v409) (lv' := [(5, .int v409), (1, .int r405), (4, .int 1), (3, .int u4), (2, .int u5), (0, .ref h0)]) hx hb dX10_starts_197 hl (k := 2) rfl (by rw [ev409]; rfl) (by decide) rfl (fun ls hl => ?_)
                  refine lv_goto (tgt := 57) hx hb dX10_starts_200 (by decide) ?_
                  have n411 : F336 30 = .int u51 := (get_ne eF336 (by decide) i58)
                  have n412 : F336 31 = .int u52 := (get_ne eF336 (by decide) i59)
                  exact ih_57 (v409, 1, r405, g331, F336, v334, u51, u52) ⟨(ir_wk k410 (by decide) (by decide)), (show 0 ≤ (1 : Int32).toInt ∧ (1 : Int32).toInt ≤ 1 by decide), t406, (SAME.up eF336 (SAME.tr SAME.rf i56 (by decide)) (by decide)), (get_eq eF336), n411, n412, k335, i61⟩ (by show (4 - v409.toInt).toNat < (4 - u45.toInt).toNat; omega) _ _ _ hP hD hS (lv_sub hl [0, 2, 1, 3, 4, 5] rfl)
                · have dc401 : x_kicks.toInt ≠ 0 := ne_i (a := x_kicks.toInt) (b := 0) rfl rfl c401
                  have k413 : 1 ≤ x_kicks.toInt ∧ x_kicks.toInt ≤ 1 := ⟨ne_lo dc401 i_x_kicks.1 ⟨Int.le_refl _, Int.le_refl _⟩ (by decide), i_x_kicks.2⟩
                  refine lv_aload_n hx hb dX10_starts_177 rfl (lv_at hl 5 rfl) ?_
                  refine lv_bipush (v := 8) hx hb dX10_starts_178 (by decide) ?_
                  have n414 : F336 31 = .int u52 := (get_ne eF336 (by decide) i59)
                  refine call_Vi (wr := [(h_paceAt, .inl (cI, 40, .inl w12)), (h_kindOf, .inl (cI, 4, .inl g331)), (h_s, .inl (cI, 335, .inl f_s))]) (As := [.int 8]) (rest := [.int v393]) hx hb hml hown hw (m_X10_draw l D cI cJ cB cP cM cZ h0 F336 u52 8 _ n414 (show 8 ≤ (8 : Int32).toInt ∧ (8 : Int32).toInt ≤ 8 by decide)) wV_X10_334_X10_draw dX10_starts_180 hK hP hD hS hA [2] [0, 1, 3] rfl rfl (by decide) (by decide) (by decide) 0 10 rfl rfl GG.fb hG.at hl.1 rfl (Nat.le_of_ble_eq_true rfl) ⟨(Nat.le_of_ble_eq_true rfl), (Nat.le_of_ble_eq_true rfl)⟩ ⟨(Nat.le_of_ble_eq_true rfl), (Nat.le_of_ble_eq_true rfl)⟩ (fun r415 u H locs hp hP hD hS => ?_)
                  have zl8 : (8 : Int32).toInt = 8 := by decide
                  obtain ⟨F416, y417, t418, t419, rfl⟩ := hp
                  have hP : va_P D vwCl [(h_paceAt, .inl (cI, 40, .inl w12)), (h_kindOf, .inl (cI, 4, .inl g331)), (h_s, .inl (cI, 335, .inl f_s)), (h0, .inr (10, vL 67 F416))] H := hP
                  have hD : va_D A [(h_paceAt, .inl (cI, 40, .inl w12)), (h_kindOf, .inl (cI, 4, .inl g331)), (h_s, .inl (cI, 335, .inl f_s)), (h0, .inr (10, vL 67 F416))] := hD
                  refine W.widen (k := 0) (n := 0) (Nat.le_of_ble_eq_true rfl) (Nat.le_of_ble_eq_true rfl) ?_
                  refine lv_if_ne (tgt := 191) hx hb dX10_starts_183 (by decide) (fun c421 => ?_) (fun c421 => ?_)
                  · have dc421 : r415.toInt ≠ 0 := ne_i (a := r415.toInt) (b := 0) rfl rfl c421
                    refine lv_iconst (v := 0) hx hb dX10_starts_191 (by decide) ?_
                    refine lv_isub hx hb dX10_starts_192 ?_
                    refine lv_topi (fun v422 ev422 => ?_)
                    have bv422 : v422.toInt = v393.toInt - 0 := by rw [ev422]; exact sub_k rfl rfl k394 ⟨Int.le_refl _, Int.le_refl _⟩ (by decide)
                    have k423 : 4 ≤ v422.toInt ∧ v422.toInt ≤ 244 := sub_r bv422 k394 ⟨Int.le_refl _, Int.le_refl _⟩ (by decide)
                    refine call_Si (wr := [(h_paceAt, .inl (cI, 40, .inl w12)), (h_kindOf, .inl (cI, 4, .inl g331)), (h_s, .inl (cI, 335, .inl f_s)), (h0, .inr (10, vL 67 F416))]) (As := [.int v422]) (rest := []) hx hb hml hown hw (m_X10_bounded l D cI cJ cB cP cM cZ v422 _ ) wS_X10_311_X10_bounded dX10_starts_193 hP hD hS hA [] [0, 1, 2, 3] rfl rfl (by decide) (by decide) (by decide) GG.fb hG.at hl.1 rfl (Nat.le_of_ble_eq_true rfl) ⟨(Nat.le_of_ble_eq_true rfl), (Nat.le_of_ble_eq_true rfl)⟩ ⟨(Nat.le_of_ble_eq_true rfl), (Nat.le_of_ble_eq_true rfl)⟩ (fun r424 u H locs hp hP hD hS => ?_)
                    obtain ⟨t425, t426, rfl⟩ := hp
                    have hP : va_P D vwCl [(h_paceAt, .inl (cI, 40, .inl w12)), (h_kindOf, .inl (cI, 4, .inl g331)), (h_s, .inl (cI, 335, .inl f_s)), (h0, .inr (10, vL 67 F416))] H := hP
                    have hD : va_D A [(h_paceAt, .inl (cI, 40, .inl w12)), (h_kindOf, .inl (cI, 4, .inl g331)), (h_s, .inl (cI, 335, .inl f_s)), (h0, .inr (10, vL 67 F416))] := hD
                    refine W.widen (k := 0) (n := 0) (Nat.le_of_ble_eq_true rfl) (Nat.le_of_ble_eq_true rfl) ?_
                    refine lv_istore_n (lv' := [(1, .int r424), (4, .int 1), (5, .int u45), (3, .int u4), (2, .int u5), (0, .ref h0)]) hx hb dX10_starts_196 rfl hl (by decide) rfl (fun ls hl => ?_)
                    obtain ⟨v428, ev428⟩ : ∃ z : Int32, z = u45 + 1 := ⟨_, rfl⟩
                    have bv428 : v428.toInt = u45.toInt + 1 := by rw [ev428]; exact add_k rfl rfl k80 ⟨Int.le_refl _, Int.le_refl _⟩ (by decide)
                    have k429 : 1 ≤ v428.toInt ∧ v428.toInt ≤ 4 := add_r bv428 k80 ⟨Int.le_refl _, Int.le_refl _⟩ (by decide)
                    refine lv_iinc (v := v428) (lv' := [(5, .int v428), (1, .int r424), (4, .int 1), (3, .int u4), (2, .int u5), (0, .ref h0)]) hx hb dX10_starts_197 hl (k := 2) rfl (by rw [ev428]; rfl) (by decide) rfl (fun ls hl => ?_)
                    refine lv_goto (tgt := 57) hx hb dX10_starts_200 (by decide) ?_
                    have n430 : F416 29 = .int v334 := (SAME.at t418 (by decide) (get_eq eF336))
                    have n431 : F336 30 = .int u51 := (get_ne eF336 (by decide) i58)
                    have n432 : F416 30 = .int u51 := (SAME.at t418 (by decide) n431)
                    exact ih_57 (v428, 1, r424, g331, F416, v334, u51, y417) ⟨(ir_wk k429 (by decide) (by decide)), (show 0 ≤ (1 : Int32).toInt ∧ (1 : Int32).toInt ≤ 1 by decide), t425, (SAME.tr (SAME.up eF336 (SAME.tr SAME.rf i56 (by decide)) (by decide)) t418 (by decide)), n430, n432, t419, k335, i61⟩ (by show (4 - v428.toInt).toNat < (4 - u45.toInt).toNat; omega) _ _ _ (hP.sub [0, 1, 3, 2] rfl) (hD.sub [0, 1, 3, 2] (by decide) rfl) hS (lv_sub hl [0, 2, 1, 3, 4, 5] rfl)
                  · have dc421 : r415.toInt = 0 := eq_i (a := r415.toInt) (b := 0) rfl rfl c421
                    have k433 : 0 ≤ r415.toInt ∧ r415.toInt ≤ 0 := ⟨Int.le_trans (Int.le_refl _) (Int.le_of_eq dc421.symm), Int.le_trans (Int.le_of_eq dc421) (Int.le_refl _)⟩
                    refine lv_bipush (v := 10) hx hb dX10_starts_186 (by decide) ?_
                    refine lv_goto (tgt := 192) hx hb dX10_starts_188 (by decide) ?_
                    refine lv_isub hx hb dX10_starts_192 ?_
                    refine lv_topi (fun v434 ev434 => ?_)
                    have bv434 : v434.toInt = v393.toInt - 10 := by rw [ev434]; exact sub_k rfl rfl k394 ⟨Int.le_refl _, Int.le_refl _⟩ (by decide)
                    have k435 : (-6) ≤ v434.toInt ∧ v434.toInt ≤ 234 := sub_r bv434 k394 ⟨Int.le_refl _, Int.le_refl _⟩ (by decide)
                    refine call_Si (wr := [(h_paceAt, .inl (cI, 40, .inl w12)), (h_kindOf, .inl (cI, 4, .inl g331)), (h_s, .inl (cI, 335, .inl f_s)), (h0, .inr (10, vL 67 F416))]) (As := [.int v434]) (rest := []) hx hb hml hown hw (m_X10_bounded l D cI cJ cB cP cM cZ v434 _ ) wS_X10_311_X10_bounded dX10_starts_193 hP hD hS hA [] [0, 1, 2, 3] rfl rfl (by decide) (by decide) (by decide) GG.fb hG.at hl.1 rfl (Nat.le_of_ble_eq_true rfl) ⟨(Nat.le_of_ble_eq_true rfl), (Nat.le_of_ble_eq_true rfl)⟩ ⟨(Nat.le_of_ble_eq_true rfl), (Nat.le_of_ble_eq_true rfl)⟩ (fun r436 u H locs hp hP hD hS => ?_)
                    obtain ⟨t437, t438, rfl⟩ := hp
                    have hP : va_P D vwCl [(h_paceAt, .inl (cI, 40, .inl w12)), (h_kindOf, .inl (cI, 4, .inl g331)), (h_s, .inl (cI, 335, .inl f_s)), (h0, .inr (10, vL 67 F416))] H := hP
                    have hD : va_D A [(h_paceAt, .inl (cI, 40, .inl w12)), (h_kindOf, .inl (cI, 4, .inl g331)), (h_s, .inl (cI, 335, .inl f_s)), (h0, .inr (10, vL 67 F416))] := hD
                    refine W.widen (k := 0) (n := 0) (Nat.le_of_ble_eq_true rfl) (Nat.le_of_ble_eq_true rfl) ?_
                    refine lv_istore_n (lv' := [(1, .int r436), (4, .int 1), (5, .int u45), (3, .int u4), (2, .int u5), (0, .ref h0)]) hx hb dX10_starts_196 rfl hl (by decide) rfl (fun ls hl => ?_)
                    obtain ⟨v440, ev440⟩ : ∃ z : Int32, z = u45 + 1 := ⟨_, rfl⟩
                    have bv440 : v440.toInt = u45.toInt + 1 := by rw [ev440]; exact add_k rfl rfl k80 ⟨Int.le_refl _, Int.le_refl _⟩ (by decide)
                    have k441 : 1 ≤ v440.toInt ∧ v440.toInt ≤ 4 := add_r bv440 k80 ⟨Int.le_refl _, Int.le_refl _⟩ (by decide)
                    refine lv_iinc (v := v440) (lv' := [(5, .int v440), (1, .int r436), (4, .int 1), (3, .int u4), (2, .int u5), (0, .ref h0)]) hx hb dX10_starts_197 hl (k := 2) rfl (by rw [ev440]; rfl) (by decide) rfl (fun ls hl => ?_)
                    refine lv_goto (tgt := 57) hx hb dX10_starts_200 (by decide) ?_
                    have n442 : F416 29 = .int v334 := (SAME.at t418 (by decide) (get_eq eF336))
                    have n443 : F336 30 = .int u51 := (get_ne eF336 (by decide) i58)
                    have n444 : F416 30 = .int u51 := (SAME.at t418 (by decide) n443)
                    exact ih_57 (v440, 1, r436, g331, F416, v334, u51, y417) ⟨(ir_wk k441 (by decide) (by decide)), (show 0 ≤ (1 : Int32).toInt ∧ (1 : Int32).toInt ≤ 1 by decide), t437, (SAME.tr (SAME.up eF336 (SAME.tr SAME.rf i56 (by decide)) (by decide)) t418 (by decide)), n442, n444, t419, k335, i61⟩ (by show (4 - v440.toInt).toNat < (4 - u45.toInt).toNat; omega) _ _ _ (hP.sub [0, 1, 3, 2] rfl) (hD.sub [0, 1, 3, 2] (by decide) rfl) hS (lv_sub hl [0, 2, 1, 3, 4, 5] rfl)
        · have dc90 : r87.toInt ≠ 0 := ne_i (a := r87.toInt) (b := 0) rfl rfl c90
          have k445 : 1 ≤ r87.toInt ∧ r87.toInt ≤ 1 := ⟨ne_lo dc90 t88.1 ⟨Int.le_refl _, Int.le_refl _⟩ (by decide), t88.2⟩
          refine lv_aload_n hx hb dX10_starts_90 rfl (lv_at hl 5 rfl) ?_
          refine lv_dup hx hb dX10_starts_91 rfl ?_
          refine get_f (D := D) (ci := 10) (v := .int u51) (C := RX10) (T := TX10) (N := 67) hx hb hw inAX10 hown hK hP 2 rfl rfl 30 (by decide) (hw _ q_1291) (fun _ h9 => h9) i58 dX10_starts_92 ?_
          refine lv_iconst (v := 1) hx hb dX10_starts_95 (by decide) ?_
          refine lv_iload hx hb dX10_starts_96 (lv_at hl 0 rfl) ?_
          refine lv_ishl hx hb dX10_starts_98 ?_
          refine lv_topi (fun v446 ev446 => ?_)
          have k447 : 1 ≤ v446.toInt ∧ v446.toInt ≤ 8 := by rw [ev446]; exact shl1_i (Int.le_trans (by decide) k80.1) (Int.le_trans k80.2 (by decide))
          refine lv_ior hx hb dX10_starts_99 ?_
          refine lv_topi (fun v448 ev448 => ?_)
          have k449 : 0 ≤ v448.toInt ∧ v448.toInt ≤ 15 := by rw [ev448]; exact or_ik (ir_wk i61 (by decide) (by decide)) (ir_wk k447 (by decide) (by decide))
          refine put_f (D := D) (ci := 10) (v := .int v448) (ty := .int) (C := RX10) (T := TX10) (N := 67) hx hb hw inAX10 tyX10 tyX10_ok nmX10 hown hK hP hD hS 2 rfl rfl 30 (by decide) (hw _ q_1291) (fun _ h9 => h9) rfl (by decide +kernel) rfl rfl dX10_starts_100 (fun H locs F450 eF450 hP hD hS => ?_)
          have hP : va_P D vwCl [(h_paceAt, .inl (cI, 40, .inl w12)), (h_kindOf, .inl (cI, 4, .inl w48)), (h0, .inr (10, vL 67 F450)), (h_s, .inl (cI, 335, .inl f_s))] H := hP
          have hD : va_D A [(h_paceAt, .inl (cI, 40, .inl w12)), (h_kindOf, .inl (cI, 4, .inl w48)), (h0, .inr (10, vL 67 F450)), (h_s, .inl (cI, 335, .inl f_s))] := hD
          refine lv_aload_n hx hb dX10_starts_103 rfl (lv_at hl 5 rfl) ?_
          have n451 : F1 26 = .ref h_kindOf := (get_ne eF1 (by decide) e_kindOf)
          have n452 : F2 26 = .ref h_kindOf := (get_ne eF2 (by decide) n451)
          have n453 : F3 26 = .ref h_kindOf := (get_ne eF3 (by decide) n452)
          have n454 : G7 26 = .ref h_kindOf := (SAME.at i23 (by decide) n453)
          have n455 : G49 26 = .ref h_kindOf := (SAME.at i56 (by decide) n454)
          have n456 : F450 26 = .ref h_kindOf := (get_ne eF450 (by decide) n455)
          refine get_f (D := D) (ci := 10) (v := .ref h_kindOf) (C := RX10) (T := TX10) (N := 67) hx hb hw inAX10 hown hK hP 2 rfl rfl 26 (by decide) (hw _ q_1287) (fun _ h9 => h9) n456 dX10_starts_104 ?_
          refine lv_iload hx hb dX10_starts_107 (lv_at hl 0 rfl) ?_
          refine lv_iconst (v := 2) hx hb dX10_starts_109 (by decide) ?_
          obtain ⟨g457, eg457⟩ : ∃ z : Nat → Int32, upd w48 u45.toNatClampNeg 2 = z := ⟨_, rfl⟩
          refine iast_g hx hb hK hP hD hS 1 0 rfl rfl (ix_k k80 (by decide) (by decide)) eg457 dX10_starts_110 (fun H locs hP hD hS => ?_)
          have hP : va_P D vwCl [(h_paceAt, .inl (cI, 40, .inl w12)), (h_kindOf, .inl (cI, 4, .inl g457)), (h0, .inr (10, vL 67 F450)), (h_s, .inl (cI, 335, .inl f_s))] H := hP
          have hD : va_D A [(h_paceAt, .inl (cI, 40, .inl w12)), (h_kindOf, .inl (cI, 4, .inl g457)), (h0, .inr (10, vL 67 F450)), (h_s, .inl (cI, 335, .inl f_s))] := hD
          refine lv_goto (tgt := 197) hx hb dX10_starts_111 (by decide) ?_
          obtain ⟨v458, ev458⟩ : ∃ z : Int32, z = u45 + 1 := ⟨_, rfl⟩
          have bv458 : v458.toInt = u45.toInt + 1 := by rw [ev458]; exact add_k rfl rfl k80 ⟨Int.le_refl _, Int.le_refl _⟩ (by decide)
          have k459 : 1 ≤ v458.toInt ∧ v458.toInt ≤ 4 := add_r bv458 k80 ⟨Int.le_refl _, Int.le_refl _⟩ (by decide)
          refine lv_iinc (v := v458) (lv' := [(5, .int v458), (4, .int u46), (1, .int u47), (3, .int u4), (2, .int u5), (0, .ref h0)]) hx hb dX10_starts_197 hl (k := 0) rfl (by rw [ev458]; rfl) (by decide) rfl (fun ls hl => ?_)
          refine lv_goto (tgt := 57) hx hb dX10_starts_200 (by decide) ?_
          have n460 : F450 29 = .int u50 := (get_ne eF450 (by decide) i57)
          have n461 : F450 31 = .int u52 := (get_ne eF450 (by decide) i59)
          exact ih_57 (v458, u46, u47, g457, F450, u50, v448, u52) ⟨(ir_wk k459 (by decide) (by decide)), i54, i55, (SAME.up eF450 (SAME.tr SAME.rf i56 (by decide)) (by decide)), n460, (get_eq eF450), n461, i60, k449⟩ (by show (4 - v458.toInt).toNat < (4 - u45.toInt).toNat; omega) _ _ _ hP hD hS (lv_sub hl [0, 1, 2, 3, 4, 5] rfl)
      · have dc85 : v84.toInt ≠ u4.toInt := ne_i (a := v84.toInt) (b := u4.toInt) rfl rfl c85
        refine lv_goto (tgt := 197) hx hb dX10_starts_77 (by decide) ?_
        obtain ⟨v462, ev462⟩ : ∃ z : Int32, z = u45 + 1 := ⟨_, rfl⟩
        have bv462 : v462.toInt = u45.toInt + 1 := by rw [ev462]; exact add_k rfl rfl k80 ⟨Int.le_refl _, Int.le_refl _⟩ (by decide)
        have k463 : 1 ≤ v462.toInt ∧ v462.toInt ≤ 4 := add_r bv462 k80 ⟨Int.le_refl _, Int.le_refl _⟩ (by decide)
        refine lv_iinc (v := v462) (lv' := [(5, .int v462), (4, .int u46), (1, .int u47), (3, .int u4), (2, .int u5), (0, .ref h0)]) hx hb dX10_starts_197 hl (k := 0) rfl (by rw [ev462]; rfl) (by decide) rfl (fun ls hl => ?_)
        refine lv_goto (tgt := 57) hx hb dX10_starts_200 (by decide) ?_
        exact ih_57 (v462, u46, u47, w48, G49, u50, u51, u52) ⟨(ir_wk k463 (by decide) (by decide)), i54, i55, (SAME.tr SAME.rf i56 (by decide)), i57, i58, i59, i60, i61⟩ (by show (4 - v462.toInt).toNat < (4 - u45.toInt).toNat; omega) _ _ _ hP hD hS (lv_sub hl [0, 1, 2, 3, 4, 5] rfl)
