set_option maxHeartbeats 4000000 in
set_option maxRecDepth 100000 in
theorem m_X10_isSaid (l : Launch) (D : va_G) (cI cJ cB cP cM cZ : ClassId) (h0 : Nat) (h_s : Nat) (h_paceAt : Nat) (h_kindOf : Nat) (h_truths : Nat) (Fh : Nat → Value) (x_lineTime : Int32) (x_linePace : Int32) (x_inside : Int32) (x_late : Int32) (x_seed : Int32) (x_kicks : Int32) (f_s : Nat → Int32) (f_paceAt : Nat → Int32) (f_kindOf : Nat → Int32) (f_truths : Nat → Int32) (p0 : Int32) (sz : Nat) (e_s : Fh 6 = .ref h_s) (e_paceAt : Fh 25 = .ref h_paceAt) (e_kindOf : Fh 26 = .ref h_kindOf) (e_lineTime : Fh 27 = .int x_lineTime) (e_linePace : Fh 28 = .int x_linePace) (e_inside : Fh 29 = .int x_inside) (i_x_inside : IR 0 15 x_inside) (e_late : Fh 30 = .int x_late) (i_x_late : IR 0 15 x_late) (e_seed : Fh 31 = .int x_seed) (e_kicks : Fh 32 = .int x_kicks) (i_x_kicks : IR 0 1 x_kicks) (e_truths : Fh 63 = .ref h_truths) (s_s_K0 : KW 0 f_s) (s_s_0 : SG 0 0 0 40 f_s) (s_s_105 : SG 105 108 0 11 f_s) (s_s_114 : SG 114 114 0 5 f_s) (s_s_130 : SG 130 133 0 11 f_s) (s_s_139 : SG 139 139 0 5 f_s) (s_s_153 : SG 153 153 0 44 f_s) (s_s_44 : SG 44 55 0 9 f_s) (s_s_5 : SG 5 5 0 12 f_s) (s_s_6 : SG 6 6 0 12 f_s) (s_s_7 : SG 7 7 0 6 f_s) (s_truths_0 : SG 0 44 0 1 f_truths) (i_p0 : IR 0 11 p0) : CI l yX10_isSaid cX10_isSaid 5 (some .boolean) { frames := 5, cells := 0, slots := 0, locals := 120 } (GG D cI cJ cB cP cM cZ) D [(h0, .inr (10, vL 67 Fh)), (h_s, .inl (cI, 335, .inl f_s)), (h_paceAt, .inl (cI, 40, .inl f_paceAt)), (h_kindOf, .inl (cI, 4, .inl f_kindOf)), (h_truths, .inl (cZ, 45, .inl f_truths))] sz [.ref h0, .int p0] (fun (r : Int32) (u : va_W) => ∃ (Gh : Nat → Value) (y_lineTime : Int32) (y_linePace : Int32) (y_inside : Int32) (y_late : Int32) (y_seed : Int32) (g_paceAt : Nat → Int32) (g_kindOf : Nat → Int32) (g_truths : Nat → Int32), SAME [27, 28, 29, 30, 31] Fh Gh ∧ Gh 27 = .int y_lineTime ∧ Gh 28 = .int y_linePace ∧ Gh 29 = .int y_inside ∧ IR 0 15 y_inside ∧ Gh 30 = .int y_late ∧ IR 0 15 y_late ∧ Gh 31 = .int y_seed ∧ SG 0 44 0 1 g_truths ∧ IR 0 1 r ∧ u = [(h0, .inr (10, vL 67 Gh)), (h_s, .inl (cI, 335, .inl f_s)), (h_paceAt, .inl (cI, 40, .inl g_paceAt)), (h_kindOf, .inl (cI, 4, .inl g_kindOf)), (h_truths, .inl (cZ, 45, .inl g_truths))]) := by
  refine CI_mk (by decide) (Nat.le_of_ble_eq_true rfl) ?_
  intro p e s m below meth c A ls E hAe hG hsz hP hD hA hS hl
  obtain ⟨hx, hb, hr, hw, hown, hlocks, hml, hnm⟩ := E
  have hK := hG.1
  have i_x_inside : 0 ≤ x_inside.toInt ∧ x_inside.toInt ≤ 15 := i_x_inside
  have i_x_late : 0 ≤ x_late.toInt ∧ x_late.toInt ≤ 15 := i_x_late
  have i_x_kicks : 0 ≤ x_kicks.toInt ∧ x_kicks.toInt ≤ 1 := i_x_kicks
  have i_p0 : 0 ≤ p0.toInt ∧ p0.toInt ≤ 11 := i_p0
  have hl : lv_has ls 5 [(0, .ref h0), (1, .int p0)] := hl
  refine lv_iconst (v := 0) hx hb dX10_isSaid_0 (by decide) ?_
  refine lv_istore_n (lv' := [(2, .int 0), (0, .ref h0), (1, .int p0)]) hx hb dX10_isSaid_1 rfl hl (by decide) rfl (fun ls hl => ?_)
  refine lv_iconst (v := 0) hx hb dX10_isSaid_2 (by decide) ?_
  refine lv_istore_n (lv' := [(3, .int 0), (2, .int 0), (0, .ref h0), (1, .int p0)]) hx hb dX10_isSaid_3 rfl hl (by decide) rfl (fun ls hl => ?_)
  refine mloop (α := (Int32) × (Int32) × (Nat → Value) × (Int32) × (Int32) × (Int32) × (Int32) × (Int32) × (Nat → Int32) × (Nat → Int32) × (Nat → Int32)) (nL := 5) (D := D) (A := A) (H0 := s.heap) (fun a => (44 - a.1.toInt).toNat) (fun a => IR 0 44 a.1 ∧ IR (-1) 45 a.2.1 ∧ SAME [27, 28, 29, 30, 31] Fh a.2.2.1 ∧ a.2.2.1 27 = .int a.2.2.2.1 ∧ a.2.2.1 28 = .int a.2.2.2.2.1 ∧ a.2.2.1 29 = .int a.2.2.2.2.2.1 ∧ a.2.2.1 30 = .int a.2.2.2.2.2.2.1 ∧ a.2.2.1 31 = .int a.2.2.2.2.2.2.2.1 ∧ IR 0 15 a.2.2.2.2.2.1 ∧ IR 0 15 a.2.2.2.2.2.2.1 ∧ SG 0 44 0 1 a.2.2.2.2.2.2.2.2.2.2 ∧ ((a.2.1.toInt : Int) = dep f_s 154 (a.1.toInt : Int).toNat) ∧ (0 ≤ a.2.1.toInt)) (fun a => [(h0, .inr (10, vL 67 a.2.2.1)), (h_s, .inl (cI, 335, .inl f_s)), (h_paceAt, .inl (cI, 40, .inl a.2.2.2.2.2.2.2.2.1)), (h_kindOf, .inl (cI, 4, .inl a.2.2.2.2.2.2.2.2.2.1)), (h_truths, .inl (cZ, 45, .inl a.2.2.2.2.2.2.2.2.2.2))]) (fun a => [(3, .int a.1), (2, .int a.2.1), (0, .ref h0), (1, .int p0)]) (fun H locs ls => W p l e ({ frames := 5, cells := 0, slots := 0, locals := 120 } : Room) s m [.ref h0, .int p0].toArray below meth c H locs 0 0 (MQ below (va_Qi (fun (r : Int32) (u : va_W) => ∃ (Gh : Nat → Value) (y_lineTime : Int32) (y_linePace : Int32) (y_inside : Int32) (y_late : Int32) (y_seed : Int32) (g_paceAt : Nat → Int32) (g_kindOf : Nat → Int32) (g_truths : Nat → Int32), SAME [27, 28, 29, 30, 31] Fh Gh ∧ Gh 27 = .int y_lineTime ∧ Gh 28 = .int y_linePace ∧ Gh 29 = .int y_inside ∧ IR 0 15 y_inside ∧ Gh 30 = .int y_late ∧ IR 0 15 y_late ∧ Gh 31 = .int y_seed ∧ SG 0 44 0 1 g_truths ∧ IR 0 1 r ∧ u = [(h0, .inr (10, vL 67 Gh)), (h_s, .inl (cI, 335, .inl f_s)), (h_paceAt, .inl (cI, 40, .inl g_paceAt)), (h_kindOf, .inl (cI, 4, .inl g_kindOf)), (h_truths, .inl (cZ, 45, .inl g_truths))]) (PO D A) A) [.ref h0, .int p0].toArray s 0 0 A) (F0 m 4 ls [])) ?_ (0, 0, Fh, x_lineTime, x_linePace, x_inside, x_late, x_seed, f_paceAt, f_kindOf, f_truths) ⟨(show 0 ≤ (0 : Int32).toInt ∧ (0 : Int32).toInt ≤ 44 by decide), (show (-1) ≤ (0 : Int32).toInt ∧ (0 : Int32).toInt ≤ 45 by decide), SAME.rf, e_lineTime, e_linePace, e_inside, e_late, e_seed, i_x_inside, i_x_late, s_truths_0, (show (0 : Int) = dep f_s 154 (0 : Int).toNat from rfl), (by show 0 ≤ 0; omega)⟩ _ _ _ hP hD hS hl
  rintro ⟨u1, u2, G3, u4, u5, u6, u7, u8, w9, w10, w11⟩ ⟨i12, i13, i14, i15, i16, i17, i18, i19, i20, i21, i22, i23, i24⟩ ih H locs ls hP hD hS hl
  have i12 : 0 ≤ u1.toInt ∧ u1.toInt ≤ 44 := i12
  have i13 : (-1) ≤ u2.toInt ∧ u2.toInt ≤ 45 := i13
  have i20 : 0 ≤ u6.toInt ∧ u6.toInt ≤ 15 := i20
  have i21 : 0 ≤ u7.toInt ∧ u7.toInt ≤ 15 := i21
  have i23 : (u2.toInt : Int) = dep f_s 154 (u1.toInt : Int).toNat := i23
  have i24 : 0 ≤ u2.toInt := i24
  have hP : va_P D vwCl [(h0, .inr (10, vL 67 G3)), (h_s, .inl (cI, 335, .inl f_s)), (h_paceAt, .inl (cI, 40, .inl w9)), (h_kindOf, .inl (cI, 4, .inl w10)), (h_truths, .inl (cZ, 45, .inl w11))] H := hP
  have hD : va_D A [(h0, .inr (10, vL 67 G3)), (h_s, .inl (cI, 335, .inl f_s)), (h_paceAt, .inl (cI, 40, .inl w9)), (h_kindOf, .inl (cI, 4, .inl w10)), (h_truths, .inl (cZ, 45, .inl w11))] := hD
  have hl : lv_has ls 5 [(3, .int u1), (2, .int u2), (0, .ref h0), (1, .int p0)] := hl
  refine lv_iload_n hx hb dX10_isSaid_4 rfl (lv_at hl 0 rfl) ?_
  refine lv_aload_n hx hb dX10_isSaid_5 rfl (lv_at hl 2 rfl) ?_
  have n25 : G3 6 = .ref h_s := (SAME.at i14 (by decide) e_s)
  refine get_f (D := D) (ci := 10) (v := .ref h_s) (C := RX10) (T := TX10) (N := 67) hx hb hw inAX10 hown hK hP 0 rfl rfl 6 (by decide) (hw _ q_1267) (fun _ h9 => h9) n25 dX10_isSaid_6 ?_
  refine lv_sipush (v := 153) hx hb dX10_isSaid_9 (by decide) ?_
  refine iald_n hx hb hK hP 1 0 rfl rfl 153 rfl (Nat.le_of_ble_eq_true rfl) (Nat.le_of_ble_eq_true rfl) rfl dX10_isSaid_12 ?_
  refine lv_topi (fun v26 ev26 => ?_)
  have k27 : 0 ≤ v26.toInt ∧ v26.toInt ≤ 44 := by rw [ev26]; exact s_s_153.atN 153 (by decide) (by decide)
  refine lv_icmp_ge (tgt := 212) hx hb dX10_isSaid_13 (by decide) (fun c28 => ?_) (fun c28 => ?_)
  · have dc28 : v26.toInt ≤ u1.toInt := le_i (a := v26.toInt) (b := u1.toInt) rfl rfl c28
    refine lv_aload_n hx hb dX10_isSaid_212 rfl (lv_at hl 2 rfl) ?_
    have n29 : G3 63 = .ref h_truths := (SAME.at i14 (by decide) e_truths)
    refine get_f (D := D) (ci := 10) (v := .ref h_truths) (C := RX10) (T := TX10) (N := 67) hx hb hw inAX10 hown hK hP 0 rfl rfl 63 (by decide) (hw _ q_1324) (fun _ h9 => h9) n29 dX10_isSaid_213 ?_
    refine lv_iconst (v := 0) hx hb dX10_isSaid_216 (by decide) ?_
    refine zald_n hx hb hK hP 4 5 rfl rfl 0 rfl (Nat.le_of_ble_eq_true rfl) (Nat.le_of_ble_eq_true rfl) rfl dX10_isSaid_217 ?_
    refine lv_topi (fun v30 ev30 => ?_)
    have k31 : 0 ≤ v30.toInt ∧ v30.toInt ≤ 1 := by rw [ev30]; exact i22.atN 0 (by decide) (by decide)
    exact ret_i (v := v30) hx hb hr hlocks hS hP hD dX10_isSaid_218 (nz_i k31.1 k31.2) (Nat.le_of_ble_eq_true rfl) (Nat.le_of_ble_eq_true rfl) ⟨G3, u4, u5, u6, u7, u8, w9, w10, w11, (SAME.tr SAME.rf i14 (by decide)), i15, i16, i17, i20, i18, i21, i19, i22, k31, rfl⟩
  · have dc28 : u1.toInt < v26.toInt := nle_i (a := v26.toInt) (b := u1.toInt) rfl rfl c28
    have k32 : 0 ≤ u1.toInt ∧ u1.toInt ≤ 43 := ⟨i12.1, up_lt dc28 k27.2 (by decide)⟩
    have k33 : 1 ≤ v26.toInt ∧ v26.toInt ≤ 44 := ⟨lo_lt dc28 i12.1 (by decide), k27.2⟩
    refine lv_sipush (v := 154) hx hb dX10_isSaid_16 (by decide) ?_
    refine lv_iconst (v := 3) hx hb dX10_isSaid_19 (by decide) ?_
    refine lv_iload_n hx hb dX10_isSaid_20 rfl (lv_at hl 0 rfl) ?_
    refine lv_imul hx hb dX10_isSaid_21 ?_
    refine lv_topi (fun v34 ev34 => ?_)
    have bv34 : v34.toInt = 3 * u1.toInt := by rw [ev34]; exact kmul_k rfl rfl (by decide) k32 (by decide)
    have k35 : 0 ≤ v34.toInt ∧ v34.toInt ≤ 129 := kmul_r bv34 (by decide) k32 (by decide)
    refine lv_iadd hx hb dX10_isSaid_22 ?_
    refine lv_topi (fun v36 ev36 => ?_)
    have bv36 : v36.toInt = 154 + v34.toInt := by rw [ev36]; exact add_k rfl rfl ⟨Int.le_refl _, Int.le_refl _⟩ k35 (by decide)
    have k37 : 154 ≤ v36.toInt ∧ v36.toInt ≤ 283 := add_r bv36 ⟨Int.le_refl _, Int.le_refl _⟩ k35 (by decide)
    refine lv_istore (lv' := [(4, .int v36), (3, .int u1), (2, .int u2), (0, .ref h0), (1, .int p0)]) hx hb dX10_isSaid_23 hl (by decide) rfl (fun ls hl => ?_)
    refine lv_aload_n hx hb dX10_isSaid_25 rfl (lv_at hl 3 rfl) ?_
    refine get_f (D := D) (ci := 10) (v := .ref h_s) (C := RX10) (T := TX10) (N := 67) hx hb hw inAX10 hown hK hP 0 rfl rfl 6 (by decide) (hw _ q_1267) (fun _ h9 => h9) n25 dX10_isSaid_26 ?_
    refine lv_iload hx hb dX10_isSaid_29 (lv_at hl 0 rfl) ?_
    refine va_iald hx hb hK hP 1 0 rfl rfl (ix_k k37 (by decide) (by decide)) dX10_isSaid_31 ?_
    refine lv_topi (fun v38 ev38 => ?_)
    have h39 := KW.g s_s_K0 (i := u1) ev38 (by omega) (by omega) (congrArg Int32.toInt ev26.symm) (by omega)
    have h40 := stp_ca v38.toInt
    have h41 := dep_le f_s 154 u1.toInt.toNat
    have dh41 := dep_st (i := u1) ev38 (by omega) (by omega) (rfl : u1.toInt + 1 = u1.toInt + 1)
    refine lv_bipush (v := 20) hx hb dX10_isSaid_32 (by decide) ?_
    refine lv_icmp_ne (tgt := 64) hx hb dX10_isSaid_34 (by decide) (fun c42 => ?_) (fun c42 => ?_)
    · have dc42 : v38.toInt ≠ 20 := ne_i (a := v38.toInt) (b := 20) rfl rfl c42
      refine lv_aload_n hx hb dX10_isSaid_64 rfl (lv_at hl 3 rfl) ?_
      refine get_f (D := D) (ci := 10) (v := .ref h_s) (C := RX10) (T := TX10) (N := 67) hx hb hw inAX10 hown hK hP 0 rfl rfl 6 (by decide) (hw _ q_1267) (fun _ h9 => h9) n25 dX10_isSaid_65 ?_
      refine lv_iload hx hb dX10_isSaid_68 (lv_at hl 0 rfl) ?_
      refine va_iald hx hb hK hP 1 0 rfl rfl (ix_k k37 (by decide) (by decide)) dX10_isSaid_70 ?_
      refine lv_ci (y := v38) ev38.symm ?_
      refine lv_bipush (v := 21) hx hb dX10_isSaid_71 (by decide) ?_
      refine lv_icmp_eq (tgt := 88) hx hb dX10_isSaid_73 (by decide) (fun c43 => ?_) (fun c43 => ?_)
      · have dc43 : v38.toInt = 21 := eq_i (a := v38.toInt) (b := 21) rfl rfl c43
        have k44 : 21 ≤ v38.toInt ∧ v38.toInt ≤ 21 := ⟨Int.le_trans (Int.le_refl _) (Int.le_of_eq dc43.symm), Int.le_trans (Int.le_of_eq dc43) (Int.le_refl _)⟩
        obtain ⟨v45, ev45⟩ : ∃ z : Int32, z = u2 + (-1) := ⟨_, rfl⟩
        have bv45 : v45.toInt = u2.toInt + (-1) := by rw [ev45]; exact add_k rfl rfl i13 ⟨Int.le_refl _, Int.le_refl _⟩ (by decide)
        have k46 : (-2) ≤ v45.toInt ∧ v45.toInt ≤ 44 := add_r bv45 i13 ⟨Int.le_refl _, Int.le_refl _⟩ (by decide)
        refine lv_iinc (v := v45) (lv' := [(2, .int v45), (4, .int v36), (3, .int u1), (0, .ref h0), (1, .int p0)]) hx hb dX10_isSaid_88 hl (k := 2) rfl (by rw [ev45]; rfl) (by decide) rfl (fun ls hl => ?_)
        refine lv_aload_n hx hb dX10_isSaid_91 rfl (lv_at hl 3 rfl) ?_
        have n47 : G3 63 = .ref h_truths := (SAME.at i14 (by decide) e_truths)
        refine get_f (D := D) (ci := 10) (v := .ref h_truths) (C := RX10) (T := TX10) (N := 67) hx hb hw inAX10 hown hK hP 0 rfl rfl 63 (by decide) (hw _ q_1324) (fun _ h9 => h9) n47 dX10_isSaid_92 ?_
        refine lv_iload_n hx hb dX10_isSaid_95 rfl (lv_at hl 0 rfl) ?_
        refine lv_iconst (v := 1) hx hb dX10_isSaid_96 (by decide) ?_
        refine lv_isub hx hb dX10_isSaid_97 ?_
        refine lv_topi (fun v48 ev48 => ?_)
        have bv48 : v48.toInt = v45.toInt - 1 := by rw [ev48]; exact sub_k rfl rfl k46 ⟨Int.le_refl _, Int.le_refl _⟩ (by decide)
        have k49 : (-3) ≤ v48.toInt ∧ v48.toInt ≤ 43 := sub_r bv48 k46 ⟨Int.le_refl _, Int.le_refl _⟩ (by decide)
        refine lv_aload_n hx hb dX10_isSaid_98 rfl (lv_at hl 3 rfl) ?_
        refine get_f (D := D) (ci := 10) (v := .ref h_s) (C := RX10) (T := TX10) (N := 67) hx hb hw inAX10 hown hK hP 0 rfl rfl 6 (by decide) (hw _ q_1267) (fun _ h9 => h9) n25 dX10_isSaid_99 ?_
        refine lv_iload hx hb dX10_isSaid_102 (lv_at hl 1 rfl) ?_
        refine va_iald hx hb hK hP 1 0 rfl rfl (ix_k k37 (by decide) (by decide)) dX10_isSaid_104 ?_
        refine lv_ci (y := v38) ev38.symm ?_
        refine lv_bipush (v := 21) hx hb dX10_isSaid_105 (by decide) ?_
        refine lv_icmp_ne (tgt := 138) hx hb dX10_isSaid_107 (by decide) (fun c50 => False.elim (bad_ne (ne_i (a := v38.toInt) (b := 21) rfl rfl c50) k44 ⟨Int.le_refl _, Int.le_refl _⟩ (by decide))) (fun c50 => ?_)
        have dc50 : v38.toInt = 21 := eq_i (a := v38.toInt) (b := 21) rfl rfl c50
        refine lv_aload_n hx hb dX10_isSaid_110 rfl (lv_at hl 3 rfl) ?_
        refine get_f (D := D) (ci := 10) (v := .ref h_truths) (C := RX10) (T := TX10) (N := 67) hx hb hw inAX10 hown hK hP 0 rfl rfl 63 (by decide) (hw _ q_1324) (fun _ h9 => h9) n47 dX10_isSaid_111 ?_
        refine lv_iload_n hx hb dX10_isSaid_114 rfl (lv_at hl 0 rfl) ?_
        refine lv_iconst (v := 1) hx hb dX10_isSaid_115 (by decide) ?_
        refine lv_isub hx hb dX10_isSaid_116 ?_
        refine lv_ci (y := v48) ev48.symm ?_
        refine va_zald hx hb hK hP 4 5 rfl rfl (ix_i (by omega) (by omega)) dX10_isSaid_117 ?_
        refine lv_topi (fun v51 ev51 => ?_)
        have r52 : IMP (0 ≤ v48.toInt → v48.toInt ≤ 44 → 0 ≤ v51.toInt ∧ v51.toInt ≤ 1) := IMP.mk (fun q1 q2 => by rw [ev51]; exact i22.at _ q1 q2)
        refine lv_if_eq (tgt := 134) hx hb dX10_isSaid_118 (by decide) (fun c53 => ?_) (fun c53 => ?_)
        · have dc53 : v51.toInt = 0 := eq_i (a := v51.toInt) (b := 0) rfl rfl c53
          have k54 : 0 ≤ v51.toInt ∧ v51.toInt ≤ 0 := ⟨Int.le_trans (Int.le_refl _) (Int.le_of_eq dc53.symm), Int.le_trans (Int.le_of_eq dc53) (Int.le_refl _)⟩
          refine lv_iconst (v := 0) hx hb dX10_isSaid_134 (by decide) ?_
          refine lv_goto (tgt := 163) hx hb dX10_isSaid_135 (by decide) ?_
          obtain ⟨g55, eg55⟩ : ∃ z : Nat → Int32, upd w11 v48.toNatClampNeg (vp_nar .boolean 0) = z := ⟨_, rfl⟩
          have r56 : SG 0 44 0 1 g55 := by rw [← eg55, zn_k (show 0 ≤ (0 : Int32).toInt ∧ (0 : Int32).toInt ≤ 1 by decide)]; exact i22.up (by omega) (Or.inr (Or.inr ⟨by decide, by decide⟩))
          refine zast_g hx hb hK hP hD hS 4 5 rfl rfl (ix_i (by omega) (by omega)) eg55 dX10_isSaid_163 (fun H locs hP hD hS => ?_)
          have hP : va_P D vwCl [(h0, .inr (10, vL 67 G3)), (h_s, .inl (cI, 335, .inl f_s)), (h_paceAt, .inl (cI, 40, .inl w9)), (h_kindOf, .inl (cI, 4, .inl w10)), (h_truths, .inl (cZ, 45, .inl g55))] H := hP
          have hD : va_D A [(h0, .inr (10, vL 67 G3)), (h_s, .inl (cI, 335, .inl f_s)), (h_paceAt, .inl (cI, 40, .inl w9)), (h_kindOf, .inl (cI, 4, .inl w10)), (h_truths, .inl (cZ, 45, .inl g55))] := hD
          refine lv_goto (tgt := 206) hx hb dX10_isSaid_164 (by decide) ?_
          obtain ⟨v57, ev57⟩ : ∃ z : Int32, z = u1 + 1 := ⟨_, rfl⟩
          have bv57 : v57.toInt = u1.toInt + 1 := by rw [ev57]; exact add_k rfl rfl k32 ⟨Int.le_refl _, Int.le_refl _⟩ (by decide)
          have k58 : 1 ≤ v57.toInt ∧ v57.toInt ≤ 44 := add_r bv57 k32 ⟨Int.le_refl _, Int.le_refl _⟩ (by decide)
          refine lv_iinc (v := v57) (lv' := [(3, .int v57), (2, .int v45), (4, .int v36), (0, .ref h0), (1, .int p0)]) hx hb dX10_isSaid_206 hl (k := 2) rfl (by rw [ev57]; rfl) (by decide) rfl (fun ls hl => ?_)
          refine lv_goto (tgt := 4) hx hb dX10_isSaid_209 (by decide) ?_
          exact ih (v57, v45, G3, u4, u5, u6, u7, u8, w9, w10, g55) ⟨(ir_wk k58 (by decide) (by decide)), (show (-1) ≤ v45.toInt ∧ v45.toInt ≤ 45 from ⟨by omega, by omega⟩), (SAME.tr SAME.rf i14 (by decide)), i15, i16, i17, i18, i19, i20, i21, r56, (show (v45.toInt : Int) = dep f_s 154 (v57.toInt : Int).toNat from (by rw [bv57]; omega)), (by show 0 ≤ v45.toInt; omega)⟩ (by show (44 - v57.toInt).toNat < (44 - u1.toInt).toNat; omega) _ _ _ hP hD hS (lv_sub hl [0, 1, 3, 4] rfl)
        · have dc53 : v51.toInt ≠ 0 := ne_i (a := v51.toInt) (b := 0) rfl rfl c53
          refine lv_aload_n hx hb dX10_isSaid_121 rfl (lv_at hl 3 rfl) ?_
          refine get_f (D := D) (ci := 10) (v := .ref h_truths) (C := RX10) (T := TX10) (N := 67) hx hb hw inAX10 hown hK hP 0 rfl rfl 63 (by decide) (hw _ q_1324) (fun _ h9 => h9) n47 dX10_isSaid_122 ?_
          refine lv_iload_n hx hb dX10_isSaid_125 rfl (lv_at hl 0 rfl) ?_
          refine va_zald hx hb hK hP 4 5 rfl rfl (ix_i (by omega) (by omega)) dX10_isSaid_126 ?_
          refine lv_topi (fun v59 ev59 => ?_)
          have r60 : IMP (0 ≤ v45.toInt → v45.toInt ≤ 44 → 0 ≤ v59.toInt ∧ v59.toInt ≤ 1) := IMP.mk (fun q1 q2 => by rw [ev59]; exact i22.at _ q1 q2)
          refine lv_if_eq (tgt := 134) hx hb dX10_isSaid_127 (by decide) (fun c61 => ?_) (fun c61 => ?_)
          · have dc61 : v59.toInt = 0 := eq_i (a := v59.toInt) (b := 0) rfl rfl c61
            have k62 : 0 ≤ v59.toInt ∧ v59.toInt ≤ 0 := ⟨Int.le_trans (Int.le_refl _) (Int.le_of_eq dc61.symm), Int.le_trans (Int.le_of_eq dc61) (Int.le_refl _)⟩
            refine lv_iconst (v := 0) hx hb dX10_isSaid_134 (by decide) ?_
            refine lv_goto (tgt := 163) hx hb dX10_isSaid_135 (by decide) ?_
            obtain ⟨g63, eg63⟩ : ∃ z : Nat → Int32, upd w11 v48.toNatClampNeg (vp_nar .boolean 0) = z := ⟨_, rfl⟩
            have r64 : SG 0 44 0 1 g63 := by rw [← eg63, zn_k (show 0 ≤ (0 : Int32).toInt ∧ (0 : Int32).toInt ≤ 1 by decide)]; exact i22.up (by omega) (Or.inr (Or.inr ⟨by decide, by decide⟩))
            refine zast_g hx hb hK hP hD hS 4 5 rfl rfl (ix_i (by omega) (by omega)) eg63 dX10_isSaid_163 (fun H locs hP hD hS => ?_)
            have hP : va_P D vwCl [(h0, .inr (10, vL 67 G3)), (h_s, .inl (cI, 335, .inl f_s)), (h_paceAt, .inl (cI, 40, .inl w9)), (h_kindOf, .inl (cI, 4, .inl w10)), (h_truths, .inl (cZ, 45, .inl g63))] H := hP
            have hD : va_D A [(h0, .inr (10, vL 67 G3)), (h_s, .inl (cI, 335, .inl f_s)), (h_paceAt, .inl (cI, 40, .inl w9)), (h_kindOf, .inl (cI, 4, .inl w10)), (h_truths, .inl (cZ, 45, .inl g63))] := hD
            refine lv_goto (tgt := 206) hx hb dX10_isSaid_164 (by decide) ?_
            obtain ⟨v65, ev65⟩ : ∃ z : Int32, z = u1 + 1 := ⟨_, rfl⟩
            have bv65 : v65.toInt = u1.toInt + 1 := by rw [ev65]; exact add_k rfl rfl k32 ⟨Int.le_refl _, Int.le_refl _⟩ (by decide)
            have k66 : 1 ≤ v65.toInt ∧ v65.toInt ≤ 44 := add_r bv65 k32 ⟨Int.le_refl _, Int.le_refl _⟩ (by decide)
            refine lv_iinc (v := v65) (lv' := [(3, .int v65), (2, .int v45), (4, .int v36), (0, .ref h0), (1, .int p0)]) hx hb dX10_isSaid_206 hl (k := 2) rfl (by rw [ev65]; rfl) (by decide) rfl (fun ls hl => ?_)
            refine lv_goto (tgt := 4) hx hb dX10_isSaid_209 (by decide) ?_
            exact ih (v65, v45, G3, u4, u5, u6, u7, u8, w9, w10, g63) ⟨(ir_wk k66 (by decide) (by decide)), (show (-1) ≤ v45.toInt ∧ v45.toInt ≤ 45 from ⟨by omega, by omega⟩), (SAME.tr SAME.rf i14 (by decide)), i15, i16, i17, i18, i19, i20, i21, r64, (show (v45.toInt : Int) = dep f_s 154 (v65.toInt : Int).toNat from (by rw [bv65]; omega)), (by show 0 ≤ v45.toInt; omega)⟩ (by show (44 - v65.toInt).toNat < (44 - u1.toInt).toNat; omega) _ _ _ hP hD hS (lv_sub hl [0, 1, 3, 4] rfl)
          · have dc61 : v59.toInt ≠ 0 := ne_i (a := v59.toInt) (b := 0) rfl rfl c61
            refine lv_iconst (v := 1) hx hb dX10_isSaid_130 (by decide) ?_
            refine lv_goto (tgt := 163) hx hb dX10_isSaid_131 (by decide) ?_
            obtain ⟨g67, eg67⟩ : ∃ z : Nat → Int32, upd w11 v48.toNatClampNeg (vp_nar .boolean 1) = z := ⟨_, rfl⟩
            have r68 : SG 0 44 0 1 g67 := by rw [← eg67, zn_k (show 0 ≤ (1 : Int32).toInt ∧ (1 : Int32).toInt ≤ 1 by decide)]; exact i22.up (by omega) (Or.inr (Or.inr ⟨by decide, by decide⟩))
            refine zast_g hx hb hK hP hD hS 4 5 rfl rfl (ix_i (by omega) (by omega)) eg67 dX10_isSaid_163 (fun H locs hP hD hS => ?_)
            have hP : va_P D vwCl [(h0, .inr (10, vL 67 G3)), (h_s, .inl (cI, 335, .inl f_s)), (h_paceAt, .inl (cI, 40, .inl w9)), (h_kindOf, .inl (cI, 4, .inl w10)), (h_truths, .inl (cZ, 45, .inl g67))] H := hP
            have hD : va_D A [(h0, .inr (10, vL 67 G3)), (h_s, .inl (cI, 335, .inl f_s)), (h_paceAt, .inl (cI, 40, .inl w9)), (h_kindOf, .inl (cI, 4, .inl w10)), (h_truths, .inl (cZ, 45, .inl g67))] := hD
            refine lv_goto (tgt := 206) hx hb dX10_isSaid_164 (by decide) ?_
            obtain ⟨v69, ev69⟩ : ∃ z : Int32, z = u1 + 1 := ⟨_, rfl⟩
            have bv69 : v69.toInt = u1.toInt + 1 := by rw [ev69]; exact add_k rfl rfl k32 ⟨Int.le_refl _, Int.le_refl _⟩ (by decide)
            have k70 : 1 ≤ v69.toInt ∧ v69.toInt ≤ 44 := add_r bv69 k32 ⟨Int.le_refl _, Int.le_refl _⟩ (by decide)
            refine lv_iinc (v := v69) (lv' := [(3, .int v69), (2, .int v45), (4, .int v36), (0, .ref h0), (1, .int p0)]) hx hb dX10_isSaid_206 hl (k := 2) rfl (by rw [ev69]; rfl) (by decide) rfl (fun ls hl => ?_)
            refine lv_goto (tgt := 4) hx hb dX10_isSaid_209 (by decide) ?_
            exact ih (v69, v45, G3, u4, u5, u6, u7, u8, w9, w10, g67) ⟨(ir_wk k70 (by decide) (by decide)), (show (-1) ≤ v45.toInt ∧ v45.toInt ≤ 45 from ⟨by omega, by omega⟩), (SAME.tr SAME.rf i14 (by decide)), i15, i16, i17, i18, i19, i20, i21, r68, (show (v45.toInt : Int) = dep f_s 154 (v69.toInt : Int).toNat from (by rw [bv69]; omega)), (by show 0 ≤ v45.toInt; omega)⟩ (by show (44 - v69.toInt).toNat < (44 - u1.toInt).toNat; omega) _ _ _ hP hD hS (lv_sub hl [0, 1, 3, 4] rfl)
      · have dc43 : v38.toInt ≠ 21 := ne_i (a := v38.toInt) (b := 21) rfl rfl c43
        refine lv_aload_n hx hb dX10_isSaid_76 rfl (lv_at hl 3 rfl) ?_
        refine get_f (D := D) (ci := 10) (v := .ref h_s) (C := RX10) (T := TX10) (N := 67) hx hb hw inAX10 hown hK hP 0 rfl rfl 6 (by decide) (hw _ q_1267) (fun _ h9 => h9) n25 dX10_isSaid_77 ?_
        refine lv_iload hx hb dX10_isSaid_80 (lv_at hl 0 rfl) ?_
        refine va_iald hx hb hK hP 1 0 rfl rfl (ix_k k37 (by decide) (by decide)) dX10_isSaid_82 ?_
        refine lv_ci (y := v38) ev38.symm ?_
        refine lv_bipush (v := 22) hx hb dX10_isSaid_83 (by decide) ?_
        refine lv_icmp_ne (tgt := 167) hx hb dX10_isSaid_85 (by decide) (fun c71 => ?_) (fun c71 => ?_)
        · have dc71 : v38.toInt ≠ 22 := ne_i (a := v38.toInt) (b := 22) rfl rfl c71
          refine lv_aload_n hx hb dX10_isSaid_167 rfl (lv_at hl 3 rfl) ?_
          have n72 : G3 63 = .ref h_truths := (SAME.at i14 (by decide) e_truths)
          refine get_f (D := D) (ci := 10) (v := .ref h_truths) (C := RX10) (T := TX10) (N := 67) hx hb hw inAX10 hown hK hP 0 rfl rfl 63 (by decide) (hw _ q_1324) (fun _ h9 => h9) n72 dX10_isSaid_168 ?_
          refine lv_iload_n hx hb dX10_isSaid_171 rfl (lv_at hl 2 rfl) ?_
          refine lv_aload_n hx hb dX10_isSaid_172 rfl (lv_at hl 3 rfl) ?_
          refine lv_iload_n hx hb dX10_isSaid_173 rfl (lv_at hl 4 rfl) ?_
          refine lv_aload_n hx hb dX10_isSaid_174 rfl (lv_at hl 3 rfl) ?_
          refine get_f (D := D) (ci := 10) (v := .ref h_s) (C := RX10) (T := TX10) (N := 67) hx hb hw inAX10 hown hK hP 0 rfl rfl 6 (by decide) (hw _ q_1267) (fun _ h9 => h9) n25 dX10_isSaid_175 ?_
          refine lv_iload hx hb dX10_isSaid_178 (lv_at hl 0 rfl) ?_
          refine va_iald hx hb hK hP 1 0 rfl rfl (ix_k k37 (by decide) (by decide)) dX10_isSaid_180 ?_
          refine lv_ci (y := v38) ev38.symm ?_
          refine lv_aload_n hx hb dX10_isSaid_181 rfl (lv_at hl 3 rfl) ?_
          refine get_f (D := D) (ci := 10) (v := .ref h_s) (C := RX10) (T := TX10) (N := 67) hx hb hw inAX10 hown hK hP 0 rfl rfl 6 (by decide) (hw _ q_1267) (fun _ h9 => h9) n25 dX10_isSaid_182 ?_
          refine lv_iload hx hb dX10_isSaid_185 (lv_at hl 0 rfl) ?_
          refine lv_iconst (v := 1) hx hb dX10_isSaid_187 (by decide) ?_
          refine lv_iadd hx hb dX10_isSaid_188 ?_
          refine lv_topi (fun v73 ev73 => ?_)
          have bv73 : v73.toInt = v36.toInt + 1 := by rw [ev73]; exact add_k rfl rfl k37 ⟨Int.le_refl _, Int.le_refl _⟩ (by decide)
          have k74 : 155 ≤ v73.toInt ∧ v73.toInt ≤ 284 := add_r bv73 k37 ⟨Int.le_refl _, Int.le_refl _⟩ (by decide)
          refine va_iald hx hb hK hP 1 0 rfl rfl (ix_k k74 (by decide) (by decide)) dX10_isSaid_189 ?_
          refine lv_topi (fun v75 ev75 => ?_)
          refine lv_aload_n hx hb dX10_isSaid_190 rfl (lv_at hl 3 rfl) ?_
          refine get_f (D := D) (ci := 10) (v := .ref h_s) (C := RX10) (T := TX10) (N := 67) hx hb hw inAX10 hown hK hP 0 rfl rfl 6 (by decide) (hw _ q_1267) (fun _ h9 => h9) n25 dX10_isSaid_191 ?_
          refine lv_iload hx hb dX10_isSaid_194 (lv_at hl 0 rfl) ?_
          refine lv_iconst (v := 2) hx hb dX10_isSaid_196 (by decide) ?_
          refine lv_iadd hx hb dX10_isSaid_197 ?_
          refine lv_topi (fun v76 ev76 => ?_)
          have bv76 : v76.toInt = v36.toInt + 2 := by rw [ev76]; exact add_k rfl rfl k37 ⟨Int.le_refl _, Int.le_refl _⟩ (by decide)
          have k77 : 156 ≤ v76.toInt ∧ v76.toInt ≤ 285 := add_r bv76 k37 ⟨Int.le_refl _, Int.le_refl _⟩ (by decide)
          refine va_iald hx hb hK hP 1 0 rfl rfl (ix_k k77 (by decide) (by decide)) dX10_isSaid_198 ?_
          refine lv_topi (fun v78 ev78 => ?_)
          have n79 : G3 25 = .ref h_paceAt := (SAME.at i14 (by decide) e_paceAt)
          have n80 : G3 26 = .ref h_kindOf := (SAME.at i14 (by decide) e_kindOf)
          have n81 : G3 32 = .int x_kicks := (SAME.at i14 (by decide) e_kicks)
          refine call_Vi (wr := [(h_truths, .inl (cZ, 45, .inl w11))]) (As := [.int p0, .int v38, .int v75, .int v78]) (rest := [.int u2, .ref h_truths]) hx hb hml hown hw (m_X10_isLeaf l D cI cJ cB cP cM cZ h0 h_s h_paceAt h_kindOf G3 u4 u5 u6 u7 u8 x_kicks f_s w9 w10 p0 v38 v75 v78 _ n25 n79 n80 i15 i16 i17 i20 i18 i21 i19 n81 i_x_kicks s_s_K0 s_s_0 s_s_105 s_s_114 s_s_130 s_s_139 s_s_153 s_s_44 s_s_5 s_s_6 s_s_7 i_p0) wV_X10_475_X10_isLeaf dX10_isSaid_199 hK hP hD hS hA [0, 1, 2, 3] [4] rfl rfl (by decide) (by decide) (by decide) 0 10 rfl rfl GG.fb hG.at hl.1 rfl (Nat.le_of_ble_eq_true rfl) ⟨(Nat.le_of_ble_eq_true rfl), (Nat.le_of_ble_eq_true rfl)⟩ ⟨(Nat.le_of_ble_eq_true rfl), (Nat.le_of_ble_eq_true rfl)⟩ (fun r82 u H locs hp hP hD hS => ?_)
          obtain ⟨F83, y84, y85, y86, y87, y88, g89, g90, t91, t92, t93, t94, t95, t96, t97, t98, t99, rfl⟩ := hp
          have hP : va_P D vwCl [(h_truths, .inl (cZ, 45, .inl w11)), (h0, .inr (10, vL 67 F83)), (h_s, .inl (cI, 335, .inl f_s)), (h_paceAt, .inl (cI, 40, .inl g89)), (h_kindOf, .inl (cI, 4, .inl g90))] H := hP
          have hD : va_D A [(h_truths, .inl (cZ, 45, .inl w11)), (h0, .inr (10, vL 67 F83)), (h_s, .inl (cI, 335, .inl f_s)), (h_paceAt, .inl (cI, 40, .inl g89)), (h_kindOf, .inl (cI, 4, .inl g90))] := hD
          refine W.widen (k := 0) (n := 0) (Nat.le_of_ble_eq_true rfl) (Nat.le_of_ble_eq_true rfl) ?_
          obtain ⟨g101, eg101⟩ : ∃ z : Nat → Int32, upd w11 u2.toNatClampNeg (vp_nar .boolean r82) = z := ⟨_, rfl⟩
          have r102 : SG 0 44 0 1 g101 := by rw [← eg101, zn_k t99]; exact i22.up (by omega) (Or.inr (Or.inr (ir_wk t99 (by decide) (by decide))))
          refine zast_g hx hb hK hP hD hS 0 5 rfl rfl (ix_i (by omega) (by omega)) eg101 dX10_isSaid_202 (fun H locs hP hD hS => ?_)
          have hP : va_P D vwCl [(h_truths, .inl (cZ, 45, .inl g101)), (h0, .inr (10, vL 67 F83)), (h_s, .inl (cI, 335, .inl f_s)), (h_paceAt, .inl (cI, 40, .inl g89)), (h_kindOf, .inl (cI, 4, .inl g90))] H := hP
          have hD : va_D A [(h_truths, .inl (cZ, 45, .inl g101)), (h0, .inr (10, vL 67 F83)), (h_s, .inl (cI, 335, .inl f_s)), (h_paceAt, .inl (cI, 40, .inl g89)), (h_kindOf, .inl (cI, 4, .inl g90))] := hD
          obtain ⟨v103, ev103⟩ : ∃ z : Int32, z = u2 + 1 := ⟨_, rfl⟩
          have bv103 : v103.toInt = u2.toInt + 1 := by rw [ev103]; exact add_k rfl rfl i13 ⟨Int.le_refl _, Int.le_refl _⟩ (by decide)
          have k104 : 0 ≤ v103.toInt ∧ v103.toInt ≤ 46 := add_r bv103 i13 ⟨Int.le_refl _, Int.le_refl _⟩ (by decide)
          refine lv_iinc (v := v103) (lv' := [(2, .int v103), (4, .int v36), (3, .int u1), (0, .ref h0), (1, .int p0)]) hx hb dX10_isSaid_203 hl (k := 2) rfl (by rw [ev103]; rfl) (by decide) rfl (fun ls hl => ?_)
          obtain ⟨v105, ev105⟩ : ∃ z : Int32, z = u1 + 1 := ⟨_, rfl⟩
          have bv105 : v105.toInt = u1.toInt + 1 := by rw [ev105]; exact add_k rfl rfl k32 ⟨Int.le_refl _, Int.le_refl _⟩ (by decide)
          have k106 : 1 ≤ v105.toInt ∧ v105.toInt ≤ 44 := add_r bv105 k32 ⟨Int.le_refl _, Int.le_refl _⟩ (by decide)
          refine lv_iinc (v := v105) (lv' := [(3, .int v105), (2, .int v103), (4, .int v36), (0, .ref h0), (1, .int p0)]) hx hb dX10_isSaid_206 hl (k := 2) rfl (by rw [ev105]; rfl) (by decide) rfl (fun ls hl => ?_)
          refine lv_goto (tgt := 4) hx hb dX10_isSaid_209 (by decide) ?_
          exact ih (v105, v103, F83, y84, y85, y86, y87, y88, g89, g90, g101) ⟨(ir_wk k106 (by decide) (by decide)), (show (-1) ≤ v103.toInt ∧ v103.toInt ≤ 45 from ⟨by omega, by omega⟩), (SAME.tr (SAME.tr SAME.rf i14 (by decide)) t91 (by decide)), t92, t93, t94, t96, t98, t95, t97, r102, (show (v103.toInt : Int) = dep f_s 154 (v105.toInt : Int).toNat from (by rw [bv105]; omega)), (by show 0 ≤ v103.toInt; omega)⟩ (by show (44 - v105.toInt).toNat < (44 - u1.toInt).toNat; omega) _ _ _ (hP.sub [1, 2, 3, 4, 0] rfl) (hD.sub [1, 2, 3, 4, 0] (by decide) rfl) hS (lv_sub hl [0, 1, 3, 4] rfl)
        · have dc71 : v38.toInt = 22 := eq_i (a := v38.toInt) (b := 22) rfl rfl c71
          have k107 : 22 ≤ v38.toInt ∧ v38.toInt ≤ 22 := ⟨Int.le_trans (Int.le_refl _) (Int.le_of_eq dc71.symm), Int.le_trans (Int.le_of_eq dc71) (Int.le_refl _)⟩
          obtain ⟨v108, ev108⟩ : ∃ z : Int32, z = u2 + (-1) := ⟨_, rfl⟩
          have bv108 : v108.toInt = u2.toInt + (-1) := by rw [ev108]; exact add_k rfl rfl i13 ⟨Int.le_refl _, Int.le_refl _⟩ (by decide)
          have k109 : (-2) ≤ v108.toInt ∧ v108.toInt ≤ 44 := add_r bv108 i13 ⟨Int.le_refl _, Int.le_refl _⟩ (by decide)
          refine lv_iinc (v := v108) (lv' := [(2, .int v108), (4, .int v36), (3, .int u1), (0, .ref h0), (1, .int p0)]) hx hb dX10_isSaid_88 hl (k := 2) rfl (by rw [ev108]; rfl) (by decide) rfl (fun ls hl => ?_)
          refine lv_aload_n hx hb dX10_isSaid_91 rfl (lv_at hl 3 rfl) ?_
          have n110 : G3 63 = .ref h_truths := (SAME.at i14 (by decide) e_truths)
          refine get_f (D := D) (ci := 10) (v := .ref h_truths) (C := RX10) (T := TX10) (N := 67) hx hb hw inAX10 hown hK hP 0 rfl rfl 63 (by decide) (hw _ q_1324) (fun _ h9 => h9) n110 dX10_isSaid_92 ?_
          refine lv_iload_n hx hb dX10_isSaid_95 rfl (lv_at hl 0 rfl) ?_
          refine lv_iconst (v := 1) hx hb dX10_isSaid_96 (by decide) ?_
          refine lv_isub hx hb dX10_isSaid_97 ?_
          refine lv_topi (fun v111 ev111 => ?_)
          have bv111 : v111.toInt = v108.toInt - 1 := by rw [ev111]; exact sub_k rfl rfl k109 ⟨Int.le_refl _, Int.le_refl _⟩ (by decide)
          have k112 : (-3) ≤ v111.toInt ∧ v111.toInt ≤ 43 := sub_r bv111 k109 ⟨Int.le_refl _, Int.le_refl _⟩ (by decide)
          refine lv_aload_n hx hb dX10_isSaid_98 rfl (lv_at hl 3 rfl) ?_
          refine get_f (D := D) (ci := 10) (v := .ref h_s) (C := RX10) (T := TX10) (N := 67) hx hb hw inAX10 hown hK hP 0 rfl rfl 6 (by decide) (hw _ q_1267) (fun _ h9 => h9) n25 dX10_isSaid_99 ?_
          refine lv_iload hx hb dX10_isSaid_102 (lv_at hl 1 rfl) ?_
          refine va_iald hx hb hK hP 1 0 rfl rfl (ix_k k37 (by decide) (by decide)) dX10_isSaid_104 ?_
          refine lv_ci (y := v38) ev38.symm ?_
          refine lv_bipush (v := 21) hx hb dX10_isSaid_105 (by decide) ?_
          refine lv_icmp_ne (tgt := 138) hx hb dX10_isSaid_107 (by decide) (fun c113 => ?_) (fun c113 => False.elim (bad_le (Int.le_of_eq (eq_i (a := v38.toInt) (b := 21) rfl rfl c113)) k107.1 (Int.le_refl _) (by decide)))
          have dc113 : v38.toInt ≠ 21 := ne_i (a := v38.toInt) (b := 21) rfl rfl c113
          refine lv_aload_n hx hb dX10_isSaid_138 rfl (lv_at hl 3 rfl) ?_
          refine get_f (D := D) (ci := 10) (v := .ref h_truths) (C := RX10) (T := TX10) (N := 67) hx hb hw inAX10 hown hK hP 0 rfl rfl 63 (by decide) (hw _ q_1324) (fun _ h9 => h9) n110 dX10_isSaid_139 ?_
          refine lv_iload_n hx hb dX10_isSaid_142 rfl (lv_at hl 0 rfl) ?_
          refine lv_iconst (v := 1) hx hb dX10_isSaid_143 (by decide) ?_
          refine lv_isub hx hb dX10_isSaid_144 ?_
          refine lv_ci (y := v111) ev111.symm ?_
          refine va_zald hx hb hK hP 4 5 rfl rfl (ix_i (by omega) (by omega)) dX10_isSaid_145 ?_
          refine lv_topi (fun v114 ev114 => ?_)
          have r115 : IMP (0 ≤ v111.toInt → v111.toInt ≤ 44 → 0 ≤ v114.toInt ∧ v114.toInt ≤ 1) := IMP.mk (fun q1 q2 => by rw [ev114]; exact i22.at _ q1 q2)
          refine lv_if_ne (tgt := 158) hx hb dX10_isSaid_146 (by decide) (fun c116 => ?_) (fun c116 => ?_)
          · have dc116 : v114.toInt ≠ 0 := ne_i (a := v114.toInt) (b := 0) rfl rfl c116
            refine lv_iconst (v := 1) hx hb dX10_isSaid_158 (by decide) ?_
            refine lv_goto (tgt := 163) hx hb dX10_isSaid_159 (by decide) ?_
            obtain ⟨g117, eg117⟩ : ∃ z : Nat → Int32, upd w11 v111.toNatClampNeg (vp_nar .boolean 1) = z := ⟨_, rfl⟩
            have r118 : SG 0 44 0 1 g117 := by rw [← eg117, zn_k (show 0 ≤ (1 : Int32).toInt ∧ (1 : Int32).toInt ≤ 1 by decide)]; exact i22.up (by omega) (Or.inr (Or.inr ⟨by decide, by decide⟩))
            refine zast_g hx hb hK hP hD hS 4 5 rfl rfl (ix_i (by omega) (by omega)) eg117 dX10_isSaid_163 (fun H locs hP hD hS => ?_)
            have hP : va_P D vwCl [(h0, .inr (10, vL 67 G3)), (h_s, .inl (cI, 335, .inl f_s)), (h_paceAt, .inl (cI, 40, .inl w9)), (h_kindOf, .inl (cI, 4, .inl w10)), (h_truths, .inl (cZ, 45, .inl g117))] H := hP
            have hD : va_D A [(h0, .inr (10, vL 67 G3)), (h_s, .inl (cI, 335, .inl f_s)), (h_paceAt, .inl (cI, 40, .inl w9)), (h_kindOf, .inl (cI, 4, .inl w10)), (h_truths, .inl (cZ, 45, .inl g117))] := hD
            refine lv_goto (tgt := 206) hx hb dX10_isSaid_164 (by decide) ?_
            obtain ⟨v119, ev119⟩ : ∃ z : Int32, z = u1 + 1 := ⟨_, rfl⟩
            have bv119 : v119.toInt = u1.toInt + 1 := by rw [ev119]; exact add_k rfl rfl k32 ⟨Int.le_refl _, Int.le_refl _⟩ (by decide)
            have k120 : 1 ≤ v119.toInt ∧ v119.toInt ≤ 44 := add_r bv119 k32 ⟨Int.le_refl _, Int.le_refl _⟩ (by decide)
            refine lv_iinc (v := v119) (lv' := [(3, .int v119), (2, .int v108), (4, .int v36), (0, .ref h0), (1, .int p0)]) hx hb dX10_isSaid_206 hl (k := 2) rfl (by rw [ev119]; rfl) (by decide) rfl (fun ls hl => ?_)
            refine lv_goto (tgt := 4) hx hb dX10_isSaid_209 (by decide) ?_
            exact ih (v119, v108, G3, u4, u5, u6, u7, u8, w9, w10, g117) ⟨(ir_wk k120 (by decide) (by decide)), (show (-1) ≤ v108.toInt ∧ v108.toInt ≤ 45 from ⟨by omega, by omega⟩), (SAME.tr SAME.rf i14 (by decide)), i15, i16, i17, i18, i19, i20, i21, r118, (show (v108.toInt : Int) = dep f_s 154 (v119.toInt : Int).toNat from (by rw [bv119]; omega)), (by show 0 ≤ v108.toInt; omega)⟩ (by show (44 - v119.toInt).toNat < (44 - u1.toInt).toNat; omega) _ _ _ hP hD hS (lv_sub hl [0, 1, 3, 4] rfl)
          · have dc116 : v114.toInt = 0 := eq_i (a := v114.toInt) (b := 0) rfl rfl c116
            have k121 : 0 ≤ v114.toInt ∧ v114.toInt ≤ 0 := ⟨Int.le_trans (Int.le_refl _) (Int.le_of_eq dc116.symm), Int.le_trans (Int.le_of_eq dc116) (Int.le_refl _)⟩
            refine lv_aload_n hx hb dX10_isSaid_149 rfl (lv_at hl 3 rfl) ?_
            refine get_f (D := D) (ci := 10) (v := .ref h_truths) (C := RX10) (T := TX10) (N := 67) hx hb hw inAX10 hown hK hP 0 rfl rfl 63 (by decide) (hw _ q_1324) (fun _ h9 => h9) n110 dX10_isSaid_150 ?_
            refine lv_iload_n hx hb dX10_isSaid_153 rfl (lv_at hl 0 rfl) ?_
            refine va_zald hx hb hK hP 4 5 rfl rfl (ix_i (by omega) (by omega)) dX10_isSaid_154 ?_
            refine lv_topi (fun v122 ev122 => ?_)
            have r123 : IMP (0 ≤ v108.toInt → v108.toInt ≤ 44 → 0 ≤ v122.toInt ∧ v122.toInt ≤ 1) := IMP.mk (fun q1 q2 => by rw [ev122]; exact i22.at _ q1 q2)
            refine lv_if_eq (tgt := 162) hx hb dX10_isSaid_155 (by decide) (fun c124 => ?_) (fun c124 => ?_)
            · have dc124 : v122.toInt = 0 := eq_i (a := v122.toInt) (b := 0) rfl rfl c124
              have k125 : 0 ≤ v122.toInt ∧ v122.toInt ≤ 0 := ⟨Int.le_trans (Int.le_refl _) (Int.le_of_eq dc124.symm), Int.le_trans (Int.le_of_eq dc124) (Int.le_refl _)⟩
              refine lv_iconst (v := 0) hx hb dX10_isSaid_162 (by decide) ?_
              obtain ⟨g126, eg126⟩ : ∃ z : Nat → Int32, upd w11 v111.toNatClampNeg (vp_nar .boolean 0) = z := ⟨_, rfl⟩
              have r127 : SG 0 44 0 1 g126 := by rw [← eg126, zn_k (show 0 ≤ (0 : Int32).toInt ∧ (0 : Int32).toInt ≤ 1 by decide)]; exact i22.up (by omega) (Or.inr (Or.inr ⟨by decide, by decide⟩))
              refine zast_g hx hb hK hP hD hS 4 5 rfl rfl (ix_i (by omega) (by omega)) eg126 dX10_isSaid_163 (fun H locs hP hD hS => ?_)
              have hP : va_P D vwCl [(h0, .inr (10, vL 67 G3)), (h_s, .inl (cI, 335, .inl f_s)), (h_paceAt, .inl (cI, 40, .inl w9)), (h_kindOf, .inl (cI, 4, .inl w10)), (h_truths, .inl (cZ, 45, .inl g126))] H := hP
              have hD : va_D A [(h0, .inr (10, vL 67 G3)), (h_s, .inl (cI, 335, .inl f_s)), (h_paceAt, .inl (cI, 40, .inl w9)), (h_kindOf, .inl (cI, 4, .inl w10)), (h_truths, .inl (cZ, 45, .inl g126))] := hD
              refine lv_goto (tgt := 206) hx hb dX10_isSaid_164 (by decide) ?_
              obtain ⟨v128, ev128⟩ : ∃ z : Int32, z = u1 + 1 := ⟨_, rfl⟩
              have bv128 : v128.toInt = u1.toInt + 1 := by rw [ev128]; exact add_k rfl rfl k32 ⟨Int.le_refl _, Int.le_refl _⟩ (by decide)
              have k129 : 1 ≤ v128.toInt ∧ v128.toInt ≤ 44 := add_r bv128 k32 ⟨Int.le_refl _, Int.le_refl _⟩ (by decide)
              refine lv_iinc (v := v128) (lv' := [(3, .int v128), (2, .int v108), (4, .int v36), (0, .ref h0), (1, .int p0)]) hx hb dX10_isSaid_206 hl (k := 2) rfl (by rw [ev128]; rfl) (by decide) rfl (fun ls hl => ?_)
              refine lv_goto (tgt := 4) hx hb dX10_isSaid_209 (by decide) ?_
              exact ih (v128, v108, G3, u4, u5, u6, u7, u8, w9, w10, g126) ⟨(ir_wk k129 (by decide) (by decide)), (show (-1) ≤ v108.toInt ∧ v108.toInt ≤ 45 from ⟨by omega, by omega⟩), (SAME.tr SAME.rf i14 (by decide)), i15, i16, i17, i18, i19, i20, i21, r127, (show (v108.toInt : Int) = dep f_s 154 (v128.toInt : Int).toNat from (by rw [bv128]; omega)), (by show 0 ≤ v108.toInt; omega)⟩ (by show (44 - v128.toInt).toNat < (44 - u1.toInt).toNat; omega) _ _ _ hP hD hS (lv_sub hl [0, 1, 3, 4] rfl)
            · have dc124 : v122.toInt ≠ 0 := ne_i (a := v122.toInt) (b := 0) rfl rfl c124
              refine lv_iconst (v := 1) hx hb dX10_isSaid_158 (by decide) ?_
              refine lv_goto (tgt := 163) hx hb dX10_isSaid_159 (by decide) ?_
              obtain ⟨g130, eg130⟩ : ∃ z : Nat → Int32, upd w11 v111.toNatClampNeg (vp_nar .boolean 1) = z := ⟨_, rfl⟩
              have r131 : SG 0 44 0 1 g130 := by rw [← eg130, zn_k (show 0 ≤ (1 : Int32).toInt ∧ (1 : Int32).toInt ≤ 1 by decide)]; exact i22.up (by omega) (Or.inr (Or.inr ⟨by decide, by decide⟩))
              refine zast_g hx hb hK hP hD hS 4 5 rfl rfl (ix_i (by omega) (by omega)) eg130 dX10_isSaid_163 (fun H locs hP hD hS => ?_)
              have hP : va_P D vwCl [(h0, .inr (10, vL 67 G3)), (h_s, .inl (cI, 335, .inl f_s)), (h_paceAt, .inl (cI, 40, .inl w9)), (h_kindOf, .inl (cI, 4, .inl w10)), (h_truths, .inl (cZ, 45, .inl g130))] H := hP
              have hD : va_D A [(h0, .inr (10, vL 67 G3)), (h_s, .inl (cI, 335, .inl f_s)), (h_paceAt, .inl (cI, 40, .inl w9)), (h_kindOf, .inl (cI, 4, .inl w10)), (h_truths, .inl (cZ, 45, .inl g130))] := hD
              refine lv_goto (tgt := 206) hx hb dX10_isSaid_164 (by decide) ?_
              obtain ⟨v132, ev132⟩ : ∃ z : Int32, z = u1 + 1 := ⟨_, rfl⟩
              have bv132 : v132.toInt = u1.toInt + 1 := by rw [ev132]; exact add_k rfl rfl k32 ⟨Int.le_refl _, Int.le_refl _⟩ (by decide)
              have k133 : 1 ≤ v132.toInt ∧ v132.toInt ≤ 44 := add_r bv132 k32 ⟨Int.le_refl _, Int.le_refl _⟩ (by decide)
              refine lv_iinc (v := v132) (lv' := [(3, .int v132), (2, .int v108), (4, .int v36), (0, .ref h0), (1, .int p0)]) hx hb dX10_isSaid_206 hl (k := 2) rfl (by rw [ev132]; rfl) (by decide) rfl (fun ls hl => ?_)
              refine lv_goto (tgt := 4) hx hb dX10_isSaid_209 (by decide) ?_
              exact ih (v132, v108, G3, u4, u5, u6, u7, u8, w9, w10, g130) ⟨(ir_wk k133 (by decide) (by decide)), (show (-1) ≤ v108.toInt ∧ v108.toInt ≤ 45 from ⟨by omega, by omega⟩), (SAME.tr SAME.rf i14 (by decide)), i15, i16, i17, i18, i19, i20, i21, r131, (show (v108.toInt : Int) = dep f_s 154 (v132.toInt : Int).toNat from (by rw [bv132]; omega)), (by show 0 ≤ v108.toInt; omega)⟩ (by show (44 - v132.toInt).toNat < (44 - u1.toInt).toNat; omega) _ _ _ hP hD hS (lv_sub hl [0, 1, 3, 4] rfl)
    · have dc42 : v38.toInt = 20 := eq_i (a := v38.toInt) (b := 20) rfl rfl c42
      have k134 : 20 ≤ v38.toInt ∧ v38.toInt ≤ 20 := ⟨Int.le_trans (Int.le_refl _) (Int.le_of_eq dc42.symm), Int.le_trans (Int.le_of_eq dc42) (Int.le_refl _)⟩
      refine lv_aload_n hx hb dX10_isSaid_37 rfl (lv_at hl 3 rfl) ?_
      have n135 : G3 63 = .ref h_truths := (SAME.at i14 (by decide) e_truths)
      refine get_f (D := D) (ci := 10) (v := .ref h_truths) (C := RX10) (T := TX10) (N := 67) hx hb hw inAX10 hown hK hP 0 rfl rfl 63 (by decide) (hw _ q_1324) (fun _ h9 => h9) n135 dX10_isSaid_38 ?_
      refine lv_iload_n hx hb dX10_isSaid_41 rfl (lv_at hl 2 rfl) ?_
      refine lv_iconst (v := 1) hx hb dX10_isSaid_42 (by decide) ?_
      refine lv_isub hx hb dX10_isSaid_43 ?_
      refine lv_topi (fun v136 ev136 => ?_)
      have bv136 : v136.toInt = u2.toInt - 1 := by rw [ev136]; exact sub_k rfl rfl i13 ⟨Int.le_refl _, Int.le_refl _⟩ (by decide)
      have k137 : (-2) ≤ v136.toInt ∧ v136.toInt ≤ 44 := sub_r bv136 i13 ⟨Int.le_refl _, Int.le_refl _⟩ (by decide)
      refine lv_aload_n hx hb dX10_isSaid_44 rfl (lv_at hl 3 rfl) ?_
      refine get_f (D := D) (ci := 10) (v := .ref h_truths) (C := RX10) (T := TX10) (N := 67) hx hb hw inAX10 hown hK hP 0 rfl rfl 63 (by decide) (hw _ q_1324) (fun _ h9 => h9) n135 dX10_isSaid_45 ?_
      refine lv_iload_n hx hb dX10_isSaid_48 rfl (lv_at hl 2 rfl) ?_
      refine lv_iconst (v := 1) hx hb dX10_isSaid_49 (by decide) ?_
      refine lv_isub hx hb dX10_isSaid_50 ?_
      refine lv_ci (y := v136) ev136.symm ?_
      refine va_zald hx hb hK hP 4 5 rfl rfl (ix_i (by omega) (by omega)) dX10_isSaid_51 ?_
      refine lv_topi (fun v138 ev138 => ?_)
      have r139 : IMP (0 ≤ v136.toInt → v136.toInt ≤ 44 → 0 ≤ v138.toInt ∧ v138.toInt ≤ 1) := IMP.mk (fun q1 q2 => by rw [ev138]; exact i22.at _ q1 q2)
      refine lv_if_ne (tgt := 59) hx hb dX10_isSaid_52 (by decide) (fun c140 => ?_) (fun c140 => ?_)
      · have dc140 : v138.toInt ≠ 0 := ne_i (a := v138.toInt) (b := 0) rfl rfl c140
        refine lv_iconst (v := 0) hx hb dX10_isSaid_59 (by decide) ?_
        obtain ⟨g141, eg141⟩ : ∃ z : Nat → Int32, upd w11 v136.toNatClampNeg (vp_nar .boolean 0) = z := ⟨_, rfl⟩
        have r142 : SG 0 44 0 1 g141 := by rw [← eg141, zn_k (show 0 ≤ (0 : Int32).toInt ∧ (0 : Int32).toInt ≤ 1 by decide)]; exact i22.up (by omega) (Or.inr (Or.inr ⟨by decide, by decide⟩))
        refine zast_g hx hb hK hP hD hS 4 5 rfl rfl (ix_i (by omega) (by omega)) eg141 dX10_isSaid_60 (fun H locs hP hD hS => ?_)
        have hP : va_P D vwCl [(h0, .inr (10, vL 67 G3)), (h_s, .inl (cI, 335, .inl f_s)), (h_paceAt, .inl (cI, 40, .inl w9)), (h_kindOf, .inl (cI, 4, .inl w10)), (h_truths, .inl (cZ, 45, .inl g141))] H := hP
        have hD : va_D A [(h0, .inr (10, vL 67 G3)), (h_s, .inl (cI, 335, .inl f_s)), (h_paceAt, .inl (cI, 40, .inl w9)), (h_kindOf, .inl (cI, 4, .inl w10)), (h_truths, .inl (cZ, 45, .inl g141))] := hD
        refine lv_goto (tgt := 206) hx hb dX10_isSaid_61 (by decide) ?_
        obtain ⟨v143, ev143⟩ : ∃ z : Int32, z = u1 + 1 := ⟨_, rfl⟩
        have bv143 : v143.toInt = u1.toInt + 1 := by rw [ev143]; exact add_k rfl rfl k32 ⟨Int.le_refl _, Int.le_refl _⟩ (by decide)
        have k144 : 1 ≤ v143.toInt ∧ v143.toInt ≤ 44 := add_r bv143 k32 ⟨Int.le_refl _, Int.le_refl _⟩ (by decide)
        refine lv_iinc (v := v143) (lv' := [(3, .int v143), (4, .int v36), (2, .int u2), (0, .ref h0), (1, .int p0)]) hx hb dX10_isSaid_206 hl (k := 1) rfl (by rw [ev143]; rfl) (by decide) rfl (fun ls hl => ?_)
        refine lv_goto (tgt := 4) hx hb dX10_isSaid_209 (by decide) ?_
        exact ih (v143, u2, G3, u4, u5, u6, u7, u8, w9, w10, g141) ⟨(ir_wk k144 (by decide) (by decide)), i13, (SAME.tr SAME.rf i14 (by decide)), i15, i16, i17, i18, i19, i20, i21, r142, (show (u2.toInt : Int) = dep f_s 154 (v143.toInt : Int).toNat from (by rw [bv143]; omega)), (by show 0 ≤ u2.toInt; omega)⟩ (by show (44 - v143.toInt).toNat < (44 - u1.toInt).toNat; omega) _ _ _ hP hD hS (lv_sub hl [0, 2, 3, 4] rfl)
      · have dc140 : v138.toInt = 0 := eq_i (a := v138.toInt) (b := 0) rfl rfl c140
        have k145 : 0 ≤ v138.toInt ∧ v138.toInt ≤ 0 := ⟨Int.le_trans (Int.le_refl _) (Int.le_of_eq dc140.symm), Int.le_trans (Int.le_of_eq dc140) (Int.le_refl _)⟩
        refine lv_iconst (v := 1) hx hb dX10_isSaid_55 (by decide) ?_
        refine lv_goto (tgt := 60) hx hb dX10_isSaid_56 (by decide) ?_
        obtain ⟨g146, eg146⟩ : ∃ z : Nat → Int32, upd w11 v136.toNatClampNeg (vp_nar .boolean 1) = z := ⟨_, rfl⟩
        have r147 : SG 0 44 0 1 g146 := by rw [← eg146, zn_k (show 0 ≤ (1 : Int32).toInt ∧ (1 : Int32).toInt ≤ 1 by decide)]; exact i22.up (by omega) (Or.inr (Or.inr ⟨by decide, by decide⟩))
        refine zast_g hx hb hK hP hD hS 4 5 rfl rfl (ix_i (by omega) (by omega)) eg146 dX10_isSaid_60 (fun H locs hP hD hS => ?_)
        have hP : va_P D vwCl [(h0, .inr (10, vL 67 G3)), (h_s, .inl (cI, 335, .inl f_s)), (h_paceAt, .inl (cI, 40, .inl w9)), (h_kindOf, .inl (cI, 4, .inl w10)), (h_truths, .inl (cZ, 45, .inl g146))] H := hP
        have hD : va_D A [(h0, .inr (10, vL 67 G3)), (h_s, .inl (cI, 335, .inl f_s)), (h_paceAt, .inl (cI, 40, .inl w9)), (h_kindOf, .inl (cI, 4, .inl w10)), (h_truths, .inl (cZ, 45, .inl g146))] := hD
        refine lv_goto (tgt := 206) hx hb dX10_isSaid_61 (by decide) ?_
        obtain ⟨v148, ev148⟩ : ∃ z : Int32, z = u1 + 1 := ⟨_, rfl⟩
        have bv148 : v148.toInt = u1.toInt + 1 := by rw [ev148]; exact add_k rfl rfl k32 ⟨Int.le_refl _, Int.le_refl _⟩ (by decide)
        have k149 : 1 ≤ v148.toInt ∧ v148.toInt ≤ 44 := add_r bv148 k32 ⟨Int.le_refl _, Int.le_refl _⟩ (by decide)
        refine lv_iinc (v := v148) (lv' := [(3, .int v148), (4, .int v36), (2, .int u2), (0, .ref h0), (1, .int p0)]) hx hb dX10_isSaid_206 hl (k := 1) rfl (by rw [ev148]; rfl) (by decide) rfl (fun ls hl => ?_)
        refine lv_goto (tgt := 4) hx hb dX10_isSaid_209 (by decide) ?_
        exact ih (v148, u2, G3, u4, u5, u6, u7, u8, w9, w10, g146) ⟨(ir_wk k149 (by decide) (by decide)), i13, (SAME.tr SAME.rf i14 (by decide)), i15, i16, i17, i18, i19, i20, i21, r147, (show (u2.toInt : Int) = dep f_s 154 (v148.toInt : Int).toNat from (by rw [bv148]; omega)), (by show 0 ≤ u2.toInt; omega)⟩ (by show (44 - v148.toInt).toNat < (44 - u1.toInt).toNat; omega) _ _ _ hP hD hS (lv_sub hl [0, 2, 3, 4] rfl)
set_option maxHeartbeats 4000000 in
set_option maxRecDepth 100000 in
theorem m_X10_said (l : Launch) (D : va_G) (cI cJ cB cP cM cZ : ClassId) (h0 : Nat) (h_s : Nat) (h_paceAt : Nat) (h_kindOf : Nat) (h_truths : Nat) (Fh : Nat → Value) (x_lineTime : Int32) (x_linePace : Int32) (x_inside : Int32) (x_late : Int32) (x_seed : Int32) (x_kicks : Int32) (f_s : Nat → Int32) (f_paceAt : Nat → Int32) (f_kindOf : Nat → Int32) (f_truths : Nat → Int32) (p0 : Int32) (sz : Nat) (e_s : Fh 6 = .ref h_s) (e_paceAt : Fh 25 = .ref h_paceAt) (e_kindOf : Fh 26 = .ref h_kindOf) (e_lineTime : Fh 27 = .int x_lineTime) (e_linePace : Fh 28 = .int x_linePace) (e_inside : Fh 29 = .int x_inside) (i_x_inside : IR 0 15 x_inside) (e_late : Fh 30 = .int x_late) (i_x_late : IR 0 15 x_late) (e_seed : Fh 31 = .int x_seed) (e_kicks : Fh 32 = .int x_kicks) (i_x_kicks : IR 0 1 x_kicks) (e_truths : Fh 63 = .ref h_truths) (s_s_K0 : KW 0 f_s) (s_s_0 : SG 0 0 0 40 f_s) (s_s_105 : SG 105 108 0 11 f_s) (s_s_114 : SG 114 114 0 5 f_s) (s_s_130 : SG 130 133 0 11 f_s) (s_s_139 : SG 139 139 0 5 f_s) (s_s_153 : SG 153 153 0 44 f_s) (s_s_44 : SG 44 55 0 9 f_s) (s_s_5 : SG 5 5 0 12 f_s) (s_s_6 : SG 6 6 0 12 f_s) (s_s_7 : SG 7 7 0 6 f_s) (s_truths_0 : SG 0 44 0 1 f_truths) : CI l yX10_said cX10_said 4 (some .int) { frames := 6, cells := 0, slots := 0, locals := 144 } (GG D cI cJ cB cP cM cZ) D [(h0, .inr (10, vL 67 Fh)), (h_s, .inl (cI, 335, .inl f_s)), (h_paceAt, .inl (cI, 40, .inl f_paceAt)), (h_kindOf, .inl (cI, 4, .inl f_kindOf)), (h_truths, .inl (cZ, 45, .inl f_truths))] sz [.ref h0, .int p0] (fun (r : Int32) (u : va_W) => ∃ (Gh : Nat → Value) (y_lineTime : Int32) (y_linePace : Int32) (y_inside : Int32) (y_late : Int32) (y_seed : Int32) (g_paceAt : Nat → Int32) (g_kindOf : Nat → Int32) (g_truths : Nat → Int32), SAME [0, 27, 28, 29, 30, 31] Fh Gh ∧ Gh 0 = .int 0 ∧ Gh 27 = .int y_lineTime ∧ Gh 28 = .int y_linePace ∧ Gh 29 = .int y_inside ∧ IR 0 15 y_inside ∧ Gh 30 = .int y_late ∧ IR 0 15 y_late ∧ Gh 31 = .int y_seed ∧ SG 0 44 0 1 g_truths ∧ u = [(h0, .inr (10, vL 67 Gh)), (h_s, .inl (cI, 335, .inl f_s)), (h_paceAt, .inl (cI, 40, .inl g_paceAt)), (h_kindOf, .inl (cI, 4, .inl g_kindOf)), (h_truths, .inl (cZ, 45, .inl g_truths))]) := by
  refine CI_mk (by decide) (Nat.le_of_ble_eq_true rfl) ?_
  intro p e s m below meth c A ls E hAe hG hsz hP hD hA hS hl
  obtain ⟨hx, hb, hr, hw, hown, hlocks, hml, hnm⟩ := E
  have hK := hG.1
  have i_x_inside : 0 ≤ x_inside.toInt ∧ x_inside.toInt ≤ 15 := i_x_inside
  have i_x_late : 0 ≤ x_late.toInt ∧ x_late.toInt ≤ 15 := i_x_late
  have i_x_kicks : 0 ≤ x_kicks.toInt ∧ x_kicks.toInt ≤ 1 := i_x_kicks
  have hl : lv_has ls 4 [(0, .ref h0), (1, .int p0)] := hl
  refine lv_aload_n hx hb dX10_said_0 rfl (lv_at hl 0 rfl) ?_
  refine lv_iconst (v := 0) hx hb dX10_said_1 (by decide) ?_
  refine put_f (D := D) (ci := 10) (v := .int 0) (ty := .int) (C := RX10) (T := TX10) (N := 67) hx hb hw inAX10 tyX10 tyX10_ok nmX10 hown hK hP hD hS 0 rfl rfl 0 (by decide) (hw _ q_1261) (fun _ h9 => h9) rfl (by decide +kernel) rfl rfl dX10_said_2 (fun H locs F1 eF1 hP hD hS => ?_)
  have hP : va_P D vwCl [(h0, .inr (10, vL 67 F1)), (h_s, .inl (cI, 335, .inl f_s)), (h_paceAt, .inl (cI, 40, .inl f_paceAt)), (h_kindOf, .inl (cI, 4, .inl f_kindOf)), (h_truths, .inl (cZ, 45, .inl f_truths))] H := hP
  have hD : va_D A [(h0, .inr (10, vL 67 F1)), (h_s, .inl (cI, 335, .inl f_s)), (h_paceAt, .inl (cI, 40, .inl f_paceAt)), (h_kindOf, .inl (cI, 4, .inl f_kindOf)), (h_truths, .inl (cZ, 45, .inl f_truths))] := hD
  refine lv_aload_n hx hb dX10_said_5 rfl (lv_at hl 0 rfl) ?_
  have n2 : F1 6 = .ref h_s := (get_ne eF1 (by decide) e_s)
  refine get_f (D := D) (ci := 10) (v := .ref h_s) (C := RX10) (T := TX10) (N := 67) hx hb hw inAX10 hown hK hP 0 rfl rfl 6 (by decide) (hw _ q_1267) (fun _ h9 => h9) n2 dX10_said_6 ?_
  refine lv_sipush (v := 153) hx hb dX10_said_9 (by decide) ?_
  refine iald_n hx hb hK hP 1 0 rfl rfl 153 rfl (Nat.le_of_ble_eq_true rfl) (Nat.le_of_ble_eq_true rfl) rfl dX10_said_12 ?_
  refine lv_topi (fun v3 ev3 => ?_)
  have k4 : 0 ≤ v3.toInt ∧ v3.toInt ≤ 44 := by rw [ev3]; exact s_s_153.atN 153 (by decide) (by decide)
  refine lv_if_eq (tgt := 21) hx hb dX10_said_13 (by decide) (fun c5 => ?_) (fun c5 => ?_)
  · have dc5 : v3.toInt = 0 := eq_i (a := v3.toInt) (b := 0) rfl rfl c5
    have k6 : 0 ≤ v3.toInt ∧ v3.toInt ≤ 0 := ⟨k4.1, Int.le_trans (Int.le_of_eq dc5) (Int.le_refl _)⟩
    refine lv_iconst (v := (-1)) hx hb dX10_said_21 (by decide) ?_
    exact ret_i (v := (-1)) hx hb hr hlocks hS hP hD dX10_said_22 rfl (Nat.le_of_ble_eq_true rfl) (Nat.le_of_ble_eq_true rfl) ⟨F1, x_lineTime, x_linePace, x_inside, x_late, x_seed, f_paceAt, f_kindOf, f_truths, (SAME.up eF1 SAME.rf (by decide)), (get_eq eF1), (get_ne eF1 (by decide) e_lineTime), (get_ne eF1 (by decide) e_linePace), (get_ne eF1 (by decide) e_inside), i_x_inside, (get_ne eF1 (by decide) e_late), i_x_late, (get_ne eF1 (by decide) e_seed), s_truths_0, rfl⟩
  · have dc5 : v3.toInt ≠ 0 := ne_i (a := v3.toInt) (b := 0) rfl rfl c5
    have k7 : 1 ≤ v3.toInt ∧ v3.toInt ≤ 44 := ⟨ne_lo dc5 k4.1 ⟨Int.le_refl _, Int.le_refl _⟩ (by decide), k4.2⟩
    refine lv_iload_n hx hb dX10_said_16 rfl (lv_at hl 1 rfl) ?_
    refine lv_iconst (v := (-1)) hx hb dX10_said_17 (by decide) ?_
    refine lv_icmp_ge (tgt := 23) hx hb dX10_said_18 (by decide) (fun c8 => ?_) (fun c8 => ?_)
    · have dc8 : (-1) ≤ p0.toInt := le_i (a := (-1)) (b := p0.toInt) rfl rfl c8
      have k9 : (-1) ≤ p0.toInt ∧ p0.toInt ≤ 2147483647 := ⟨Int.le_trans (Int.le_refl _) dc8, (ir_any _).2⟩
      refine lv_iconst (v := 0) hx hb dX10_said_23 (by decide) ?_
      refine lv_istore_n (lv' := [(2, .int 0), (0, .ref h0), (1, .int p0)]) hx hb dX10_said_24 rfl hl (by decide) rfl (fun ls hl => ?_)
      refine lv_iconst (v := 0) hx hb dX10_said_25 (by decide) ?_
      refine lv_istore_n (lv' := [(3, .int 0), (2, .int 0), (0, .ref h0), (1, .int p0)]) hx hb dX10_said_26 rfl hl (by decide) rfl (fun ls hl => ?_)
      have n21 : F1 27 = .int x_lineTime := (get_ne eF1 (by decide) e_lineTime)
      have n22 : F1 28 = .int x_linePace := (get_ne eF1 (by decide) e_linePace)
      have n23 : F1 29 = .int x_inside := (get_ne eF1 (by decide) e_inside)
      have n24 : F1 30 = .int x_late := (get_ne eF1 (by decide) e_late)
      have n25 : F1 31 = .int x_seed := (get_ne eF1 (by decide) e_seed)
      refine mloop (α := (Int32) × (Int32) × (Nat → Value) × (Int32) × (Int32) × (Int32) × (Int32) × (Int32) × (Nat → Int32) × (Nat → Int32) × (Nat → Int32)) (nL := 4) (D := D) (A := A) (H0 := s.heap) (fun a => (12 - a.1.toInt).toNat) (fun a => IR 0 12 a.1 ∧ SAME [27, 28, 29, 30, 31] F1 a.2.2.1 ∧ a.2.2.1 27 = .int a.2.2.2.1 ∧ a.2.2.1 28 = .int a.2.2.2.2.1 ∧ a.2.2.1 29 = .int a.2.2.2.2.2.1 ∧ a.2.2.1 30 = .int a.2.2.2.2.2.2.1 ∧ a.2.2.1 31 = .int a.2.2.2.2.2.2.2.1 ∧ IR 0 15 a.2.2.2.2.2.1 ∧ IR 0 15 a.2.2.2.2.2.2.1 ∧ SG 0 44 0 1 a.2.2.2.2.2.2.2.2.2.2) (fun a => [(h0, .inr (10, vL 67 a.2.2.1)), (h_s, .inl (cI, 335, .inl f_s)), (h_paceAt, .inl (cI, 40, .inl a.2.2.2.2.2.2.2.2.1)), (h_kindOf, .inl (cI, 4, .inl a.2.2.2.2.2.2.2.2.2.1)), (h_truths, .inl (cZ, 45, .inl a.2.2.2.2.2.2.2.2.2.2))]) (fun a => [(3, .int a.1), (2, .int a.2.1), (0, .ref h0), (1, .int p0)]) (fun H locs ls => W p l e ({ frames := 6, cells := 0, slots := 0, locals := 144 } : Room) s m [.ref h0, .int p0].toArray below meth c H locs 0 0 (MQ below (va_Qi (fun (r : Int32) (u : va_W) => ∃ (Gh : Nat → Value) (y_lineTime : Int32) (y_linePace : Int32) (y_inside : Int32) (y_late : Int32) (y_seed : Int32) (g_paceAt : Nat → Int32) (g_kindOf : Nat → Int32) (g_truths : Nat → Int32), SAME [0, 27, 28, 29, 30, 31] Fh Gh ∧ Gh 0 = .int 0 ∧ Gh 27 = .int y_lineTime ∧ Gh 28 = .int y_linePace ∧ Gh 29 = .int y_inside ∧ IR 0 15 y_inside ∧ Gh 30 = .int y_late ∧ IR 0 15 y_late ∧ Gh 31 = .int y_seed ∧ SG 0 44 0 1 g_truths ∧ u = [(h0, .inr (10, vL 67 Gh)), (h_s, .inl (cI, 335, .inl f_s)), (h_paceAt, .inl (cI, 40, .inl g_paceAt)), (h_kindOf, .inl (cI, 4, .inl g_kindOf)), (h_truths, .inl (cZ, 45, .inl g_truths))]) (PO D A) A) [.ref h0, .int p0].toArray s 0 0 A) (F0 m 27 ls [])) ?_ (0, 0, F1, x_lineTime, x_linePace, x_inside, x_late, x_seed, f_paceAt, f_kindOf, f_truths) ⟨(show 0 ≤ (0 : Int32).toInt ∧ (0 : Int32).toInt ≤ 12 by decide), SAME.rf, n21, n22, n23, n24, n25, i_x_inside, i_x_late, s_truths_0⟩ _ _ _ hP hD hS hl
      rintro ⟨u10, u11, G12, u13, u14, u15, u16, u17, w18, w19, w20⟩ ⟨i26, i27, i28, i29, i30, i31, i32, i33, i34, i35⟩ ih H locs ls hP hD hS hl
      have i26 : 0 ≤ u10.toInt ∧ u10.toInt ≤ 12 := i26
      have i33 : 0 ≤ u15.toInt ∧ u15.toInt ≤ 15 := i33
      have i34 : 0 ≤ u16.toInt ∧ u16.toInt ≤ 15 := i34
      have hP : va_P D vwCl [(h0, .inr (10, vL 67 G12)), (h_s, .inl (cI, 335, .inl f_s)), (h_paceAt, .inl (cI, 40, .inl w18)), (h_kindOf, .inl (cI, 4, .inl w19)), (h_truths, .inl (cZ, 45, .inl w20))] H := hP
      have hD : va_D A [(h0, .inr (10, vL 67 G12)), (h_s, .inl (cI, 335, .inl f_s)), (h_paceAt, .inl (cI, 40, .inl w18)), (h_kindOf, .inl (cI, 4, .inl w19)), (h_truths, .inl (cZ, 45, .inl w20))] := hD
      have hl : lv_has ls 4 [(3, .int u10), (2, .int u11), (0, .ref h0), (1, .int p0)] := hl
      refine lv_iload_n hx hb dX10_said_27 rfl (lv_at hl 0 rfl) ?_
      refine lv_aload_n hx hb dX10_said_28 rfl (lv_at hl 2 rfl) ?_
      have n36 : G12 6 = .ref h_s := (SAME.at i27 (by decide) n2)
      refine get_f (D := D) (ci := 10) (v := .ref h_s) (C := RX10) (T := TX10) (N := 67) hx hb hw inAX10 hown hK hP 0 rfl rfl 6 (by decide) (hw _ q_1267) (fun _ h9 => h9) n36 dX10_said_29 ?_
      refine lv_iconst (v := 5) hx hb dX10_said_32 (by decide) ?_
      refine iald_n hx hb hK hP 1 0 rfl rfl 5 rfl (Nat.le_of_ble_eq_true rfl) (Nat.le_of_ble_eq_true rfl) rfl dX10_said_33 ?_
      refine lv_topi (fun v37 ev37 => ?_)
      have k38 : 0 ≤ v37.toInt ∧ v37.toInt ≤ 12 := by rw [ev37]; exact s_s_5.atN 5 (by decide) (by decide)
      refine lv_icmp_ge (tgt := 64) hx hb dX10_said_34 (by decide) (fun c39 => ?_) (fun c39 => ?_)
      · have dc39 : v37.toInt ≤ u10.toInt := le_i (a := v37.toInt) (b := u10.toInt) rfl rfl c39
        refine lv_iload_n hx hb dX10_said_64 rfl (lv_at hl 3 rfl) ?_
        refine lv_iconst (v := (-1)) hx hb dX10_said_65 (by decide) ?_
        refine lv_icmp_ne (tgt := 73) hx hb dX10_said_66 (by decide) (fun c40 => ?_) (fun c40 => ?_)
        · have dc40 : p0.toInt ≠ (-1) := ne_i (a := p0.toInt) (b := (-1)) rfl rfl c40
          have k41 : 0 ≤ p0.toInt ∧ p0.toInt ≤ 2147483647 := ⟨ne_lo dc40 k9.1 ⟨Int.le_refl _, Int.le_refl _⟩ (by decide), k9.2⟩
          refine lv_iconst (v := (-1)) hx hb dX10_said_73 (by decide) ?_
          exact ret_i (v := (-1)) hx hb hr hlocks hS hP hD dX10_said_74 rfl (Nat.le_of_ble_eq_true rfl) (Nat.le_of_ble_eq_true rfl) ⟨G12, u13, u14, u15, u16, u17, w18, w19, w20, (SAME.tr (SAME.up eF1 SAME.rf (by decide)) i27 (by decide)), (SAME.at i27 (by decide) (get_eq eF1)), i28, i29, i30, i33, i31, i34, i32, i35, rfl⟩
        · have dc40 : p0.toInt = (-1) := eq_i (a := p0.toInt) (b := (-1)) rfl rfl c40
          have k42 : (-1) ≤ p0.toInt ∧ p0.toInt ≤ (-1) := ⟨k9.1, Int.le_trans (Int.le_of_eq dc40) (Int.le_refl _)⟩
          refine lv_iload_n hx hb dX10_said_69 rfl (lv_at hl 1 rfl) ?_
          refine lv_goto (tgt := 74) hx hb dX10_said_70 (by decide) ?_
          exact ret_i (v := u11) hx hb hr hlocks hS hP hD dX10_said_74 rfl (Nat.le_of_ble_eq_true rfl) (Nat.le_of_ble_eq_true rfl) ⟨G12, u13, u14, u15, u16, u17, w18, w19, w20, (SAME.tr (SAME.up eF1 SAME.rf (by decide)) i27 (by decide)), (SAME.at i27 (by decide) (get_eq eF1)), i28, i29, i30, i33, i31, i34, i32, i35, rfl⟩
      · have dc39 : u10.toInt < v37.toInt := nle_i (a := v37.toInt) (b := u10.toInt) rfl rfl c39
        have k43 : 0 ≤ u10.toInt ∧ u10.toInt ≤ 11 := ⟨i26.1, up_lt dc39 k38.2 (by decide)⟩
        have k44 : 1 ≤ v37.toInt ∧ v37.toInt ≤ 12 := ⟨lo_lt dc39 i26.1 (by decide), k38.2⟩
        refine lv_aload_n hx hb dX10_said_37 rfl (lv_at hl 2 rfl) ?_
        refine lv_iload_n hx hb dX10_said_38 rfl (lv_at hl 0 rfl) ?_
        have n45 : F1 25 = .ref h_paceAt := (get_ne eF1 (by decide) e_paceAt)
        have n46 : G12 25 = .ref h_paceAt := (SAME.at i27 (by decide) n45)
        have n47 : F1 26 = .ref h_kindOf := (get_ne eF1 (by decide) e_kindOf)
        have n48 : G12 26 = .ref h_kindOf := (SAME.at i27 (by decide) n47)
        have n49 : F1 32 = .int x_kicks := (get_ne eF1 (by decide) e_kicks)
        have n50 : G12 32 = .int x_kicks := (SAME.at i27 (by decide) n49)
        have n51 : F1 63 = .ref h_truths := (get_ne eF1 (by decide) e_truths)
        have n52 : G12 63 = .ref h_truths := (SAME.at i27 (by decide) n51)
        refine call_Vi (wr := []) (As := [.int u10]) (rest := []) hx hb hml hown hw (m_X10_isSaid l D cI cJ cB cP cM cZ h0 h_s h_paceAt h_kindOf h_truths G12 u13 u14 u15 u16 u17 x_kicks f_s w18 w19 w20 u10 _ n36 n46 n48 i28 i29 i30 i33 i31 i34 i32 n50 i_x_kicks n52 s_s_K0 s_s_0 s_s_105 s_s_114 s_s_130 s_s_139 s_s_153 s_s_44 s_s_5 s_s_6 s_s_7 i35 k43) wV_X10_478_X10_isSaid dX10_said_39 hK hP hD hS hA [0, 1, 2, 3, 4] [] rfl rfl (by decide) (by decide) (by decide) 0 10 rfl rfl GG.fb hG.at hl.1 rfl (Nat.le_of_ble_eq_true rfl) ⟨(Nat.le_of_ble_eq_true rfl), (Nat.le_of_ble_eq_true rfl)⟩ ⟨(Nat.le_of_ble_eq_true rfl), (Nat.le_of_ble_eq_true rfl)⟩ (fun r53 u H locs hp hP hD hS => ?_)
        obtain ⟨F54, y55, y56, y57, y58, y59, g60, g61, g62, t63, t64, t65, t66, t67, t68, t69, t70, t71, t72, rfl⟩ := hp
        have hP : va_P D vwCl [(h0, .inr (10, vL 67 F54)), (h_s, .inl (cI, 335, .inl f_s)), (h_paceAt, .inl (cI, 40, .inl g60)), (h_kindOf, .inl (cI, 4, .inl g61)), (h_truths, .inl (cZ, 45, .inl g62))] H := hP
        have hD : va_D A [(h0, .inr (10, vL 67 F54)), (h_s, .inl (cI, 335, .inl f_s)), (h_paceAt, .inl (cI, 40, .inl g60)), (h_kindOf, .inl (cI, 4, .inl g61)), (h_truths, .inl (cZ, 45, .inl g62))] := hD
        refine W.widen (k := 0) (n := 0) (Nat.le_of_ble_eq_true rfl) (Nat.le_of_ble_eq_true rfl) ?_
        refine lv_if_ne (tgt := 48) hx hb dX10_said_42 (by decide) (fun c74 => ?_) (fun c74 => ?_)
        · have dc74 : r53.toInt ≠ 0 := ne_i (a := r53.toInt) (b := 0) rfl rfl c74
          have k75 : 1 ≤ r53.toInt ∧ r53.toInt ≤ 1 := ⟨ne_lo dc74 t72.1 ⟨Int.le_refl _, Int.le_refl _⟩ (by decide), t72.2⟩
          refine lv_iload_n hx hb dX10_said_48 rfl (lv_at hl 1 rfl) ?_
          refine lv_iload_n hx hb dX10_said_49 rfl (lv_at hl 3 rfl) ?_
          refine lv_icmp_ne (tgt := 55) hx hb dX10_said_50 (by decide) (fun c76 => ?_) (fun c76 => ?_)
          · have dc76 : u11.toInt ≠ p0.toInt := ne_i (a := u11.toInt) (b := p0.toInt) rfl rfl c76
            obtain ⟨v77, ev77⟩ : ∃ z : Int32, z = u11 + 1 := ⟨_, rfl⟩
            refine lv_iinc (v := v77) (lv' := [(2, .int v77), (3, .int u10), (0, .ref h0), (1, .int p0)]) hx hb dX10_said_55 hl (k := 1) rfl (by rw [ev77]; rfl) (by decide) rfl (fun ls hl => ?_)
            obtain ⟨v78, ev78⟩ : ∃ z : Int32, z = u10 + 1 := ⟨_, rfl⟩
            have bv78 : v78.toInt = u10.toInt + 1 := by rw [ev78]; exact add_k rfl rfl k43 ⟨Int.le_refl _, Int.le_refl _⟩ (by decide)
            have k79 : 1 ≤ v78.toInt ∧ v78.toInt ≤ 12 := add_r bv78 k43 ⟨Int.le_refl _, Int.le_refl _⟩ (by decide)
            refine lv_iinc (v := v78) (lv' := [(3, .int v78), (2, .int v77), (0, .ref h0), (1, .int p0)]) hx hb dX10_said_58 hl (k := 1) rfl (by rw [ev78]; rfl) (by decide) rfl (fun ls hl => ?_)
            refine lv_goto (tgt := 27) hx hb dX10_said_61 (by decide) ?_
            exact ih (v78, v77, F54, y55, y56, y57, y58, y59, g60, g61, g62) ⟨(ir_wk k79 (by decide) (by decide)), (SAME.tr (SAME.tr SAME.rf i27 (by decide)) t63 (by decide)), t64, t65, t66, t68, t70, t67, t69, t71⟩ (by show (12 - v78.toInt).toNat < (12 - u10.toInt).toNat; omega) _ _ _ hP hD hS (lv_sub hl [0, 1, 2, 3] rfl)
          · have dc76 : u11.toInt = p0.toInt := eq_i (a := u11.toInt) (b := p0.toInt) rfl rfl c76
            have k80 : (-1) ≤ u11.toInt ∧ u11.toInt ≤ 2147483647 := ⟨Int.le_trans k9.1 (Int.le_of_eq dc76.symm), (ir_any _).2⟩
            refine lv_iload_n hx hb dX10_said_53 rfl (lv_at hl 0 rfl) ?_
            exact ret_i (v := u10) hx hb hr hlocks hS hP hD dX10_said_54 rfl (Nat.le_of_ble_eq_true rfl) (Nat.le_of_ble_eq_true rfl) ⟨F54, y55, y56, y57, y58, y59, g60, g61, g62, (SAME.tr (SAME.tr (SAME.up eF1 SAME.rf (by decide)) i27 (by decide)) t63 (by decide)), (SAME.at t63 (by decide) (SAME.at i27 (by decide) (get_eq eF1))), t64, t65, t66, t67, t68, t69, t70, t71, rfl⟩
        · have dc74 : r53.toInt = 0 := eq_i (a := r53.toInt) (b := 0) rfl rfl c74
          have k81 : 0 ≤ r53.toInt ∧ r53.toInt ≤ 0 := ⟨t72.1, Int.le_trans (Int.le_of_eq dc74) (Int.le_refl _)⟩
          refine lv_goto (tgt := 58) hx hb dX10_said_45 (by decide) ?_
          obtain ⟨v82, ev82⟩ : ∃ z : Int32, z = u10 + 1 := ⟨_, rfl⟩
          have bv82 : v82.toInt = u10.toInt + 1 := by rw [ev82]; exact add_k rfl rfl k43 ⟨Int.le_refl _, Int.le_refl _⟩ (by decide)
          have k83 : 1 ≤ v82.toInt ∧ v82.toInt ≤ 12 := add_r bv82 k43 ⟨Int.le_refl _, Int.le_refl _⟩ (by decide)
          refine lv_iinc (v := v82) (lv' := [(3, .int v82), (2, .int u11), (0, .ref h0), (1, .int p0)]) hx hb dX10_said_58 hl (k := 0) rfl (by rw [ev82]; rfl) (by decide) rfl (fun ls hl => ?_)
          refine lv_goto (tgt := 27) hx hb dX10_said_61 (by decide) ?_
          exact ih (v82, u11, F54, y55, y56, y57, y58, y59, g60, g61, g62) ⟨(ir_wk k83 (by decide) (by decide)), (SAME.tr (SAME.tr SAME.rf i27 (by decide)) t63 (by decide)), t64, t65, t66, t68, t70, t67, t69, t71⟩ (by show (12 - v82.toInt).toNat < (12 - u10.toInt).toNat; omega) _ _ _ hP hD hS (lv_sub hl [0, 1, 2, 3] rfl)
    · have dc8 : p0.toInt < (-1) := nle_i (a := (-1)) (b := p0.toInt) rfl rfl c8
      have k84 : (-2147483648) ≤ p0.toInt ∧ p0.toInt ≤ (-2) := ⟨(ir_any _).1, up_lt dc8 (Int.le_refl _) (by decide)⟩
      refine lv_iconst (v := (-1)) hx hb dX10_said_21 (by decide) ?_
      exact ret_i (v := (-1)) hx hb hr hlocks hS hP hD dX10_said_22 rfl (Nat.le_of_ble_eq_true rfl) (Nat.le_of_ble_eq_true rfl) ⟨F1, x_lineTime, x_linePace, x_inside, x_late, x_seed, f_paceAt, f_kindOf, f_truths, (SAME.up eF1 SAME.rf (by decide)), (get_eq eF1), (get_ne eF1 (by decide) e_lineTime), (get_ne eF1 (by decide) e_linePace), (get_ne eF1 (by decide) e_inside), i_x_inside, (get_ne eF1 (by decide) e_late), i_x_late, (get_ne eF1 (by decide) e_seed), s_truths_0, rfl⟩
set_option maxHeartbeats 4000000 in
set_option maxRecDepth 100000 in
theorem m_X10_image (l : Launch) (D : va_G) (cI cJ cB cP cM cZ : ClassId) (h0 : Nat) (h_s : Nat) (h_names : Nat) (h_images : Nat) (h_namesKept : Nat) (h_areKept : Nat) (Fh : Nat → Value) (f_s : Nat → Int32) (f_names : Nat → Int64) (f_images : Nat → Int32) (f_namesKept : Nat → Int64) (f_areKept : Nat → Int32) (p0 : Int32) (sz : Nat) (e_s : Fh 6 = .ref h_s) (e_names : Fh 9 = .ref h_names) (e_images : Fh 64 = .ref h_images) (e_namesKept : Fh 65 = .ref h_namesKept) (e_areKept : Fh 66 = .ref h_areKept) (s_s_K0 : KW 0 f_s) (s_s_0 : SG 0 0 0 40 f_s) (s_s_105 : SG 105 108 0 11 f_s) (s_s_114 : SG 114 114 0 5 f_s) (s_s_130 : SG 130 133 0 11 f_s) (s_s_139 : SG 139 139 0 5 f_s) (s_s_153 : SG 153 153 0 44 f_s) (s_s_44 : SG 44 55 0 9 f_s) (s_s_5 : SG 5 5 0 12 f_s) (s_s_6 : SG 6 6 0 12 f_s) (s_s_7 : SG 7 7 0 6 f_s) (s_images_K0 : KW 0 f_images) (s_images_K335 : KW 335 f_images) (s_images_0 : SG 0 0 0 40 f_images) (s_images_105 : SG 105 108 0 11 f_images) (s_images_114 : SG 114 114 0 5 f_images) (s_images_130 : SG 130 133 0 11 f_images) (s_images_139 : SG 139 139 0 5 f_images) (s_images_153 : SG 153 153 0 44 f_images) (s_images_335 : SG 335 335 0 40 f_images) (s_images_340 : SG 340 340 0 12 f_images) (s_images_341 : SG 341 341 0 12 f_images) (s_images_342 : SG 342 342 0 6 f_images) (s_images_379 : SG 379 390 0 9 f_images) (s_images_44 : SG 44 55 0 9 f_images) (s_images_440 : SG 440 443 0 11 f_images) (s_images_449 : SG 449 449 0 5 f_images) (s_images_465 : SG 465 468 0 11 f_images) (s_images_474 : SG 474 474 0 5 f_images) (s_images_488 : SG 488 488 0 44 f_images) (s_images_5 : SG 5 5 0 12 f_images) (s_images_6 : SG 6 6 0 12 f_images) (s_images_7 : SG 7 7 0 6 f_images) : CI l yX10_image cX10_image 3 (some .boolean) { frames := 1, cells := 0, slots := 0, locals := 22 } (GG D cI cJ cB cP cM cZ) D [(h0, .inr (10, vL 67 Fh)), (h_s, .inl (cI, 335, .inl f_s)), (h_names, .inl (cJ, 36, .inr (.inl f_names))), (h_images, .inl (cI, 670, .inl f_images)), (h_namesKept, .inl (cJ, 36, .inr (.inl f_namesKept))), (h_areKept, .inl (cZ, 2, .inl f_areKept))] sz [.ref h0, .int p0] (fun (r : Int32) (u : va_W) => (∃ (Gh : Nat → Value), SAME [0] Fh Gh ∧ Gh 0 = .int 0 ∧ p0.toInt < 0 ∧ ((r = 1 → p0.toInt = 0 → f_areKept 0 = 1 ∧ f_areKept 1 = f_areKept 1) ∧ (r = 1 → p0.toInt = 1 → f_areKept 1 = 1 ∧ f_areKept 0 = f_areKept 0)) ∧ r = 0 ∧ u = [(h0, .inr (10, vL 67 Gh)), (h_s, .inl (cI, 335, .inl f_s)), (h_names, .inl (cJ, 36, .inr (.inl f_names))), (h_images, .inl (cI, 670, .inl f_images)), (h_namesKept, .inl (cJ, 36, .inr (.inl f_namesKept))), (h_areKept, .inl (cZ, 2, .inl f_areKept))]) ∨ (∃ (Gh : Nat → Value), SAME [0] Fh Gh ∧ Gh 0 = .int 0 ∧ 0 ≤ p0.toInt ∧ 1 < p0.toInt ∧ ((r = 1 → p0.toInt = 0 → f_areKept 0 = 1 ∧ f_areKept 1 = f_areKept 1) ∧ (r = 1 → p0.toInt = 1 → f_areKept 1 = 1 ∧ f_areKept 0 = f_areKept 0)) ∧ r = 0 ∧ u = [(h0, .inr (10, vL 67 Gh)), (h_s, .inl (cI, 335, .inl f_s)), (h_names, .inl (cJ, 36, .inr (.inl f_names))), (h_images, .inl (cI, 670, .inl f_images)), (h_namesKept, .inl (cJ, 36, .inr (.inl f_namesKept))), (h_areKept, .inl (cZ, 2, .inl f_areKept))]) ∨ (∃ (Gh : Nat → Value) (g_images : Nat → Int32) (g_namesKept : Nat → Int64) (g_areKept : Nat → Int32), SAME [0] Fh Gh ∧ Gh 0 = .int 0 ∧ SG 153 153 0 44 g_images ∧ SG 0 0 0 40 g_images ∧ SG 5 5 0 12 g_images ∧ SG 6 6 0 12 g_images ∧ SG 7 7 0 6 g_images ∧ SG 44 55 0 9 g_images ∧ KW 0 g_images ∧ SG 105 108 0 11 g_images ∧ SG 114 114 0 5 g_images ∧ SG 130 133 0 11 g_images ∧ SG 139 139 0 5 g_images ∧ SG 488 488 0 44 g_images ∧ SG 335 335 0 40 g_images ∧ SG 340 340 0 12 g_images ∧ SG 341 341 0 12 g_images ∧ SG 342 342 0 6 g_images ∧ SG 379 390 0 9 g_images ∧ KW 335 g_images ∧ SG 440 443 0 11 g_images ∧ SG 449 449 0 5 g_images ∧ SG 465 468 0 11 g_images ∧ SG 474 474 0 5 g_images ∧ 0 ≤ p0.toInt ∧ p0.toInt ≤ 1 ∧ p0.toInt = 0 ∧ ((r = 1 → p0.toInt = 0 → g_areKept 0 = 1 ∧ g_areKept 1 = f_areKept 1) ∧ (r = 1 → p0.toInt = 1 → g_areKept 1 = 1 ∧ g_areKept 0 = f_areKept 0)) ∧ r = 1 ∧ u = [(h0, .inr (10, vL 67 Gh)), (h_s, .inl (cI, 335, .inl f_s)), (h_names, .inl (cJ, 36, .inr (.inl f_names))), (h_images, .inl (cI, 670, .inl g_images)), (h_namesKept, .inl (cJ, 36, .inr (.inl g_namesKept))), (h_areKept, .inl (cZ, 2, .inl g_areKept))]) ∨ (∃ (Gh : Nat → Value) (g_images : Nat → Int32) (g_namesKept : Nat → Int64) (g_areKept : Nat → Int32), SAME [0] Fh Gh ∧ Gh 0 = .int 0 ∧ SG 153 153 0 44 g_images ∧ SG 0 0 0 40 g_images ∧ SG 5 5 0 12 g_images ∧ SG 6 6 0 12 g_images ∧ SG 7 7 0 6 g_images ∧ SG 44 55 0 9 g_images ∧ KW 0 g_images ∧ SG 105 108 0 11 g_images ∧ SG 114 114 0 5 g_images ∧ SG 130 133 0 11 g_images ∧ SG 139 139 0 5 g_images ∧ SG 488 488 0 44 g_images ∧ SG 335 335 0 40 g_images ∧ SG 340 340 0 12 g_images ∧ SG 341 341 0 12 g_images ∧ SG 342 342 0 6 g_images ∧ SG 379 390 0 9 g_images ∧ KW 335 g_images ∧ SG 440 443 0 11 g_images ∧ SG 449 449 0 5 g_images ∧ SG 465 468 0 11 g_images ∧ SG 474 474 0 5 g_images ∧ 0 ≤ p0.toInt ∧ p0.toInt ≤ 1 ∧ p0.toInt = 1 ∧ ((r = 1 → p0.toInt = 0 → g_areKept 0 = 1 ∧ g_areKept 1 = f_areKept 1) ∧ (r = 1 → p0.toInt = 1 → g_areKept 1 = 1 ∧ g_areKept 0 = f_areKept 0)) ∧ r = 1 ∧ u = [(h0, .inr (10, vL 67 Gh)), (h_s, .inl (cI, 335, .inl f_s)), (h_names, .inl (cJ, 36, .inr (.inl f_names))), (h_images, .inl (cI, 670, .inl g_images)), (h_namesKept, .inl (cJ, 36, .inr (.inl g_namesKept))), (h_areKept, .inl (cZ, 2, .inl g_areKept))])) := by
  refine CI_mk (by decide) (Nat.le_of_ble_eq_true rfl) ?_
  intro p e s m below meth c A ls E hAe hG hsz hP hD hA hS hl
  obtain ⟨hx, hb, hr, hw, hown, hlocks, hml, hnm⟩ := E
  have hK := hG.1
  have hl : lv_has ls 3 [(0, .ref h0), (1, .int p0)] := hl
  refine lv_aload_n hx hb dX10_image_0 rfl (lv_at hl 0 rfl) ?_
  refine lv_iconst (v := 0) hx hb dX10_image_1 (by decide) ?_
  refine put_f (D := D) (ci := 10) (v := .int 0) (ty := .int) (C := RX10) (T := TX10) (N := 67) hx hb hw inAX10 tyX10 tyX10_ok nmX10 hown hK hP hD hS 0 rfl rfl 0 (by decide) (hw _ q_1261) (fun _ h9 => h9) rfl (by decide +kernel) rfl rfl dX10_image_2 (fun H locs F1 eF1 hP hD hS => ?_)
  have hP : va_P D vwCl [(h0, .inr (10, vL 67 F1)), (h_s, .inl (cI, 335, .inl f_s)), (h_names, .inl (cJ, 36, .inr (.inl f_names))), (h_images, .inl (cI, 670, .inl f_images)), (h_namesKept, .inl (cJ, 36, .inr (.inl f_namesKept))), (h_areKept, .inl (cZ, 2, .inl f_areKept))] H := hP
  have hD : va_D A [(h0, .inr (10, vL 67 F1)), (h_s, .inl (cI, 335, .inl f_s)), (h_names, .inl (cJ, 36, .inr (.inl f_names))), (h_images, .inl (cI, 670, .inl f_images)), (h_namesKept, .inl (cJ, 36, .inr (.inl f_namesKept))), (h_areKept, .inl (cZ, 2, .inl f_areKept))] := hD
  refine lv_iload_n hx hb dX10_image_5 rfl (lv_at hl 1 rfl) ?_
  refine lv_iconst (v := 0) hx hb dX10_image_6 (by decide) ?_
  refine lv_iconst (v := 1) hx hb dX10_image_7 (by decide) ?_
  refine call_Si (wr := [(h0, .inr (10, vL 67 F1)), (h_s, .inl (cI, 335, .inl f_s)), (h_names, .inl (cJ, 36, .inr (.inl f_names))), (h_images, .inl (cI, 670, .inl f_images)), (h_namesKept, .inl (cJ, 36, .inr (.inl f_namesKept))), (h_areKept, .inl (cZ, 2, .inl f_areKept))]) (As := [.int p0, .int 0, .int 1]) (rest := []) hx hb hml hown hw (m_X10_isIn l D cI cJ cB cP cM cZ p0 0 1 _ ) wS_X10_211_X10_isIn dX10_image_8 hP hD hS hA [] [0, 1, 2, 3, 4, 5] rfl rfl (by decide) (by decide) (by decide) GG.fb hG.at hl.1 rfl (Nat.le_of_ble_eq_true rfl) ⟨(Nat.le_of_ble_eq_true rfl), (Nat.le_of_ble_eq_true rfl)⟩ ⟨(Nat.le_of_ble_eq_true rfl), (Nat.le_of_ble_eq_true rfl)⟩ (fun r2 u H locs hp hP hD hS => ?_)
  have zl0 : (0 : Int32).toInt = 0 := by decide
  have zl1 : (1 : Int32).toInt = 1 := by decide
  rcases hp with ⟨t3, rfl, rfl⟩ | ⟨t4, t5, rfl, rfl⟩ | ⟨t6, t7, rfl, rfl⟩
  · have hP : va_P D vwCl [(h0, .inr (10, vL 67 F1)), (h_s, .inl (cI, 335, .inl f_s)), (h_names, .inl (cJ, 36, .inr (.inl f_names))), (h_images, .inl (cI, 670, .inl f_images)), (h_namesKept, .inl (cJ, 36, .inr (.inl f_namesKept))), (h_areKept, .inl (cZ, 2, .inl f_areKept))] H := hP
    have hD : va_D A [(h0, .inr (10, vL 67 F1)), (h_s, .inl (cI, 335, .inl f_s)), (h_names, .inl (cJ, 36, .inr (.inl f_names))), (h_images, .inl (cI, 670, .inl f_images)), (h_namesKept, .inl (cJ, 36, .inr (.inl f_namesKept))), (h_areKept, .inl (cZ, 2, .inl f_areKept))] := hD
    refine W.widen (k := 0) (n := 0) (Nat.le_of_ble_eq_true rfl) (Nat.le_of_ble_eq_true rfl) ?_
    have k9 : (-2147483648) ≤ p0.toInt ∧ p0.toInt ≤ (-1) := ⟨(ir_any _).1, up_lt t3 (Int.le_refl _) (by decide)⟩
    refine lv_if_ne (tgt := 16) hx hb dX10_image_11 (by decide) (fun g => absurd (by decide) g) (fun _ => ?_)
    refine lv_iconst (v := 0) hx hb dX10_image_14 (by decide) ?_
    exact ret_i (v := 0) hx hb hr hlocks hS hP hD dX10_image_15 rfl (Nat.le_of_ble_eq_true rfl) (Nat.le_of_ble_eq_true rfl) (Or.inl ⟨F1, (SAME.up eF1 SAME.rf (by decide)), (get_eq eF1), t3, ⟨fun q => absurd q (by decide), fun q => absurd q (by decide)⟩, rfl, rfl⟩)
  · have hP : va_P D vwCl [(h0, .inr (10, vL 67 F1)), (h_s, .inl (cI, 335, .inl f_s)), (h_names, .inl (cJ, 36, .inr (.inl f_names))), (h_images, .inl (cI, 670, .inl f_images)), (h_namesKept, .inl (cJ, 36, .inr (.inl f_namesKept))), (h_areKept, .inl (cZ, 2, .inl f_areKept))] H := hP
    have hD : va_D A [(h0, .inr (10, vL 67 F1)), (h_s, .inl (cI, 335, .inl f_s)), (h_names, .inl (cJ, 36, .inr (.inl f_names))), (h_images, .inl (cI, 670, .inl f_images)), (h_namesKept, .inl (cJ, 36, .inr (.inl f_namesKept))), (h_areKept, .inl (cZ, 2, .inl f_areKept))] := hD
    refine W.widen (k := 0) (n := 0) (Nat.le_of_ble_eq_true rfl) (Nat.le_of_ble_eq_true rfl) ?_
    have k10 : 0 ≤ p0.toInt ∧ p0.toInt ≤ 2147483647 := ⟨Int.le_trans (Int.le_refl _) t4, (ir_any _).2⟩
    have k11 : 2 ≤ p0.toInt ∧ p0.toInt ≤ 2147483647 := ⟨lo_lt t5 (Int.le_refl _) (by decide), k10.2⟩
    refine lv_if_ne (tgt := 16) hx hb dX10_image_11 (by decide) (fun g => absurd (by decide) g) (fun _ => ?_)
    refine lv_iconst (v := 0) hx hb dX10_image_14 (by decide) ?_
    exact ret_i (v := 0) hx hb hr hlocks hS hP hD dX10_image_15 rfl (Nat.le_of_ble_eq_true rfl) (Nat.le_of_ble_eq_true rfl) (Or.inr (Or.inl ⟨F1, (SAME.up eF1 SAME.rf (by decide)), (get_eq eF1), t4, t5, ⟨fun q => absurd q (by decide), fun q => absurd q (by decide)⟩, rfl, rfl⟩))
  · have hP : va_P D vwCl [(h0, .inr (10, vL 67 F1)), (h_s, .inl (cI, 335, .inl f_s)), (h_names, .inl (cJ, 36, .inr (.inl f_names))), (h_images, .inl (cI, 670, .inl f_images)), (h_namesKept, .inl (cJ, 36, .inr (.inl f_namesKept))), (h_areKept, .inl (cZ, 2, .inl f_areKept))] H := hP
    have hD : va_D A [(h0, .inr (10, vL 67 F1)), (h_s, .inl (cI, 335, .inl f_s)), (h_names, .inl (cJ, 36, .inr (.inl f_names))), (h_images, .inl (cI, 670, .inl f_images)), (h_namesKept, .inl (cJ, 36, .inr (.inl f_namesKept))), (h_areKept, .inl (cZ, 2, .inl f_areKept))] := hD
    refine W.widen (k := 0) (n := 0) (Nat.le_of_ble_eq_true rfl) (Nat.le_of_ble_eq_true rfl) ?_
    have k12 : 0 ≤ p0.toInt ∧ p0.toInt ≤ 2147483647 := ⟨Int.le_trans (Int.le_refl _) t6, (ir_any _).2⟩
    have k13 : 0 ≤ p0.toInt ∧ p0.toInt ≤ 1 := ⟨k12.1, Int.le_trans t7 (Int.le_refl _)⟩
    refine lv_if_ne (tgt := 16) hx hb dX10_image_11 (by decide) (fun _ => ?_) (fun g => absurd g (by decide))
    by_cases k14 : p0 = 0
    · have dk14 : p0.toInt = 0 := eq_i rfl rfl k14
      have k15 : 0 ≤ p0.toInt ∧ p0.toInt ≤ 0 := ⟨k13.1, Int.le_trans (Int.le_of_eq dk14) (Int.le_refl _)⟩
      have hl : lv_has ls 3 [(0, .ref h0), (1, .int 0)] := by have q := hl; rw [k14] at q; exact q
      refine lv_iconst (v := 0) hx hb dX10_image_16 (by decide) ?_
      refine lv_istore_n (lv' := [(2, .int 0), (0, .ref h0), (1, .int 0)]) hx hb dX10_image_17 rfl hl (by decide) rfl (fun ls hl => ?_)
      refine mloop (α := (Int32) × (Nat → Int32)) (nL := 3) (D := D) (A := A) (H0 := s.heap) (fun a => (335 - a.1.toInt).toNat) (fun a => IR 0 335 a.1 ∧ KW 335 a.2 ∧ SG 335 335 0 40 a.2 ∧ SG 340 340 0 12 a.2 ∧ SG 341 341 0 12 a.2 ∧ SG 342 342 0 6 a.2 ∧ SG 379 390 0 9 a.2 ∧ SG 440 443 0 11 a.2 ∧ SG 449 449 0 5 a.2 ∧ SG 465 468 0 11 a.2 ∧ SG 474 474 0 5 a.2 ∧ SG 488 488 0 44 a.2 ∧ (CPY a.2 0 f_s 0 (a.1.toInt))) (fun a => [(h0, .inr (10, vL 67 F1)), (h_s, .inl (cI, 335, .inl f_s)), (h_names, .inl (cJ, 36, .inr (.inl f_names))), (h_images, .inl (cI, 670, .inl a.2)), (h_namesKept, .inl (cJ, 36, .inr (.inl f_namesKept))), (h_areKept, .inl (cZ, 2, .inl f_areKept))]) (fun a => [(2, .int a.1), (0, .ref h0), (1, .int 0)]) (fun H locs ls => W p l e ({ frames := 1, cells := 0, slots := 0, locals := 22 } : Room) s m [.ref h0, .int p0].toArray below meth c H locs 0 0 (MQ below (va_Qi (fun (r : Int32) (u : va_W) => (∃ (Gh : Nat → Value), SAME [0] Fh Gh ∧ Gh 0 = .int 0 ∧ p0.toInt < 0 ∧ ((r = 1 → p0.toInt = 0 → f_areKept 0 = 1 ∧ f_areKept 1 = f_areKept 1) ∧ (r = 1 → p0.toInt = 1 → f_areKept 1 = 1 ∧ f_areKept 0 = f_areKept 0)) ∧ r = 0 ∧ u = [(h0, .inr (10, vL 67 Gh)), (h_s, .inl (cI, 335, .inl f_s)), (h_names, .inl (cJ, 36, .inr (.inl f_names))), (h_images, .inl (cI, 670, .inl f_images)), (h_namesKept, .inl (cJ, 36, .inr (.inl f_namesKept))), (h_areKept, .inl (cZ, 2, .inl f_areKept))]) ∨ (∃ (Gh : Nat → Value), SAME [0] Fh Gh ∧ Gh 0 = .int 0 ∧ 0 ≤ p0.toInt ∧ 1 < p0.toInt ∧ ((r = 1 → p0.toInt = 0 → f_areKept 0 = 1 ∧ f_areKept 1 = f_areKept 1) ∧ (r = 1 → p0.toInt = 1 → f_areKept 1 = 1 ∧ f_areKept 0 = f_areKept 0)) ∧ r = 0 ∧ u = [(h0, .inr (10, vL 67 Gh)), (h_s, .inl (cI, 335, .inl f_s)), (h_names, .inl (cJ, 36, .inr (.inl f_names))), (h_images, .inl (cI, 670, .inl f_images)), (h_namesKept, .inl (cJ, 36, .inr (.inl f_namesKept))), (h_areKept, .inl (cZ, 2, .inl f_areKept))]) ∨ (∃ (Gh : Nat → Value) (g_images : Nat → Int32) (g_namesKept : Nat → Int64) (g_areKept : Nat → Int32), SAME [0] Fh Gh ∧ Gh 0 = .int 0 ∧ SG 153 153 0 44 g_images ∧ SG 0 0 0 40 g_images ∧ SG 5 5 0 12 g_images ∧ SG 6 6 0 12 g_images ∧ SG 7 7 0 6 g_images ∧ SG 44 55 0 9 g_images ∧ KW 0 g_images ∧ SG 105 108 0 11 g_images ∧ SG 114 114 0 5 g_images ∧ SG 130 133 0 11 g_images ∧ SG 139 139 0 5 g_images ∧ SG 488 488 0 44 g_images ∧ SG 335 335 0 40 g_images ∧ SG 340 340 0 12 g_images ∧ SG 341 341 0 12 g_images ∧ SG 342 342 0 6 g_images ∧ SG 379 390 0 9 g_images ∧ KW 335 g_images ∧ SG 440 443 0 11 g_images ∧ SG 449 449 0 5 g_images ∧ SG 465 468 0 11 g_images ∧ SG 474 474 0 5 g_images ∧ 0 ≤ p0.toInt ∧ p0.toInt ≤ 1 ∧ p0.toInt = 0 ∧ ((r = 1 → p0.toInt = 0 → g_areKept 0 = 1 ∧ g_areKept 1 = f_areKept 1) ∧ (r = 1 → p0.toInt = 1 → g_areKept 1 = 1 ∧ g_areKept 0 = f_areKept 0)) ∧ r = 1 ∧ u = [(h0, .inr (10, vL 67 Gh)), (h_s, .inl (cI, 335, .inl f_s)), (h_names, .inl (cJ, 36, .inr (.inl f_names))), (h_images, .inl (cI, 670, .inl g_images)), (h_namesKept, .inl (cJ, 36, .inr (.inl g_namesKept))), (h_areKept, .inl (cZ, 2, .inl g_areKept))]) ∨ (∃ (Gh : Nat → Value) (g_images : Nat → Int32) (g_namesKept : Nat → Int64) (g_areKept : Nat → Int32), SAME [0] Fh Gh ∧ Gh 0 = .int 0 ∧ SG 153 153 0 44 g_images ∧ SG 0 0 0 40 g_images ∧ SG 5 5 0 12 g_images ∧ SG 6 6 0 12 g_images ∧ SG 7 7 0 6 g_images ∧ SG 44 55 0 9 g_images ∧ KW 0 g_images ∧ SG 105 108 0 11 g_images ∧ SG 114 114 0 5 g_images ∧ SG 130 133 0 11 g_images ∧ SG 139 139 0 5 g_images ∧ SG 488 488 0 44 g_images ∧ SG 335 335 0 40 g_images ∧ SG 340 340 0 12 g_images ∧ SG 341 341 0 12 g_images ∧ SG 342 342 0 6 g_images ∧ SG 379 390 0 9 g_images ∧ KW 335 g_images ∧ SG 440 443 0 11 g_images ∧ SG 449 449 0 5 g_images ∧ SG 465 468 0 11 g_images ∧ SG 474 474 0 5 g_images ∧ 0 ≤ p0.toInt ∧ p0.toInt ≤ 1 ∧ p0.toInt = 1 ∧ ((r = 1 → p0.toInt = 0 → g_areKept 0 = 1 ∧ g_areKept 1 = f_areKept 1) ∧ (r = 1 → p0.toInt = 1 → g_areKept 1 = 1 ∧ g_areKept 0 = f_areKept 0)) ∧ r = 1 ∧ u = [(h0, .inr (10, vL 67 Gh)), (h_s, .inl (cI, 335, .inl f_s)), (h_names, .inl (cJ, 36, .inr (.inl f_names))), (h_images, .inl (cI, 670, .inl g_images)), (h_namesKept, .inl (cJ, 36, .inr (.inl g_namesKept))), (h_areKept, .inl (cZ, 2, .inl g_areKept))])) (PO D A) A) [.ref h0, .int p0].toArray s 0 0 A) (F0 m 18 ls [])) ?_ (0, f_images) ⟨(show 0 ≤ (0 : Int32).toInt ∧ (0 : Int32).toInt ≤ 335 by decide), s_images_K335, s_images_335, s_images_340, s_images_341, s_images_342, s_images_379, s_images_440, s_images_449, s_images_465, s_images_474, s_images_488, (show CPY f_images 0 f_s 0 (0) from (CPY.zero (by decide)))⟩ _ _ _ hP hD hS hl
      rintro ⟨u16, w17⟩ ⟨i18, i19, i20, i21, i22, i23, i24, i25, i26, i27, i28, i29, i30⟩ ih H locs ls hP hD hS hl
      have i18 : 0 ≤ u16.toInt ∧ u16.toInt ≤ 335 := i18
      have i30 : CPY w17 0 f_s 0 (u16.toInt) := i30
      have hP : va_P D vwCl [(h0, .inr (10, vL 67 F1)), (h_s, .inl (cI, 335, .inl f_s)), (h_names, .inl (cJ, 36, .inr (.inl f_names))), (h_images, .inl (cI, 670, .inl w17)), (h_namesKept, .inl (cJ, 36, .inr (.inl f_namesKept))), (h_areKept, .inl (cZ, 2, .inl f_areKept))] H := hP
      have hD : va_D A [(h0, .inr (10, vL 67 F1)), (h_s, .inl (cI, 335, .inl f_s)), (h_names, .inl (cJ, 36, .inr (.inl f_names))), (h_images, .inl (cI, 670, .inl w17)), (h_namesKept, .inl (cJ, 36, .inr (.inl f_namesKept))), (h_areKept, .inl (cZ, 2, .inl f_areKept))] := hD
      have hl : lv_has ls 3 [(2, .int u16), (0, .ref h0), (1, .int 0)] := hl
      refine lv_iload_n hx hb dX10_image_18 rfl (lv_at hl 0 rfl) ?_
      refine lv_sipush (v := 335) hx hb dX10_image_19 (by decide) ?_
      refine lv_icmp_ge (tgt := 49) hx hb dX10_image_22 (by decide) (fun c31 => ?_) (fun c31 => ?_)
      · have dc31 : 335 ≤ u16.toInt := le_i (a := 335) (b := u16.toInt) rfl rfl c31
        have k32 : 335 ≤ u16.toInt ∧ u16.toInt ≤ 335 := ⟨Int.le_trans (Int.le_refl _) dc31, i18.2⟩
        have r33 : KW 0 w17 := KW.cpy i30 s_s_K0 (by omega) (by decide)
        have r34 : SG 0 0 0 40 w17 := SG.cpy i30 s_s_0 (by decide) (by decide) (by decide) (by omega)
        have r35 : SG 105 108 0 11 w17 := SG.cpy i30 s_s_105 (by decide) (by decide) (by decide) (by omega)
        have r36 : SG 114 114 0 5 w17 := SG.cpy i30 s_s_114 (by decide) (by decide) (by decide) (by omega)
        have r37 : SG 130 133 0 11 w17 := SG.cpy i30 s_s_130 (by decide) (by decide) (by decide) (by omega)
        have r38 : SG 139 139 0 5 w17 := SG.cpy i30 s_s_139 (by decide) (by decide) (by decide) (by omega)
        have r39 : SG 153 153 0 44 w17 := SG.cpy i30 s_s_153 (by decide) (by decide) (by decide) (by omega)
        have r40 : SG 44 55 0 9 w17 := SG.cpy i30 s_s_44 (by decide) (by decide) (by decide) (by omega)
        have r41 : SG 5 5 0 12 w17 := SG.cpy i30 s_s_5 (by decide) (by decide) (by decide) (by omega)
        have r42 : SG 6 6 0 12 w17 := SG.cpy i30 s_s_6 (by decide) (by decide) (by decide) (by omega)
        have r43 : SG 7 7 0 6 w17 := SG.cpy i30 s_s_7 (by decide) (by decide) (by decide) (by omega)
        refine lv_iconst (v := 0) hx hb dX10_image_49 (by decide) ?_
        refine lv_istore_n (lv' := [(2, .int 0), (0, .ref h0), (1, .int 0)]) hx hb dX10_image_50 rfl hl (by decide) rfl (fun ls hl => ?_)
        refine mloop (α := (Int32) × (Nat → Int64)) (nL := 3) (D := D) (A := A) (H0 := s.heap) (fun a => (18 - a.1.toInt).toNat) (fun a => IR 0 18 a.1) (fun a => [(h0, .inr (10, vL 67 F1)), (h_s, .inl (cI, 335, .inl f_s)), (h_names, .inl (cJ, 36, .inr (.inl f_names))), (h_images, .inl (cI, 670, .inl w17)), (h_namesKept, .inl (cJ, 36, .inr (.inl a.2))), (h_areKept, .inl (cZ, 2, .inl f_areKept))]) (fun a => [(2, .int a.1), (0, .ref h0), (1, .int 0)]) (fun H locs ls => W p l e ({ frames := 1, cells := 0, slots := 0, locals := 22 } : Room) s m [.ref h0, .int p0].toArray below meth c H locs 0 0 (MQ below (va_Qi (fun (r : Int32) (u : va_W) => (∃ (Gh : Nat → Value), SAME [0] Fh Gh ∧ Gh 0 = .int 0 ∧ p0.toInt < 0 ∧ ((r = 1 → p0.toInt = 0 → f_areKept 0 = 1 ∧ f_areKept 1 = f_areKept 1) ∧ (r = 1 → p0.toInt = 1 → f_areKept 1 = 1 ∧ f_areKept 0 = f_areKept 0)) ∧ r = 0 ∧ u = [(h0, .inr (10, vL 67 Gh)), (h_s, .inl (cI, 335, .inl f_s)), (h_names, .inl (cJ, 36, .inr (.inl f_names))), (h_images, .inl (cI, 670, .inl f_images)), (h_namesKept, .inl (cJ, 36, .inr (.inl f_namesKept))), (h_areKept, .inl (cZ, 2, .inl f_areKept))]) ∨ (∃ (Gh : Nat → Value), SAME [0] Fh Gh ∧ Gh 0 = .int 0 ∧ 0 ≤ p0.toInt ∧ 1 < p0.toInt ∧ ((r = 1 → p0.toInt = 0 → f_areKept 0 = 1 ∧ f_areKept 1 = f_areKept 1) ∧ (r = 1 → p0.toInt = 1 → f_areKept 1 = 1 ∧ f_areKept 0 = f_areKept 0)) ∧ r = 0 ∧ u = [(h0, .inr (10, vL 67 Gh)), (h_s, .inl (cI, 335, .inl f_s)), (h_names, .inl (cJ, 36, .inr (.inl f_names))), (h_images, .inl (cI, 670, .inl f_images)), (h_namesKept, .inl (cJ, 36, .inr (.inl f_namesKept))), (h_areKept, .inl (cZ, 2, .inl f_areKept))]) ∨ (∃ (Gh : Nat → Value) (g_images : Nat → Int32) (g_namesKept : Nat → Int64) (g_areKept : Nat → Int32), SAME [0] Fh Gh ∧ Gh 0 = .int 0 ∧ SG 153 153 0 44 g_images ∧ SG 0 0 0 40 g_images ∧ SG 5 5 0 12 g_images ∧ SG 6 6 0 12 g_images ∧ SG 7 7 0 6 g_images ∧ SG 44 55 0 9 g_images ∧ KW 0 g_images ∧ SG 105 108 0 11 g_images ∧ SG 114 114 0 5 g_images ∧ SG 130 133 0 11 g_images ∧ SG 139 139 0 5 g_images ∧ SG 488 488 0 44 g_images ∧ SG 335 335 0 40 g_images ∧ SG 340 340 0 12 g_images ∧ SG 341 341 0 12 g_images ∧ SG 342 342 0 6 g_images ∧ SG 379 390 0 9 g_images ∧ KW 335 g_images ∧ SG 440 443 0 11 g_images ∧ SG 449 449 0 5 g_images ∧ SG 465 468 0 11 g_images ∧ SG 474 474 0 5 g_images ∧ 0 ≤ p0.toInt ∧ p0.toInt ≤ 1 ∧ p0.toInt = 0 ∧ ((r = 1 → p0.toInt = 0 → g_areKept 0 = 1 ∧ g_areKept 1 = f_areKept 1) ∧ (r = 1 → p0.toInt = 1 → g_areKept 1 = 1 ∧ g_areKept 0 = f_areKept 0)) ∧ r = 1 ∧ u = [(h0, .inr (10, vL 67 Gh)), (h_s, .inl (cI, 335, .inl f_s)), (h_names, .inl (cJ, 36, .inr (.inl f_names))), (h_images, .inl (cI, 670, .inl g_images)), (h_namesKept, .inl (cJ, 36, .inr (.inl g_namesKept))), (h_areKept, .inl (cZ, 2, .inl g_areKept))]) ∨ (∃ (Gh : Nat → Value) (g_images : Nat → Int32) (g_namesKept : Nat → Int64) (g_areKept : Nat → Int32), SAME [0] Fh Gh ∧ Gh 0 = .int 0 ∧ SG 153 153 0 44 g_images ∧ SG 0 0 0 40 g_images ∧ SG 5 5 0 12 g_images ∧ SG 6 6 0 12 g_images ∧ SG 7 7 0 6 g_images ∧ SG 44 55 0 9 g_images ∧ KW 0 g_images ∧ SG 105 108 0 11 g_images ∧ SG 114 114 0 5 g_images ∧ SG 130 133 0 11 g_images ∧ SG 139 139 0 5 g_images ∧ SG 488 488 0 44 g_images ∧ SG 335 335 0 40 g_images ∧ SG 340 340 0 12 g_images ∧ SG 341 341 0 12 g_images ∧ SG 342 342 0 6 g_images ∧ SG 379 390 0 9 g_images ∧ KW 335 g_images ∧ SG 440 443 0 11 g_images ∧ SG 449 449 0 5 g_images ∧ SG 465 468 0 11 g_images ∧ SG 474 474 0 5 g_images ∧ 0 ≤ p0.toInt ∧ p0.toInt ≤ 1 ∧ p0.toInt = 1 ∧ ((r = 1 → p0.toInt = 0 → g_areKept 0 = 1 ∧ g_areKept 1 = f_areKept 1) ∧ (r = 1 → p0.toInt = 1 → g_areKept 1 = 1 ∧ g_areKept 0 = f_areKept 0)) ∧ r = 1 ∧ u = [(h0, .inr (10, vL 67 Gh)), (h_s, .inl (cI, 335, .inl f_s)), (h_names, .inl (cJ, 36, .inr (.inl f_names))), (h_images, .inl (cI, 670, .inl g_images)), (h_namesKept, .inl (cJ, 36, .inr (.inl g_namesKept))), (h_areKept, .inl (cZ, 2, .inl g_areKept))])) (PO D A) A) [.ref h0, .int p0].toArray s 0 0 A) (F0 m 51 ls [])) ?_ (0, f_namesKept) (show 0 ≤ (0 : Int32).toInt ∧ (0 : Int32).toInt ≤ 18 by decide) _ _ _ hP hD hS hl
        rintro ⟨u44, w45⟩ i46 ih_51 H locs ls hP hD hS hl
        have i46 : 0 ≤ u44.toInt ∧ u44.toInt ≤ 18 := i46
        have hP : va_P D vwCl [(h0, .inr (10, vL 67 F1)), (h_s, .inl (cI, 335, .inl f_s)), (h_names, .inl (cJ, 36, .inr (.inl f_names))), (h_images, .inl (cI, 670, .inl w17)), (h_namesKept, .inl (cJ, 36, .inr (.inl w45))), (h_areKept, .inl (cZ, 2, .inl f_areKept))] H := hP
        have hD : va_D A [(h0, .inr (10, vL 67 F1)), (h_s, .inl (cI, 335, .inl f_s)), (h_names, .inl (cJ, 36, .inr (.inl f_names))), (h_images, .inl (cI, 670, .inl w17)), (h_namesKept, .inl (cJ, 36, .inr (.inl w45))), (h_areKept, .inl (cZ, 2, .inl f_areKept))] := hD
        have hl : lv_has ls 3 [(2, .int u44), (0, .ref h0), (1, .int 0)] := hl
        refine lv_iload_n hx hb dX10_image_51 rfl (lv_at hl 0 rfl) ?_
        refine lv_bipush (v := 18) hx hb dX10_image_52 (by decide) ?_
        refine lv_icmp_ge (tgt := 80) hx hb dX10_image_54 (by decide) (fun c47 => ?_) (fun c47 => ?_)
        · have dc47 : 18 ≤ u44.toInt := le_i (a := 18) (b := u44.toInt) rfl rfl c47
          have k48 : 18 ≤ u44.toInt ∧ u44.toInt ≤ 18 := ⟨Int.le_trans (Int.le_refl _) dc47, i46.2⟩
          refine lv_aload_n hx hb dX10_image_80 rfl (lv_at hl 1 rfl) ?_
          have n49 : F1 66 = .ref h_areKept := (get_ne eF1 (by decide) e_areKept)
          refine get_f (D := D) (ci := 10) (v := .ref h_areKept) (C := RX10) (T := TX10) (N := 67) hx hb hw inAX10 hown hK hP 0 rfl rfl 66 (by decide) (hw _ q_1327) (fun _ h9 => h9) n49 dX10_image_81 ?_
          refine lv_iload_n hx hb dX10_image_84 rfl (lv_at hl 2 rfl) ?_
          refine lv_iconst (v := 1) hx hb dX10_image_85 (by decide) ?_
          obtain ⟨g50, eg50⟩ : ∃ z : Nat → Int32, upd f_areKept 0 (vp_nar .boolean 1) = z := ⟨_, rfl⟩
          refine zast_n hx hb hK hP hD hS 5 5 rfl rfl 0 rfl (Nat.le_of_ble_eq_true rfl) (Nat.le_of_ble_eq_true rfl) eg50 dX10_image_86 (fun H locs hP hD hS => ?_)
          have hP : va_P D vwCl [(h0, .inr (10, vL 67 F1)), (h_s, .inl (cI, 335, .inl f_s)), (h_names, .inl (cJ, 36, .inr (.inl f_names))), (h_images, .inl (cI, 670, .inl w17)), (h_namesKept, .inl (cJ, 36, .inr (.inl w45))), (h_areKept, .inl (cZ, 2, .inl g50))] H := hP
          have hD : va_D A [(h0, .inr (10, vL 67 F1)), (h_s, .inl (cI, 335, .inl f_s)), (h_names, .inl (cJ, 36, .inr (.inl f_names))), (h_images, .inl (cI, 670, .inl w17)), (h_namesKept, .inl (cJ, 36, .inr (.inl w45))), (h_areKept, .inl (cZ, 2, .inl g50))] := hD
          refine lv_iconst (v := 1) hx hb dX10_image_87 (by decide) ?_
          exact ret_i (v := 1) hx hb hr hlocks hS hP hD dX10_image_88 rfl (Nat.le_of_ble_eq_true rfl) (Nat.le_of_ble_eq_true rfl) (Or.inr (Or.inr (Or.inl ⟨F1, w17, w45, g50, (SAME.up eF1 SAME.rf (by decide)), (get_eq eF1), r39, r34, r41, r42, r43, r40, r33, r35, r36, r37, r38, i29, i20, i21, i22, i23, i24, i19, i25, i26, i27, i28, t6, t7, dk14, ⟨fun _ q => ⟨by rw [← eg50, pk_us]; rfl, by rw [← eg50, pk_un (by decide)]⟩, fun _ q => absurd q (by omega)⟩, rfl, rfl⟩)))
        · have dc47 : u44.toInt < 18 := nle_i (a := 18) (b := u44.toInt) rfl rfl c47
          have k51 : 0 ≤ u44.toInt ∧ u44.toInt ≤ 17 := ⟨i46.1, up_lt dc47 (Int.le_refl _) (by decide)⟩
          refine lv_aload_n hx hb dX10_image_57 rfl (lv_at hl 1 rfl) ?_
          have n52 : F1 65 = .ref h_namesKept := (get_ne eF1 (by decide) e_namesKept)
          refine get_f (D := D) (ci := 10) (v := .ref h_namesKept) (C := RX10) (T := TX10) (N := 67) hx hb hw inAX10 hown hK hP 0 rfl rfl 65 (by decide) (hw _ q_1326) (fun _ h9 => h9) n52 dX10_image_58 ?_
          refine lv_bipush (v := 18) hx hb dX10_image_61 (by decide) ?_
          refine lv_iload_n hx hb dX10_image_63 rfl (lv_at hl 2 rfl) ?_
          refine lv_imul hx hb dX10_image_64 ?_
          refine lv_ci (y := 0) (by decide +kernel) ?_
          refine lv_iload_n hx hb dX10_image_65 rfl (lv_at hl 0 rfl) ?_
          refine lv_iadd hx hb dX10_image_66 ?_
          refine lv_topi (fun v53 ev53 => ?_)
          have bv53 : v53.toInt = 0 + u44.toInt := by rw [ev53]; exact add_k rfl rfl ⟨Int.le_refl _, Int.le_refl _⟩ k51 (by decide)
          have k54 : 0 ≤ v53.toInt ∧ v53.toInt ≤ 17 := add_r bv53 ⟨Int.le_refl _, Int.le_refl _⟩ k51 (by decide)
          refine lv_aload_n hx hb dX10_image_67 rfl (lv_at hl 1 rfl) ?_
          have n55 : F1 9 = .ref h_names := (get_ne eF1 (by decide) e_names)
          refine get_f (D := D) (ci := 10) (v := .ref h_names) (C := RX10) (T := TX10) (N := 67) hx hb hw inAX10 hown hK hP 0 rfl rfl 9 (by decide) (hw _ q_1270) (fun _ h9 => h9) n55 dX10_image_68 ?_
          refine lv_iload_n hx hb dX10_image_71 rfl (lv_at hl 0 rfl) ?_
          refine va_lald hx hb hK hP 2 1 rfl rfl (ix_k k51 (by decide) (by decide)) dX10_image_72 ?_
          refine lv_topl (fun v56 ev56 => ?_)
          obtain ⟨g57, eg57⟩ : ∃ z : Nat → Int64, vp_updL w45 v53.toNatClampNeg v56 = z := ⟨_, rfl⟩
          refine last_g hx hb hK hP hD hS 4 1 rfl rfl (ix_k k54 (by decide) (by decide)) eg57 dX10_image_73 (fun H locs hP hD hS => ?_)
          have hP : va_P D vwCl [(h0, .inr (10, vL 67 F1)), (h_s, .inl (cI, 335, .inl f_s)), (h_names, .inl (cJ, 36, .inr (.inl f_names))), (h_images, .inl (cI, 670, .inl w17)), (h_namesKept, .inl (cJ, 36, .inr (.inl g57))), (h_areKept, .inl (cZ, 2, .inl f_areKept))] H := hP
          have hD : va_D A [(h0, .inr (10, vL 67 F1)), (h_s, .inl (cI, 335, .inl f_s)), (h_names, .inl (cJ, 36, .inr (.inl f_names))), (h_images, .inl (cI, 670, .inl w17)), (h_namesKept, .inl (cJ, 36, .inr (.inl g57))), (h_areKept, .inl (cZ, 2, .inl f_areKept))] := hD
          obtain ⟨v58, ev58⟩ : ∃ z : Int32, z = u44 + 1 := ⟨_, rfl⟩
          have bv58 : v58.toInt = u44.toInt + 1 := by rw [ev58]; exact add_k rfl rfl k51 ⟨Int.le_refl _, Int.le_refl _⟩ (by decide)
          have k59 : 1 ≤ v58.toInt ∧ v58.toInt ≤ 18 := add_r bv58 k51 ⟨Int.le_refl _, Int.le_refl _⟩ (by decide)
          refine lv_iinc (v := v58) (lv' := [(2, .int v58), (0, .ref h0), (1, .int 0)]) hx hb dX10_image_74 hl (k := 0) rfl (by rw [ev58]; rfl) (by decide) rfl (fun ls hl => ?_)
          refine lv_goto (tgt := 51) hx hb dX10_image_77 (by decide) ?_
          exact ih_51 (v58, g57) (ir_wk k59 (by decide) (by decide)) (by show (18 - v58.toInt).toNat < (18 - u44.toInt).toNat; omega) _ _ _ hP hD hS (lv_sub hl [0, 1, 2] rfl)
      · have dc31 : u16.toInt < 335 := nle_i (a := 335) (b := u16.toInt) rfl rfl c31
        have k60 : 0 ≤ u16.toInt ∧ u16.toInt ≤ 334 := ⟨i18.1, up_lt dc31 (Int.le_refl _) (by decide)⟩
        refine lv_aload_n hx hb dX10_image_25 rfl (lv_at hl 1 rfl) ?_
        have n61 : F1 64 = .ref h_images := (get_ne eF1 (by decide) e_images)
        refine get_f (D := D) (ci := 10) (v := .ref h_images) (C := RX10) (T := TX10) (N := 67) hx hb hw inAX10 hown hK hP 0 rfl rfl 64 (by decide) (hw _ q_1325) (fun _ h9 => h9) n61 dX10_image_26 ?_
        refine lv_sipush (v := 335) hx hb dX10_image_29 (by decide) ?_
        refine lv_iload_n hx hb dX10_image_32 rfl (lv_at hl 2 rfl) ?_
        refine lv_imul hx hb dX10_image_33 ?_
        refine lv_ci (y := 0) (by decide +kernel) ?_
        refine lv_iload_n hx hb dX10_image_34 rfl (lv_at hl 0 rfl) ?_
        refine lv_iadd hx hb dX10_image_35 ?_
        refine lv_topi (fun v62 ev62 => ?_)
        have bv62 : v62.toInt = 0 + u16.toInt := by rw [ev62]; exact add_k rfl rfl ⟨Int.le_refl _, Int.le_refl _⟩ k60 (by decide)
        have k63 : 0 ≤ v62.toInt ∧ v62.toInt ≤ 334 := add_r bv62 ⟨Int.le_refl _, Int.le_refl _⟩ k60 (by decide)
        refine lv_aload_n hx hb dX10_image_36 rfl (lv_at hl 1 rfl) ?_
        have n64 : F1 6 = .ref h_s := (get_ne eF1 (by decide) e_s)
        refine get_f (D := D) (ci := 10) (v := .ref h_s) (C := RX10) (T := TX10) (N := 67) hx hb hw inAX10 hown hK hP 0 rfl rfl 6 (by decide) (hw _ q_1267) (fun _ h9 => h9) n64 dX10_image_37 ?_
        refine lv_iload_n hx hb dX10_image_40 rfl (lv_at hl 0 rfl) ?_
        refine va_iald hx hb hK hP 1 0 rfl rfl (ix_k k60 (by decide) (by decide)) dX10_image_41 ?_
        refine lv_topi (fun v65 ev65 => ?_)
        have r66 : IMP (0 ≤ u16.toInt → u16.toInt ≤ 0 → 0 ≤ v65.toInt ∧ v65.toInt ≤ 40) := IMP.mk (fun q1 q2 => by rw [ev65]; exact s_s_0.at _ q1 q2)
        have r67 : IMP (105 ≤ u16.toInt → u16.toInt ≤ 108 → 0 ≤ v65.toInt ∧ v65.toInt ≤ 11) := IMP.mk (fun q1 q2 => by rw [ev65]; exact s_s_105.at _ q1 q2)
        have r68 : IMP (114 ≤ u16.toInt → u16.toInt ≤ 114 → 0 ≤ v65.toInt ∧ v65.toInt ≤ 5) := IMP.mk (fun q1 q2 => by rw [ev65]; exact s_s_114.at _ q1 q2)
        have r69 : IMP (130 ≤ u16.toInt → u16.toInt ≤ 133 → 0 ≤ v65.toInt ∧ v65.toInt ≤ 11) := IMP.mk (fun q1 q2 => by rw [ev65]; exact s_s_130.at _ q1 q2)
        have r70 : IMP (139 ≤ u16.toInt → u16.toInt ≤ 139 → 0 ≤ v65.toInt ∧ v65.toInt ≤ 5) := IMP.mk (fun q1 q2 => by rw [ev65]; exact s_s_139.at _ q1 q2)
        have r71 : IMP (153 ≤ u16.toInt → u16.toInt ≤ 153 → 0 ≤ v65.toInt ∧ v65.toInt ≤ 44) := IMP.mk (fun q1 q2 => by rw [ev65]; exact s_s_153.at _ q1 q2)
        have r72 : IMP (44 ≤ u16.toInt → u16.toInt ≤ 55 → 0 ≤ v65.toInt ∧ v65.toInt ≤ 9) := IMP.mk (fun q1 q2 => by rw [ev65]; exact s_s_44.at _ q1 q2)
        have r73 : IMP (5 ≤ u16.toInt → u16.toInt ≤ 5 → 0 ≤ v65.toInt ∧ v65.toInt ≤ 12) := IMP.mk (fun q1 q2 => by rw [ev65]; exact s_s_5.at _ q1 q2)
        have r74 : IMP (6 ≤ u16.toInt → u16.toInt ≤ 6 → 0 ≤ v65.toInt ∧ v65.toInt ≤ 12) := IMP.mk (fun q1 q2 => by rw [ev65]; exact s_s_6.at _ q1 q2)
        have r75 : IMP (7 ≤ u16.toInt → u16.toInt ≤ 7 → 0 ≤ v65.toInt ∧ v65.toInt ≤ 6) := IMP.mk (fun q1 q2 => by rw [ev65]; exact s_s_7.at _ q1 q2)
        obtain ⟨g76, eg76⟩ : ∃ z : Nat → Int32, upd w17 v62.toNatClampNeg v65 = z := ⟨_, rfl⟩
        have r77 : KW 335 g76 := by rw [← eg76]; exact i19.up (Int.le_trans (by decide) k63.1) (Or.inl (lt_dec k63.2 (by decide)))
        have r78 : SG 335 335 0 40 g76 := by rw [← eg76]; exact i20.up (Int.le_trans (by decide) k63.1) (Or.inl (lt_dec k63.2 (by decide)))
        have r79 : SG 340 340 0 12 g76 := by rw [← eg76]; exact i21.up (Int.le_trans (by decide) k63.1) (Or.inl (lt_dec k63.2 (by decide)))
        have r80 : SG 341 341 0 12 g76 := by rw [← eg76]; exact i22.up (Int.le_trans (by decide) k63.1) (Or.inl (lt_dec k63.2 (by decide)))
        have r81 : SG 342 342 0 6 g76 := by rw [← eg76]; exact i23.up (Int.le_trans (by decide) k63.1) (Or.inl (lt_dec k63.2 (by decide)))
        have r82 : SG 379 390 0 9 g76 := by rw [← eg76]; exact i24.up (Int.le_trans (by decide) k63.1) (Or.inl (lt_dec k63.2 (by decide)))
        have r83 : SG 440 443 0 11 g76 := by rw [← eg76]; exact i25.up (Int.le_trans (by decide) k63.1) (Or.inl (lt_dec k63.2 (by decide)))
        have r84 : SG 449 449 0 5 g76 := by rw [← eg76]; exact i26.up (Int.le_trans (by decide) k63.1) (Or.inl (lt_dec k63.2 (by decide)))
        have r85 : SG 465 468 0 11 g76 := by rw [← eg76]; exact i27.up (Int.le_trans (by decide) k63.1) (Or.inl (lt_dec k63.2 (by decide)))
        have r86 : SG 474 474 0 5 g76 := by rw [← eg76]; exact i28.up (Int.le_trans (by decide) k63.1) (Or.inl (lt_dec k63.2 (by decide)))
        have r87 : SG 488 488 0 44 g76 := by rw [← eg76]; exact i29.up (Int.le_trans (by decide) k63.1) (Or.inl (lt_dec k63.2 (by decide)))
        refine iast_g hx hb hK hP hD hS 3 0 rfl rfl (ix_k k63 (by decide) (by decide)) eg76 dX10_image_42 (fun H locs hP hD hS => ?_)
        have hP : va_P D vwCl [(h0, .inr (10, vL 67 F1)), (h_s, .inl (cI, 335, .inl f_s)), (h_names, .inl (cJ, 36, .inr (.inl f_names))), (h_images, .inl (cI, 670, .inl g76)), (h_namesKept, .inl (cJ, 36, .inr (.inl f_namesKept))), (h_areKept, .inl (cZ, 2, .inl f_areKept))] H := hP
        have hD : va_D A [(h0, .inr (10, vL 67 F1)), (h_s, .inl (cI, 335, .inl f_s)), (h_names, .inl (cJ, 36, .inr (.inl f_names))), (h_images, .inl (cI, 670, .inl g76)), (h_namesKept, .inl (cJ, 36, .inr (.inl f_namesKept))), (h_areKept, .inl (cZ, 2, .inl f_areKept))] := hD
        obtain ⟨v88, ev88⟩ : ∃ z : Int32, z = u16 + 1 := ⟨_, rfl⟩
        have bv88 : v88.toInt = u16.toInt + 1 := by rw [ev88]; exact add_k rfl rfl k60 ⟨Int.le_refl _, Int.le_refl _⟩ (by decide)
        have k89 : 1 ≤ v88.toInt ∧ v88.toInt ≤ 335 := add_r bv88 k60 ⟨Int.le_refl _, Int.le_refl _⟩ (by decide)
        refine lv_iinc (v := v88) (lv' := [(2, .int v88), (0, .ref h0), (1, .int 0)]) hx hb dX10_image_43 hl (k := 0) rfl (by rw [ev88]; rfl) (by decide) rfl (fun ls hl => ?_)
        refine lv_goto (tgt := 18) hx hb dX10_image_46 (by decide) ?_
        exact ih (v88, g76) ⟨(ir_wk k89 (by decide) (by decide)), r77, r78, r79, r80, r81, r82, r83, r84, r85, r86, r87, (CPY.step i30 eg76 ev65 (by omega) (by omega) (by omega))⟩ (by show (335 - v88.toInt).toNat < (335 - u16.toInt).toNat; omega) _ _ _ hP hD hS (lv_sub hl [0, 1, 2] rfl)
    have dk14 : p0.toInt ≠ 0 := ne_i rfl rfl k14
    have k90 : 1 ≤ p0.toInt ∧ p0.toInt ≤ 1 := ⟨ne_lo dk14 k13.1 ⟨Int.le_refl _, Int.le_refl _⟩ (by decide), k13.2⟩
    have k91 : p0 = 1 := Int32.toInt_inj.mp (show p0.toInt = 1 by omega)
    have dk91 : p0.toInt = 1 := eq_i rfl rfl k91
    have hl : lv_has ls 3 [(0, .ref h0), (1, .int 1)] := by have q := hl; rw [k91] at q; exact q
    refine lv_iconst (v := 0) hx hb dX10_image_16 (by decide) ?_
    refine lv_istore_n (lv' := [(2, .int 0), (0, .ref h0), (1, .int 1)]) hx hb dX10_image_17 rfl hl (by decide) rfl (fun ls hl => ?_)
    refine mloop (α := (Int32) × (Nat → Int32)) (nL := 3) (D := D) (A := A) (H0 := s.heap) (fun a => (335 - a.1.toInt).toNat) (fun a => IR 0 335 a.1 ∧ KW 0 a.2 ∧ SG 0 0 0 40 a.2 ∧ SG 105 108 0 11 a.2 ∧ SG 114 114 0 5 a.2 ∧ SG 130 133 0 11 a.2 ∧ SG 139 139 0 5 a.2 ∧ SG 153 153 0 44 a.2 ∧ SG 44 55 0 9 a.2 ∧ SG 5 5 0 12 a.2 ∧ SG 6 6 0 12 a.2 ∧ SG 7 7 0 6 a.2 ∧ (CPY a.2 335 f_s 0 (a.1.toInt))) (fun a => [(h0, .inr (10, vL 67 F1)), (h_s, .inl (cI, 335, .inl f_s)), (h_names, .inl (cJ, 36, .inr (.inl f_names))), (h_images, .inl (cI, 670, .inl a.2)), (h_namesKept, .inl (cJ, 36, .inr (.inl f_namesKept))), (h_areKept, .inl (cZ, 2, .inl f_areKept))]) (fun a => [(2, .int a.1), (0, .ref h0), (1, .int 1)]) (fun H locs ls => W p l e ({ frames := 1, cells := 0, slots := 0, locals := 22 } : Room) s m [.ref h0, .int p0].toArray below meth c H locs 0 0 (MQ below (va_Qi (fun (r : Int32) (u : va_W) => (∃ (Gh : Nat → Value), SAME [0] Fh Gh ∧ Gh 0 = .int 0 ∧ p0.toInt < 0 ∧ ((r = 1 → p0.toInt = 0 → f_areKept 0 = 1 ∧ f_areKept 1 = f_areKept 1) ∧ (r = 1 → p0.toInt = 1 → f_areKept 1 = 1 ∧ f_areKept 0 = f_areKept 0)) ∧ r = 0 ∧ u = [(h0, .inr (10, vL 67 Gh)), (h_s, .inl (cI, 335, .inl f_s)), (h_names, .inl (cJ, 36, .inr (.inl f_names))), (h_images, .inl (cI, 670, .inl f_images)), (h_namesKept, .inl (cJ, 36, .inr (.inl f_namesKept))), (h_areKept, .inl (cZ, 2, .inl f_areKept))]) ∨ (∃ (Gh : Nat → Value), SAME [0] Fh Gh ∧ Gh 0 = .int 0 ∧ 0 ≤ p0.toInt ∧ 1 < p0.toInt ∧ ((r = 1 → p0.toInt = 0 → f_areKept 0 = 1 ∧ f_areKept 1 = f_areKept 1) ∧ (r = 1 → p0.toInt = 1 → f_areKept 1 = 1 ∧ f_areKept 0 = f_areKept 0)) ∧ r = 0 ∧ u = [(h0, .inr (10, vL 67 Gh)), (h_s, .inl (cI, 335, .inl f_s)), (h_names, .inl (cJ, 36, .inr (.inl f_names))), (h_images, .inl (cI, 670, .inl f_images)), (h_namesKept, .inl (cJ, 36, .inr (.inl f_namesKept))), (h_areKept, .inl (cZ, 2, .inl f_areKept))]) ∨ (∃ (Gh : Nat → Value) (g_images : Nat → Int32) (g_namesKept : Nat → Int64) (g_areKept : Nat → Int32), SAME [0] Fh Gh ∧ Gh 0 = .int 0 ∧ SG 153 153 0 44 g_images ∧ SG 0 0 0 40 g_images ∧ SG 5 5 0 12 g_images ∧ SG 6 6 0 12 g_images ∧ SG 7 7 0 6 g_images ∧ SG 44 55 0 9 g_images ∧ KW 0 g_images ∧ SG 105 108 0 11 g_images ∧ SG 114 114 0 5 g_images ∧ SG 130 133 0 11 g_images ∧ SG 139 139 0 5 g_images ∧ SG 488 488 0 44 g_images ∧ SG 335 335 0 40 g_images ∧ SG 340 340 0 12 g_images ∧ SG 341 341 0 12 g_images ∧ SG 342 342 0 6 g_images ∧ SG 379 390 0 9 g_images ∧ KW 335 g_images ∧ SG 440 443 0 11 g_images ∧ SG 449 449 0 5 g_images ∧ SG 465 468 0 11 g_images ∧ SG 474 474 0 5 g_images ∧ 0 ≤ p0.toInt ∧ p0.toInt ≤ 1 ∧ p0.toInt = 0 ∧ ((r = 1 → p0.toInt = 0 → g_areKept 0 = 1 ∧ g_areKept 1 = f_areKept 1) ∧ (r = 1 → p0.toInt = 1 → g_areKept 1 = 1 ∧ g_areKept 0 = f_areKept 0)) ∧ r = 1 ∧ u = [(h0, .inr (10, vL 67 Gh)), (h_s, .inl (cI, 335, .inl f_s)), (h_names, .inl (cJ, 36, .inr (.inl f_names))), (h_images, .inl (cI, 670, .inl g_images)), (h_namesKept, .inl (cJ, 36, .inr (.inl g_namesKept))), (h_areKept, .inl (cZ, 2, .inl g_areKept))]) ∨ (∃ (Gh : Nat → Value) (g_images : Nat → Int32) (g_namesKept : Nat → Int64) (g_areKept : Nat → Int32), SAME [0] Fh Gh ∧ Gh 0 = .int 0 ∧ SG 153 153 0 44 g_images ∧ SG 0 0 0 40 g_images ∧ SG 5 5 0 12 g_images ∧ SG 6 6 0 12 g_images ∧ SG 7 7 0 6 g_images ∧ SG 44 55 0 9 g_images ∧ KW 0 g_images ∧ SG 105 108 0 11 g_images ∧ SG 114 114 0 5 g_images ∧ SG 130 133 0 11 g_images ∧ SG 139 139 0 5 g_images ∧ SG 488 488 0 44 g_images ∧ SG 335 335 0 40 g_images ∧ SG 340 340 0 12 g_images ∧ SG 341 341 0 12 g_images ∧ SG 342 342 0 6 g_images ∧ SG 379 390 0 9 g_images ∧ KW 335 g_images ∧ SG 440 443 0 11 g_images ∧ SG 449 449 0 5 g_images ∧ SG 465 468 0 11 g_images ∧ SG 474 474 0 5 g_images ∧ 0 ≤ p0.toInt ∧ p0.toInt ≤ 1 ∧ p0.toInt = 1 ∧ ((r = 1 → p0.toInt = 0 → g_areKept 0 = 1 ∧ g_areKept 1 = f_areKept 1) ∧ (r = 1 → p0.toInt = 1 → g_areKept 1 = 1 ∧ g_areKept 0 = f_areKept 0)) ∧ r = 1 ∧ u = [(h0, .inr (10, vL 67 Gh)), (h_s, .inl (cI, 335, .inl f_s)), (h_names, .inl (cJ, 36, .inr (.inl f_names))), (h_images, .inl (cI, 670, .inl g_images)), (h_namesKept, .inl (cJ, 36, .inr (.inl g_namesKept))), (h_areKept, .inl (cZ, 2, .inl g_areKept))])) (PO D A) A) [.ref h0, .int p0].toArray s 0 0 A) (F0 m 18 ls [])) ?_ (0, f_images) ⟨(show 0 ≤ (0 : Int32).toInt ∧ (0 : Int32).toInt ≤ 335 by decide), s_images_K0, s_images_0, s_images_105, s_images_114, s_images_130, s_images_139, s_images_153, s_images_44, s_images_5, s_images_6, s_images_7, (show CPY f_images 335 f_s 0 (0) from (CPY.zero (by decide)))⟩ _ _ _ hP hD hS hl
    rintro ⟨u92, w93⟩ ⟨i94, i95, i96, i97, i98, i99, i100, i101, i102, i103, i104, i105, i106⟩ ih H locs ls hP hD hS hl
    have i94 : 0 ≤ u92.toInt ∧ u92.toInt ≤ 335 := i94
    have i106 : CPY w93 335 f_s 0 (u92.toInt) := i106
    have hP : va_P D vwCl [(h0, .inr (10, vL 67 F1)), (h_s, .inl (cI, 335, .inl f_s)), (h_names, .inl (cJ, 36, .inr (.inl f_names))), (h_images, .inl (cI, 670, .inl w93)), (h_namesKept, .inl (cJ, 36, .inr (.inl f_namesKept))), (h_areKept, .inl (cZ, 2, .inl f_areKept))] H := hP
    have hD : va_D A [(h0, .inr (10, vL 67 F1)), (h_s, .inl (cI, 335, .inl f_s)), (h_names, .inl (cJ, 36, .inr (.inl f_names))), (h_images, .inl (cI, 670, .inl w93)), (h_namesKept, .inl (cJ, 36, .inr (.inl f_namesKept))), (h_areKept, .inl (cZ, 2, .inl f_areKept))] := hD
    have hl : lv_has ls 3 [(2, .int u92), (0, .ref h0), (1, .int 1)] := hl
    refine lv_iload_n hx hb dX10_image_18 rfl (lv_at hl 0 rfl) ?_
    refine lv_sipush (v := 335) hx hb dX10_image_19 (by decide) ?_
    refine lv_icmp_ge (tgt := 49) hx hb dX10_image_22 (by decide) (fun c107 => ?_) (fun c107 => ?_)
    · have dc107 : 335 ≤ u92.toInt := le_i (a := 335) (b := u92.toInt) rfl rfl c107
      have k108 : 335 ≤ u92.toInt ∧ u92.toInt ≤ 335 := ⟨Int.le_trans (Int.le_refl _) dc107, i94.2⟩
      have r109 : KW 335 w93 := KW.cpy i106 s_s_K0 (by omega) (by decide)
      have r110 : SG 335 335 0 40 w93 := SG.cpy i106 s_s_0 (by decide) (by decide) (by decide) (by omega)
      have r111 : SG 440 443 0 11 w93 := SG.cpy i106 s_s_105 (by decide) (by decide) (by decide) (by omega)
      have r112 : SG 449 449 0 5 w93 := SG.cpy i106 s_s_114 (by decide) (by decide) (by decide) (by omega)
      have r113 : SG 465 468 0 11 w93 := SG.cpy i106 s_s_130 (by decide) (by decide) (by decide) (by omega)
      have r114 : SG 474 474 0 5 w93 := SG.cpy i106 s_s_139 (by decide) (by decide) (by decide) (by omega)
      have r115 : SG 488 488 0 44 w93 := SG.cpy i106 s_s_153 (by decide) (by decide) (by decide) (by omega)
      have r116 : SG 379 390 0 9 w93 := SG.cpy i106 s_s_44 (by decide) (by decide) (by decide) (by omega)
      have r117 : SG 340 340 0 12 w93 := SG.cpy i106 s_s_5 (by decide) (by decide) (by decide) (by omega)
      have r118 : SG 341 341 0 12 w93 := SG.cpy i106 s_s_6 (by decide) (by decide) (by decide) (by omega)
      have r119 : SG 342 342 0 6 w93 := SG.cpy i106 s_s_7 (by decide) (by decide) (by decide) (by omega)
      refine lv_iconst (v := 0) hx hb dX10_image_49 (by decide) ?_
      refine lv_istore_n (lv' := [(2, .int 0), (0, .ref h0), (1, .int 1)]) hx hb dX10_image_50 rfl hl (by decide) rfl (fun ls hl => ?_)
      refine mloop (α := (Int32) × (Nat → Int64)) (nL := 3) (D := D) (A := A) (H0 := s.heap) (fun a => (18 - a.1.toInt).toNat) (fun a => IR 0 18 a.1) (fun a => [(h0, .inr (10, vL 67 F1)), (h_s, .inl (cI, 335, .inl f_s)), (h_names, .inl (cJ, 36, .inr (.inl f_names))), (h_images, .inl (cI, 670, .inl w93)), (h_namesKept, .inl (cJ, 36, .inr (.inl a.2))), (h_areKept, .inl (cZ, 2, .inl f_areKept))]) (fun a => [(2, .int a.1), (0, .ref h0), (1, .int 1)]) (fun H locs ls => W p l e ({ frames := 1, cells := 0, slots := 0, locals := 22 } : Room) s m [.ref h0, .int p0].toArray below meth c H locs 0 0 (MQ below (va_Qi (fun (r : Int32) (u : va_W) => (∃ (Gh : Nat → Value), SAME [0] Fh Gh ∧ Gh 0 = .int 0 ∧ p0.toInt < 0 ∧ ((r = 1 → p0.toInt = 0 → f_areKept 0 = 1 ∧ f_areKept 1 = f_areKept 1) ∧ (r = 1 → p0.toInt = 1 → f_areKept 1 = 1 ∧ f_areKept 0 = f_areKept 0)) ∧ r = 0 ∧ u = [(h0, .inr (10, vL 67 Gh)), (h_s, .inl (cI, 335, .inl f_s)), (h_names, .inl (cJ, 36, .inr (.inl f_names))), (h_images, .inl (cI, 670, .inl f_images)), (h_namesKept, .inl (cJ, 36, .inr (.inl f_namesKept))), (h_areKept, .inl (cZ, 2, .inl f_areKept))]) ∨ (∃ (Gh : Nat → Value), SAME [0] Fh Gh ∧ Gh 0 = .int 0 ∧ 0 ≤ p0.toInt ∧ 1 < p0.toInt ∧ ((r = 1 → p0.toInt = 0 → f_areKept 0 = 1 ∧ f_areKept 1 = f_areKept 1) ∧ (r = 1 → p0.toInt = 1 → f_areKept 1 = 1 ∧ f_areKept 0 = f_areKept 0)) ∧ r = 0 ∧ u = [(h0, .inr (10, vL 67 Gh)), (h_s, .inl (cI, 335, .inl f_s)), (h_names, .inl (cJ, 36, .inr (.inl f_names))), (h_images, .inl (cI, 670, .inl f_images)), (h_namesKept, .inl (cJ, 36, .inr (.inl f_namesKept))), (h_areKept, .inl (cZ, 2, .inl f_areKept))]) ∨ (∃ (Gh : Nat → Value) (g_images : Nat → Int32) (g_namesKept : Nat → Int64) (g_areKept : Nat → Int32), SAME [0] Fh Gh ∧ Gh 0 = .int 0 ∧ SG 153 153 0 44 g_images ∧ SG 0 0 0 40 g_images ∧ SG 5 5 0 12 g_images ∧ SG 6 6 0 12 g_images ∧ SG 7 7 0 6 g_images ∧ SG 44 55 0 9 g_images ∧ KW 0 g_images ∧ SG 105 108 0 11 g_images ∧ SG 114 114 0 5 g_images ∧ SG 130 133 0 11 g_images ∧ SG 139 139 0 5 g_images ∧ SG 488 488 0 44 g_images ∧ SG 335 335 0 40 g_images ∧ SG 340 340 0 12 g_images ∧ SG 341 341 0 12 g_images ∧ SG 342 342 0 6 g_images ∧ SG 379 390 0 9 g_images ∧ KW 335 g_images ∧ SG 440 443 0 11 g_images ∧ SG 449 449 0 5 g_images ∧ SG 465 468 0 11 g_images ∧ SG 474 474 0 5 g_images ∧ 0 ≤ p0.toInt ∧ p0.toInt ≤ 1 ∧ p0.toInt = 0 ∧ ((r = 1 → p0.toInt = 0 → g_areKept 0 = 1 ∧ g_areKept 1 = f_areKept 1) ∧ (r = 1 → p0.toInt = 1 → g_areKept 1 = 1 ∧ g_areKept 0 = f_areKept 0)) ∧ r = 1 ∧ u = [(h0, .inr (10, vL 67 Gh)), (h_s, .inl (cI, 335, .inl f_s)), (h_names, .inl (cJ, 36, .inr (.inl f_names))), (h_images, .inl (cI, 670, .inl g_images)), (h_namesKept, .inl (cJ, 36, .inr (.inl g_namesKept))), (h_areKept, .inl (cZ, 2, .inl g_areKept))]) ∨ (∃ (Gh : Nat → Value) (g_images : Nat → Int32) (g_namesKept : Nat → Int64) (g_areKept : Nat → Int32), SAME [0] Fh Gh ∧ Gh 0 = .int 0 ∧ SG 153 153 0 44 g_images ∧ SG 0 0 0 40 g_images ∧ SG 5 5 0 12 g_images ∧ SG 6 6 0 12 g_images ∧ SG 7 7 0 6 g_images ∧ SG 44 55 0 9 g_images ∧ KW 0 g_images ∧ SG 105 108 0 11 g_images ∧ SG 114 114 0 5 g_images ∧ SG 130 133 0 11 g_images ∧ SG 139 139 0 5 g_images ∧ SG 488 488 0 44 g_images ∧ SG 335 335 0 40 g_images ∧ SG 340 340 0 12 g_images ∧ SG 341 341 0 12 g_images ∧ SG 342 342 0 6 g_images ∧ SG 379 390 0 9 g_images ∧ KW 335 g_images ∧ SG 440 443 0 11 g_images ∧ SG 449 449 0 5 g_images ∧ SG 465 468 0 11 g_images ∧ SG 474 474 0 5 g_images ∧ 0 ≤ p0.toInt ∧ p0.toInt ≤ 1 ∧ p0.toInt = 1 ∧ ((r = 1 → p0.toInt = 0 → g_areKept 0 = 1 ∧ g_areKept 1 = f_areKept 1) ∧ (r = 1 → p0.toInt = 1 → g_areKept 1 = 1 ∧ g_areKept 0 = f_areKept 0)) ∧ r = 1 ∧ u = [(h0, .inr (10, vL 67 Gh)), (h_s, .inl (cI, 335, .inl f_s)), (h_names, .inl (cJ, 36, .inr (.inl f_names))), (h_images, .inl (cI, 670, .inl g_images)), (h_namesKept, .inl (cJ, 36, .inr (.inl g_namesKept))), (h_areKept, .inl (cZ, 2, .inl g_areKept))])) (PO D A) A) [.ref h0, .int p0].toArray s 0 0 A) (F0 m 51 ls [])) ?_ (0, f_namesKept) (show 0 ≤ (0 : Int32).toInt ∧ (0 : Int32).toInt ≤ 18 by decide) _ _ _ hP hD hS hl
      rintro ⟨u120, w121⟩ i122 ih_51 H locs ls hP hD hS hl
      have i122 : 0 ≤ u120.toInt ∧ u120.toInt ≤ 18 := i122
      have hP : va_P D vwCl [(h0, .inr (10, vL 67 F1)), (h_s, .inl (cI, 335, .inl f_s)), (h_names, .inl (cJ, 36, .inr (.inl f_names))), (h_images, .inl (cI, 670, .inl w93)), (h_namesKept, .inl (cJ, 36, .inr (.inl w121))), (h_areKept, .inl (cZ, 2, .inl f_areKept))] H := hP
      have hD : va_D A [(h0, .inr (10, vL 67 F1)), (h_s, .inl (cI, 335, .inl f_s)), (h_names, .inl (cJ, 36, .inr (.inl f_names))), (h_images, .inl (cI, 670, .inl w93)), (h_namesKept, .inl (cJ, 36, .inr (.inl w121))), (h_areKept, .inl (cZ, 2, .inl f_areKept))] := hD
      have hl : lv_has ls 3 [(2, .int u120), (0, .ref h0), (1, .int 1)] := hl
      refine lv_iload_n hx hb dX10_image_51 rfl (lv_at hl 0 rfl) ?_
      refine lv_bipush (v := 18) hx hb dX10_image_52 (by decide) ?_
      refine lv_icmp_ge (tgt := 80) hx hb dX10_image_54 (by decide) (fun c123 => ?_) (fun c123 => ?_)
      · have dc123 : 18 ≤ u120.toInt := le_i (a := 18) (b := u120.toInt) rfl rfl c123
        have k124 : 18 ≤ u120.toInt ∧ u120.toInt ≤ 18 := ⟨Int.le_trans (Int.le_refl _) dc123, i122.2⟩
        refine lv_aload_n hx hb dX10_image_80 rfl (lv_at hl 1 rfl) ?_
        have n125 : F1 66 = .ref h_areKept := (get_ne eF1 (by decide) e_areKept)
        refine get_f (D := D) (ci := 10) (v := .ref h_areKept) (C := RX10) (T := TX10) (N := 67) hx hb hw inAX10 hown hK hP 0 rfl rfl 66 (by decide) (hw _ q_1327) (fun _ h9 => h9) n125 dX10_image_81 ?_
        refine lv_iload_n hx hb dX10_image_84 rfl (lv_at hl 2 rfl) ?_
        refine lv_iconst (v := 1) hx hb dX10_image_85 (by decide) ?_
        obtain ⟨g126, eg126⟩ : ∃ z : Nat → Int32, upd f_areKept 1 (vp_nar .boolean 1) = z := ⟨_, rfl⟩
        refine zast_n hx hb hK hP hD hS 5 5 rfl rfl 1 rfl (Nat.le_of_ble_eq_true rfl) (Nat.le_of_ble_eq_true rfl) eg126 dX10_image_86 (fun H locs hP hD hS => ?_)
        have hP : va_P D vwCl [(h0, .inr (10, vL 67 F1)), (h_s, .inl (cI, 335, .inl f_s)), (h_names, .inl (cJ, 36, .inr (.inl f_names))), (h_images, .inl (cI, 670, .inl w93)), (h_namesKept, .inl (cJ, 36, .inr (.inl w121))), (h_areKept, .inl (cZ, 2, .inl g126))] H := hP
        have hD : va_D A [(h0, .inr (10, vL 67 F1)), (h_s, .inl (cI, 335, .inl f_s)), (h_names, .inl (cJ, 36, .inr (.inl f_names))), (h_images, .inl (cI, 670, .inl w93)), (h_namesKept, .inl (cJ, 36, .inr (.inl w121))), (h_areKept, .inl (cZ, 2, .inl g126))] := hD
        refine lv_iconst (v := 1) hx hb dX10_image_87 (by decide) ?_
        exact ret_i (v := 1) hx hb hr hlocks hS hP hD dX10_image_88 rfl (Nat.le_of_ble_eq_true rfl) (Nat.le_of_ble_eq_true rfl) (Or.inr (Or.inr (Or.inr ⟨F1, w93, w121, g126, (SAME.up eF1 SAME.rf (by decide)), (get_eq eF1), i101, i96, i103, i104, i105, i102, i95, i97, i98, i99, i100, r115, r110, r117, r118, r119, r116, r109, r111, r112, r113, r114, t6, t7, dk91, ⟨fun _ q => absurd q (by omega), fun _ q => ⟨by rw [← eg126, pk_us]; rfl, by rw [← eg126, pk_un (by decide)]⟩⟩, rfl, rfl⟩)))
      · have dc123 : u120.toInt < 18 := nle_i (a := 18) (b := u120.toInt) rfl rfl c123
        have k127 : 0 ≤ u120.toInt ∧ u120.toInt ≤ 17 := ⟨i122.1, up_lt dc123 (Int.le_refl _) (by decide)⟩
        refine lv_aload_n hx hb dX10_image_57 rfl (lv_at hl 1 rfl) ?_
        have n128 : F1 65 = .ref h_namesKept := (get_ne eF1 (by decide) e_namesKept)
        refine get_f (D := D) (ci := 10) (v := .ref h_namesKept) (C := RX10) (T := TX10) (N := 67) hx hb hw inAX10 hown hK hP 0 rfl rfl 65 (by decide) (hw _ q_1326) (fun _ h9 => h9) n128 dX10_image_58 ?_
        refine lv_bipush (v := 18) hx hb dX10_image_61 (by decide) ?_
        refine lv_iload_n hx hb dX10_image_63 rfl (lv_at hl 2 rfl) ?_
        refine lv_imul hx hb dX10_image_64 ?_
        refine lv_ci (y := 18) (by decide +kernel) ?_
        refine lv_iload_n hx hb dX10_image_65 rfl (lv_at hl 0 rfl) ?_
        refine lv_iadd hx hb dX10_image_66 ?_
        refine lv_topi (fun v129 ev129 => ?_)
        have bv129 : v129.toInt = 18 + u120.toInt := by rw [ev129]; exact add_k rfl rfl ⟨Int.le_refl _, Int.le_refl _⟩ k127 (by decide)
        have k130 : 18 ≤ v129.toInt ∧ v129.toInt ≤ 35 := add_r bv129 ⟨Int.le_refl _, Int.le_refl _⟩ k127 (by decide)
        refine lv_aload_n hx hb dX10_image_67 rfl (lv_at hl 1 rfl) ?_
        have n131 : F1 9 = .ref h_names := (get_ne eF1 (by decide) e_names)
        refine get_f (D := D) (ci := 10) (v := .ref h_names) (C := RX10) (T := TX10) (N := 67) hx hb hw inAX10 hown hK hP 0 rfl rfl 9 (by decide) (hw _ q_1270) (fun _ h9 => h9) n131 dX10_image_68 ?_
        refine lv_iload_n hx hb dX10_image_71 rfl (lv_at hl 0 rfl) ?_
        refine va_lald hx hb hK hP 2 1 rfl rfl (ix_k k127 (by decide) (by decide)) dX10_image_72 ?_
        refine lv_topl (fun v132 ev132 => ?_)
        obtain ⟨g133, eg133⟩ : ∃ z : Nat → Int64, vp_updL w121 v129.toNatClampNeg v132 = z := ⟨_, rfl⟩
        refine last_g hx hb hK hP hD hS 4 1 rfl rfl (ix_k k130 (by decide) (by decide)) eg133 dX10_image_73 (fun H locs hP hD hS => ?_)
        have hP : va_P D vwCl [(h0, .inr (10, vL 67 F1)), (h_s, .inl (cI, 335, .inl f_s)), (h_names, .inl (cJ, 36, .inr (.inl f_names))), (h_images, .inl (cI, 670, .inl w93)), (h_namesKept, .inl (cJ, 36, .inr (.inl g133))), (h_areKept, .inl (cZ, 2, .inl f_areKept))] H := hP
        have hD : va_D A [(h0, .inr (10, vL 67 F1)), (h_s, .inl (cI, 335, .inl f_s)), (h_names, .inl (cJ, 36, .inr (.inl f_names))), (h_images, .inl (cI, 670, .inl w93)), (h_namesKept, .inl (cJ, 36, .inr (.inl g133))), (h_areKept, .inl (cZ, 2, .inl f_areKept))] := hD
        obtain ⟨v134, ev134⟩ : ∃ z : Int32, z = u120 + 1 := ⟨_, rfl⟩
        have bv134 : v134.toInt = u120.toInt + 1 := by rw [ev134]; exact add_k rfl rfl k127 ⟨Int.le_refl _, Int.le_refl _⟩ (by decide)
        have k135 : 1 ≤ v134.toInt ∧ v134.toInt ≤ 18 := add_r bv134 k127 ⟨Int.le_refl _, Int.le_refl _⟩ (by decide)
        refine lv_iinc (v := v134) (lv' := [(2, .int v134), (0, .ref h0), (1, .int 1)]) hx hb dX10_image_74 hl (k := 0) rfl (by rw [ev134]; rfl) (by decide) rfl (fun ls hl => ?_)
        refine lv_goto (tgt := 51) hx hb dX10_image_77 (by decide) ?_
        exact ih_51 (v134, g133) (ir_wk k135 (by decide) (by decide)) (by show (18 - v134.toInt).toNat < (18 - u120.toInt).toNat; omega) _ _ _ hP hD hS (lv_sub hl [0, 1, 2] rfl)
    · have dc107 : u92.toInt < 335 := nle_i (a := 335) (b := u92.toInt) rfl rfl c107
      have k136 : 0 ≤ u92.toInt ∧ u92.toInt ≤ 334 := ⟨i94.1, up_lt dc107 (Int.le_refl _) (by decide)⟩
      refine lv_aload_n hx hb dX10_image_25 rfl (lv_at hl 1 rfl) ?_
      have n137 : F1 64 = .ref h_images := (get_ne eF1 (by decide) e_images)
      refine get_f (D := D) (ci := 10) (v := .ref h_images) (C := RX10) (T := TX10) (N := 67) hx hb hw inAX10 hown hK hP 0 rfl rfl 64 (by decide) (hw _ q_1325) (fun _ h9 => h9) n137 dX10_image_26 ?_
      refine lv_sipush (v := 335) hx hb dX10_image_29 (by decide) ?_
      refine lv_iload_n hx hb dX10_image_32 rfl (lv_at hl 2 rfl) ?_
      refine lv_imul hx hb dX10_image_33 ?_
      refine lv_ci (y := 335) (by decide +kernel) ?_
      refine lv_iload_n hx hb dX10_image_34 rfl (lv_at hl 0 rfl) ?_
      refine lv_iadd hx hb dX10_image_35 ?_
      refine lv_topi (fun v138 ev138 => ?_)
      have bv138 : v138.toInt = 335 + u92.toInt := by rw [ev138]; exact add_k rfl rfl ⟨Int.le_refl _, Int.le_refl _⟩ k136 (by decide)
      have k139 : 335 ≤ v138.toInt ∧ v138.toInt ≤ 669 := add_r bv138 ⟨Int.le_refl _, Int.le_refl _⟩ k136 (by decide)
      refine lv_aload_n hx hb dX10_image_36 rfl (lv_at hl 1 rfl) ?_
      have n140 : F1 6 = .ref h_s := (get_ne eF1 (by decide) e_s)
      refine get_f (D := D) (ci := 10) (v := .ref h_s) (C := RX10) (T := TX10) (N := 67) hx hb hw inAX10 hown hK hP 0 rfl rfl 6 (by decide) (hw _ q_1267) (fun _ h9 => h9) n140 dX10_image_37 ?_
      refine lv_iload_n hx hb dX10_image_40 rfl (lv_at hl 0 rfl) ?_
      refine va_iald hx hb hK hP 1 0 rfl rfl (ix_k k136 (by decide) (by decide)) dX10_image_41 ?_
      refine lv_topi (fun v141 ev141 => ?_)
      have r142 : IMP (0 ≤ u92.toInt → u92.toInt ≤ 0 → 0 ≤ v141.toInt ∧ v141.toInt ≤ 40) := IMP.mk (fun q1 q2 => by rw [ev141]; exact s_s_0.at _ q1 q2)
      have r143 : IMP (105 ≤ u92.toInt → u92.toInt ≤ 108 → 0 ≤ v141.toInt ∧ v141.toInt ≤ 11) := IMP.mk (fun q1 q2 => by rw [ev141]; exact s_s_105.at _ q1 q2)
      have r144 : IMP (114 ≤ u92.toInt → u92.toInt ≤ 114 → 0 ≤ v141.toInt ∧ v141.toInt ≤ 5) := IMP.mk (fun q1 q2 => by rw [ev141]; exact s_s_114.at _ q1 q2)
      have r145 : IMP (130 ≤ u92.toInt → u92.toInt ≤ 133 → 0 ≤ v141.toInt ∧ v141.toInt ≤ 11) := IMP.mk (fun q1 q2 => by rw [ev141]; exact s_s_130.at _ q1 q2)
      have r146 : IMP (139 ≤ u92.toInt → u92.toInt ≤ 139 → 0 ≤ v141.toInt ∧ v141.toInt ≤ 5) := IMP.mk (fun q1 q2 => by rw [ev141]; exact s_s_139.at _ q1 q2)
      have r147 : IMP (153 ≤ u92.toInt → u92.toInt ≤ 153 → 0 ≤ v141.toInt ∧ v141.toInt ≤ 44) := IMP.mk (fun q1 q2 => by rw [ev141]; exact s_s_153.at _ q1 q2)
      have r148 : IMP (44 ≤ u92.toInt → u92.toInt ≤ 55 → 0 ≤ v141.toInt ∧ v141.toInt ≤ 9) := IMP.mk (fun q1 q2 => by rw [ev141]; exact s_s_44.at _ q1 q2)
      have r149 : IMP (5 ≤ u92.toInt → u92.toInt ≤ 5 → 0 ≤ v141.toInt ∧ v141.toInt ≤ 12) := IMP.mk (fun q1 q2 => by rw [ev141]; exact s_s_5.at _ q1 q2)
      have r150 : IMP (6 ≤ u92.toInt → u92.toInt ≤ 6 → 0 ≤ v141.toInt ∧ v141.toInt ≤ 12) := IMP.mk (fun q1 q2 => by rw [ev141]; exact s_s_6.at _ q1 q2)
      have r151 : IMP (7 ≤ u92.toInt → u92.toInt ≤ 7 → 0 ≤ v141.toInt ∧ v141.toInt ≤ 6) := IMP.mk (fun q1 q2 => by rw [ev141]; exact s_s_7.at _ q1 q2)
      obtain ⟨g152, eg152⟩ : ∃ z : Nat → Int32, upd w93 v138.toNatClampNeg v141 = z := ⟨_, rfl⟩
      have r153 : KW 0 g152 := by rw [← eg152]; exact i95.up (by omega) (by omega)
      have r154 : SG 0 0 0 40 g152 := by rw [← eg152]; exact i96.up (Int.le_trans (by decide) k139.1) (Or.inr (Or.inl (dec_lt k139.1 (by decide))))
      have r155 : SG 105 108 0 11 g152 := by rw [← eg152]; exact i97.up (Int.le_trans (by decide) k139.1) (Or.inr (Or.inl (dec_lt k139.1 (by decide))))
      have r156 : SG 114 114 0 5 g152 := by rw [← eg152]; exact i98.up (Int.le_trans (by decide) k139.1) (Or.inr (Or.inl (dec_lt k139.1 (by decide))))
      have r157 : SG 130 133 0 11 g152 := by rw [← eg152]; exact i99.up (Int.le_trans (by decide) k139.1) (Or.inr (Or.inl (dec_lt k139.1 (by decide))))
      have r158 : SG 139 139 0 5 g152 := by rw [← eg152]; exact i100.up (Int.le_trans (by decide) k139.1) (Or.inr (Or.inl (dec_lt k139.1 (by decide))))
      have r159 : SG 153 153 0 44 g152 := by rw [← eg152]; exact i101.up (Int.le_trans (by decide) k139.1) (Or.inr (Or.inl (dec_lt k139.1 (by decide))))
      have r160 : SG 44 55 0 9 g152 := by rw [← eg152]; exact i102.up (Int.le_trans (by decide) k139.1) (Or.inr (Or.inl (dec_lt k139.1 (by decide))))
      have r161 : SG 5 5 0 12 g152 := by rw [← eg152]; exact i103.up (Int.le_trans (by decide) k139.1) (Or.inr (Or.inl (dec_lt k139.1 (by decide))))
      have r162 : SG 6 6 0 12 g152 := by rw [← eg152]; exact i104.up (Int.le_trans (by decide) k139.1) (Or.inr (Or.inl (dec_lt k139.1 (by decide))))
      have r163 : SG 7 7 0 6 g152 := by rw [← eg152]; exact i105.up (Int.le_trans (by decide) k139.1) (Or.inr (Or.inl (dec_lt k139.1 (by decide))))
      refine iast_g hx hb hK hP hD hS 3 0 rfl rfl (ix_k k139 (by decide) (by decide)) eg152 dX10_image_42 (fun H locs hP hD hS => ?_)
      have hP : va_P D vwCl [(h0, .inr (10, vL 67 F1)), (h_s, .inl (cI, 335, .inl f_s)), (h_names, .inl (cJ, 36, .inr (.inl f_names))), (h_images, .inl (cI, 670, .inl g152)), (h_namesKept, .inl (cJ, 36, .inr (.inl f_namesKept))), (h_areKept, .inl (cZ, 2, .inl f_areKept))] H := hP
      have hD : va_D A [(h0, .inr (10, vL 67 F1)), (h_s, .inl (cI, 335, .inl f_s)), (h_names, .inl (cJ, 36, .inr (.inl f_names))), (h_images, .inl (cI, 670, .inl g152)), (h_namesKept, .inl (cJ, 36, .inr (.inl f_namesKept))), (h_areKept, .inl (cZ, 2, .inl f_areKept))] := hD
      obtain ⟨v164, ev164⟩ : ∃ z : Int32, z = u92 + 1 := ⟨_, rfl⟩
      have bv164 : v164.toInt = u92.toInt + 1 := by rw [ev164]; exact add_k rfl rfl k136 ⟨Int.le_refl _, Int.le_refl _⟩ (by decide)
      have k165 : 1 ≤ v164.toInt ∧ v164.toInt ≤ 335 := add_r bv164 k136 ⟨Int.le_refl _, Int.le_refl _⟩ (by decide)
      refine lv_iinc (v := v164) (lv' := [(2, .int v164), (0, .ref h0), (1, .int 1)]) hx hb dX10_image_43 hl (k := 0) rfl (by rw [ev164]; rfl) (by decide) rfl (fun ls hl => ?_)
      refine lv_goto (tgt := 18) hx hb dX10_image_46 (by decide) ?_
      exact ih (v164, g152) ⟨(ir_wk k165 (by decide) (by decide)), r153, r154, r155, r156, r157, r158, r159, r160, r161, r162, r163, (CPY.step i106 eg152 ev141 (by omega) (by omega) (by omega))⟩ (by show (335 - v164.toInt).toNat < (335 - u92.toInt).toNat; omega) _ _ _ hP hD hS (lv_sub hl [0, 1, 2] rfl)
set_option maxHeartbeats 4000000 in
set_option maxRecDepth 100000 in
theorem m_X10_restore (l : Launch) (D : va_G) (cI cJ cB cP cM cZ : ClassId) (h0 : Nat) (h_s : Nat) (h_names : Nat) (h_images : Nat) (h_namesKept : Nat) (h_areKept : Nat) (Fh : Nat → Value) (f_s : Nat → Int32) (f_names : Nat → Int64) (f_images : Nat → Int32) (f_namesKept : Nat → Int64) (f_areKept : Nat → Int32) (p0 : Int32) (sz : Nat) (e_s : Fh 6 = .ref h_s) (e_names : Fh 9 = .ref h_names) (e_images : Fh 64 = .ref h_images) (e_namesKept : Fh 65 = .ref h_namesKept) (e_areKept : Fh 66 = .ref h_areKept) (s_s_K0 : KW 0 f_s) (s_s_0 : SG 0 0 0 40 f_s) (s_s_105 : SG 105 108 0 11 f_s) (s_s_114 : SG 114 114 0 5 f_s) (s_s_130 : SG 130 133 0 11 f_s) (s_s_139 : SG 139 139 0 5 f_s) (s_s_153 : SG 153 153 0 44 f_s) (s_s_44 : SG 44 55 0 9 f_s) (s_s_5 : SG 5 5 0 12 f_s) (s_s_6 : SG 6 6 0 12 f_s) (s_s_7 : SG 7 7 0 6 f_s) (s_images_K0 : KW 0 f_images) (s_images_K335 : KW 335 f_images) (s_images_0 : SG 0 0 0 40 f_images) (s_images_105 : SG 105 108 0 11 f_images) (s_images_114 : SG 114 114 0 5 f_images) (s_images_130 : SG 130 133 0 11 f_images) (s_images_139 : SG 139 139 0 5 f_images) (s_images_153 : SG 153 153 0 44 f_images) (s_images_335 : SG 335 335 0 40 f_images) (s_images_340 : SG 340 340 0 12 f_images) (s_images_341 : SG 341 341 0 12 f_images) (s_images_342 : SG 342 342 0 6 f_images) (s_images_379 : SG 379 390 0 9 f_images) (s_images_44 : SG 44 55 0 9 f_images) (s_images_440 : SG 440 443 0 11 f_images) (s_images_449 : SG 449 449 0 5 f_images) (s_images_465 : SG 465 468 0 11 f_images) (s_images_474 : SG 474 474 0 5 f_images) (s_images_488 : SG 488 488 0 44 f_images) (s_images_5 : SG 5 5 0 12 f_images) (s_images_6 : SG 6 6 0 12 f_images) (s_images_7 : SG 7 7 0 6 f_images) : CI l yX10_restore cX10_restore 3 (some .boolean) { frames := 1, cells := 0, slots := 0, locals := 22 } (GG D cI cJ cB cP cM cZ) D [(h0, .inr (10, vL 67 Fh)), (h_s, .inl (cI, 335, .inl f_s)), (h_names, .inl (cJ, 36, .inr (.inl f_names))), (h_images, .inl (cI, 670, .inl f_images)), (h_namesKept, .inl (cJ, 36, .inr (.inl f_namesKept))), (h_areKept, .inl (cZ, 2, .inl f_areKept))] sz [.ref h0, .int p0] (fun (r : Int32) (u : va_W) => (∃ (Gh : Nat → Value), SAME [0] Fh Gh ∧ Gh 0 = .int 0 ∧ ((0 ≤ p0.toInt → p0.toInt ≤ 1 → (r.toInt = 1 ↔ (f_areKept p0.toNatClampNeg).toInt ≠ 0)) ∧ (p0.toInt < 0 ∨ 1 < p0.toInt → r.toInt = 0)) ∧ r = 0 ∧ u = [(h0, .inr (10, vL 67 Gh)), (h_s, .inl (cI, 335, .inl f_s)), (h_names, .inl (cJ, 36, .inr (.inl f_names))), (h_images, .inl (cI, 670, .inl f_images)), (h_namesKept, .inl (cJ, 36, .inr (.inl f_namesKept))), (h_areKept, .inl (cZ, 2, .inl f_areKept))]) ∨ (∃ (Gh : Nat → Value) (g_s : Nat → Int32) (g_names : Nat → Int64), SAME [0, 41] Fh Gh ∧ Gh 0 = .int 0 ∧ Gh 41 = .int 0 ∧ SG 153 153 0 44 g_s ∧ SG 0 0 0 40 g_s ∧ SG 5 5 0 12 g_s ∧ SG 6 6 0 12 g_s ∧ SG 7 7 0 6 g_s ∧ SG 44 55 0 9 g_s ∧ KW 0 g_s ∧ SG 105 108 0 11 g_s ∧ SG 114 114 0 5 g_s ∧ SG 130 133 0 11 g_s ∧ SG 139 139 0 5 g_s ∧ ((0 ≤ p0.toInt → p0.toInt ≤ 1 → (r.toInt = 1 ↔ (f_areKept p0.toNatClampNeg).toInt ≠ 0)) ∧ (p0.toInt < 0 ∨ 1 < p0.toInt → r.toInt = 0)) ∧ r = 1 ∧ u = [(h0, .inr (10, vL 67 Gh)), (h_s, .inl (cI, 335, .inl g_s)), (h_names, .inl (cJ, 36, .inr (.inl g_names))), (h_images, .inl (cI, 670, .inl f_images)), (h_namesKept, .inl (cJ, 36, .inr (.inl f_namesKept))), (h_areKept, .inl (cZ, 2, .inl f_areKept))])) := by
  refine CI_mk (by decide) (Nat.le_of_ble_eq_true rfl) ?_
  intro p e s m below meth c A ls E hAe hG hsz hP hD hA hS hl
  obtain ⟨hx, hb, hr, hw, hown, hlocks, hml, hnm⟩ := E
  have hK := hG.1
  have hl : lv_has ls 3 [(0, .ref h0), (1, .int p0)] := hl
  refine lv_aload_n hx hb dX10_restore_0 rfl (lv_at hl 0 rfl) ?_
  refine lv_iconst (v := 0) hx hb dX10_restore_1 (by decide) ?_
  refine put_f (D := D) (ci := 10) (v := .int 0) (ty := .int) (C := RX10) (T := TX10) (N := 67) hx hb hw inAX10 tyX10 tyX10_ok nmX10 hown hK hP hD hS 0 rfl rfl 0 (by decide) (hw _ q_1261) (fun _ h9 => h9) rfl (by decide +kernel) rfl rfl dX10_restore_2 (fun H locs F1 eF1 hP hD hS => ?_)
  have hP : va_P D vwCl [(h0, .inr (10, vL 67 F1)), (h_s, .inl (cI, 335, .inl f_s)), (h_names, .inl (cJ, 36, .inr (.inl f_names))), (h_images, .inl (cI, 670, .inl f_images)), (h_namesKept, .inl (cJ, 36, .inr (.inl f_namesKept))), (h_areKept, .inl (cZ, 2, .inl f_areKept))] H := hP
  have hD : va_D A [(h0, .inr (10, vL 67 F1)), (h_s, .inl (cI, 335, .inl f_s)), (h_names, .inl (cJ, 36, .inr (.inl f_names))), (h_images, .inl (cI, 670, .inl f_images)), (h_namesKept, .inl (cJ, 36, .inr (.inl f_namesKept))), (h_areKept, .inl (cZ, 2, .inl f_areKept))] := hD
  refine lv_iload_n hx hb dX10_restore_5 rfl (lv_at hl 1 rfl) ?_
  refine lv_iconst (v := 0) hx hb dX10_restore_6 (by decide) ?_
  refine lv_iconst (v := 1) hx hb dX10_restore_7 (by decide) ?_
  refine call_Si (wr := [(h0, .inr (10, vL 67 F1)), (h_s, .inl (cI, 335, .inl f_s)), (h_names, .inl (cJ, 36, .inr (.inl f_names))), (h_images, .inl (cI, 670, .inl f_images)), (h_namesKept, .inl (cJ, 36, .inr (.inl f_namesKept))), (h_areKept, .inl (cZ, 2, .inl f_areKept))]) (As := [.int p0, .int 0, .int 1]) (rest := []) hx hb hml hown hw (m_X10_isIn l D cI cJ cB cP cM cZ p0 0 1 _ ) wS_X10_211_X10_isIn dX10_restore_8 hP hD hS hA [] [0, 1, 2, 3, 4, 5] rfl rfl (by decide) (by decide) (by decide) GG.fb hG.at hl.1 rfl (Nat.le_of_ble_eq_true rfl) ⟨(Nat.le_of_ble_eq_true rfl), (Nat.le_of_ble_eq_true rfl)⟩ ⟨(Nat.le_of_ble_eq_true rfl), (Nat.le_of_ble_eq_true rfl)⟩ (fun r2 u H locs hp hP hD hS => ?_)
  have zl0 : (0 : Int32).toInt = 0 := by decide
  have zl1 : (1 : Int32).toInt = 1 := by decide
  rcases hp with ⟨t3, rfl, rfl⟩ | ⟨t4, t5, rfl, rfl⟩ | ⟨t6, t7, rfl, rfl⟩
  · have hP : va_P D vwCl [(h0, .inr (10, vL 67 F1)), (h_s, .inl (cI, 335, .inl f_s)), (h_names, .inl (cJ, 36, .inr (.inl f_names))), (h_images, .inl (cI, 670, .inl f_images)), (h_namesKept, .inl (cJ, 36, .inr (.inl f_namesKept))), (h_areKept, .inl (cZ, 2, .inl f_areKept))] H := hP
    have hD : va_D A [(h0, .inr (10, vL 67 F1)), (h_s, .inl (cI, 335, .inl f_s)), (h_names, .inl (cJ, 36, .inr (.inl f_names))), (h_images, .inl (cI, 670, .inl f_images)), (h_namesKept, .inl (cJ, 36, .inr (.inl f_namesKept))), (h_areKept, .inl (cZ, 2, .inl f_areKept))] := hD
    refine W.widen (k := 0) (n := 0) (Nat.le_of_ble_eq_true rfl) (Nat.le_of_ble_eq_true rfl) ?_
    have k9 : (-2147483648) ≤ p0.toInt ∧ p0.toInt ≤ (-1) := ⟨(ir_any _).1, up_lt t3 (Int.le_refl _) (by decide)⟩
    refine lv_if_eq (tgt := 23) hx hb dX10_restore_11 (by decide) (fun _ => ?_) (fun g => absurd (by decide) g)
    refine lv_iconst (v := 0) hx hb dX10_restore_23 (by decide) ?_
    exact ret_i (v := 0) hx hb hr hlocks hS hP hD dX10_restore_24 rfl (Nat.le_of_ble_eq_true rfl) (Nat.le_of_ble_eq_true rfl) (Or.inl ⟨F1, (SAME.up eF1 SAME.rf (by decide)), (get_eq eF1), (by have zl0 : (0 : Int32).toInt = 0 := (by decide); omega), rfl, rfl⟩)
  · have hP : va_P D vwCl [(h0, .inr (10, vL 67 F1)), (h_s, .inl (cI, 335, .inl f_s)), (h_names, .inl (cJ, 36, .inr (.inl f_names))), (h_images, .inl (cI, 670, .inl f_images)), (h_namesKept, .inl (cJ, 36, .inr (.inl f_namesKept))), (h_areKept, .inl (cZ, 2, .inl f_areKept))] H := hP
    have hD : va_D A [(h0, .inr (10, vL 67 F1)), (h_s, .inl (cI, 335, .inl f_s)), (h_names, .inl (cJ, 36, .inr (.inl f_names))), (h_images, .inl (cI, 670, .inl f_images)), (h_namesKept, .inl (cJ, 36, .inr (.inl f_namesKept))), (h_areKept, .inl (cZ, 2, .inl f_areKept))] := hD
    refine W.widen (k := 0) (n := 0) (Nat.le_of_ble_eq_true rfl) (Nat.le_of_ble_eq_true rfl) ?_
    have k10 : 0 ≤ p0.toInt ∧ p0.toInt ≤ 2147483647 := ⟨Int.le_trans (Int.le_refl _) t4, (ir_any _).2⟩
    have k11 : 2 ≤ p0.toInt ∧ p0.toInt ≤ 2147483647 := ⟨lo_lt t5 (Int.le_refl _) (by decide), k10.2⟩
    refine lv_if_eq (tgt := 23) hx hb dX10_restore_11 (by decide) (fun _ => ?_) (fun g => absurd (by decide) g)
    refine lv_iconst (v := 0) hx hb dX10_restore_23 (by decide) ?_
    exact ret_i (v := 0) hx hb hr hlocks hS hP hD dX10_restore_24 rfl (Nat.le_of_ble_eq_true rfl) (Nat.le_of_ble_eq_true rfl) (Or.inl ⟨F1, (SAME.up eF1 SAME.rf (by decide)), (get_eq eF1), (by have zl0 : (0 : Int32).toInt = 0 := (by decide); omega), rfl, rfl⟩)
  · have hP : va_P D vwCl [(h0, .inr (10, vL 67 F1)), (h_s, .inl (cI, 335, .inl f_s)), (h_names, .inl (cJ, 36, .inr (.inl f_names))), (h_images, .inl (cI, 670, .inl f_images)), (h_namesKept, .inl (cJ, 36, .inr (.inl f_namesKept))), (h_areKept, .inl (cZ, 2, .inl f_areKept))] H := hP
    have hD : va_D A [(h0, .inr (10, vL 67 F1)), (h_s, .inl (cI, 335, .inl f_s)), (h_names, .inl (cJ, 36, .inr (.inl f_names))), (h_images, .inl (cI, 670, .inl f_images)), (h_namesKept, .inl (cJ, 36, .inr (.inl f_namesKept))), (h_areKept, .inl (cZ, 2, .inl f_areKept))] := hD
    refine W.widen (k := 0) (n := 0) (Nat.le_of_ble_eq_true rfl) (Nat.le_of_ble_eq_true rfl) ?_
    have k12 : 0 ≤ p0.toInt ∧ p0.toInt ≤ 2147483647 := ⟨Int.le_trans (Int.le_refl _) t6, (ir_any _).2⟩
    have k13 : 0 ≤ p0.toInt ∧ p0.toInt ≤ 1 := ⟨k12.1, Int.le_trans t7 (Int.le_refl _)⟩
    refine lv_if_eq (tgt := 23) hx hb dX10_restore_11 (by decide) (fun g => absurd g (by decide)) (fun _ => ?_)
    refine lv_aload_n hx hb dX10_restore_14 rfl (lv_at hl 0 rfl) ?_
    have n14 : F1 66 = .ref h_areKept := (get_ne eF1 (by decide) e_areKept)
    refine get_f (D := D) (ci := 10) (v := .ref h_areKept) (C := RX10) (T := TX10) (N := 67) hx hb hw inAX10 hown hK hP 0 rfl rfl 66 (by decide) (hw _ q_1327) (fun _ h9 => h9) n14 dX10_restore_15 ?_
    refine lv_iload_n hx hb dX10_restore_18 rfl (lv_at hl 1 rfl) ?_
    refine va_zald hx hb hK hP 5 5 rfl rfl (ix_k k13 (by decide) (by decide)) dX10_restore_19 ?_
    refine lv_topi (fun v15 ev15 => ?_)
    refine lv_if_ne (tgt := 25) hx hb dX10_restore_20 (by decide) (fun c16 => ?_) (fun c16 => ?_)
    · have dc16 : v15.toInt ≠ 0 := ne_i (a := v15.toInt) (b := 0) rfl rfl c16
      by_cases k17 : p0 = 0
      · have dk17 : p0.toInt = 0 := eq_i rfl rfl k17
        have k18 : 0 ≤ p0.toInt ∧ p0.toInt ≤ 0 := ⟨k13.1, Int.le_trans (Int.le_of_eq dk17) (Int.le_refl _)⟩
        have hl : lv_has ls 3 [(0, .ref h0), (1, .int 0)] := by have q := hl; rw [k17] at q; exact q
        refine lv_iconst (v := 0) hx hb dX10_restore_25 (by decide) ?_
        refine lv_istore_n (lv' := [(2, .int 0), (0, .ref h0), (1, .int 0)]) hx hb dX10_restore_26 rfl hl (by decide) rfl (fun ls hl => ?_)
        refine mloop (α := (Int32) × (Nat → Int32)) (nL := 3) (D := D) (A := A) (H0 := s.heap) (fun a => (335 - a.1.toInt).toNat) (fun a => IR 0 335 a.1 ∧ (CPY a.2 0 f_images 0 (a.1.toInt))) (fun a => [(h0, .inr (10, vL 67 F1)), (h_s, .inl (cI, 335, .inl a.2)), (h_names, .inl (cJ, 36, .inr (.inl f_names))), (h_images, .inl (cI, 670, .inl f_images)), (h_namesKept, .inl (cJ, 36, .inr (.inl f_namesKept))), (h_areKept, .inl (cZ, 2, .inl f_areKept))]) (fun a => [(2, .int a.1), (0, .ref h0), (1, .int 0)]) (fun H locs ls => W p l e ({ frames := 1, cells := 0, slots := 0, locals := 22 } : Room) s m [.ref h0, .int p0].toArray below meth c H locs 0 0 (MQ below (va_Qi (fun (r : Int32) (u : va_W) => (∃ (Gh : Nat → Value), SAME [0] Fh Gh ∧ Gh 0 = .int 0 ∧ ((0 ≤ p0.toInt → p0.toInt ≤ 1 → (r.toInt = 1 ↔ (f_areKept p0.toNatClampNeg).toInt ≠ 0)) ∧ (p0.toInt < 0 ∨ 1 < p0.toInt → r.toInt = 0)) ∧ r = 0 ∧ u = [(h0, .inr (10, vL 67 Gh)), (h_s, .inl (cI, 335, .inl f_s)), (h_names, .inl (cJ, 36, .inr (.inl f_names))), (h_images, .inl (cI, 670, .inl f_images)), (h_namesKept, .inl (cJ, 36, .inr (.inl f_namesKept))), (h_areKept, .inl (cZ, 2, .inl f_areKept))]) ∨ (∃ (Gh : Nat → Value) (g_s : Nat → Int32) (g_names : Nat → Int64), SAME [0, 41] Fh Gh ∧ Gh 0 = .int 0 ∧ Gh 41 = .int 0 ∧ SG 153 153 0 44 g_s ∧ SG 0 0 0 40 g_s ∧ SG 5 5 0 12 g_s ∧ SG 6 6 0 12 g_s ∧ SG 7 7 0 6 g_s ∧ SG 44 55 0 9 g_s ∧ KW 0 g_s ∧ SG 105 108 0 11 g_s ∧ SG 114 114 0 5 g_s ∧ SG 130 133 0 11 g_s ∧ SG 139 139 0 5 g_s ∧ ((0 ≤ p0.toInt → p0.toInt ≤ 1 → (r.toInt = 1 ↔ (f_areKept p0.toNatClampNeg).toInt ≠ 0)) ∧ (p0.toInt < 0 ∨ 1 < p0.toInt → r.toInt = 0)) ∧ r = 1 ∧ u = [(h0, .inr (10, vL 67 Gh)), (h_s, .inl (cI, 335, .inl g_s)), (h_names, .inl (cJ, 36, .inr (.inl g_names))), (h_images, .inl (cI, 670, .inl f_images)), (h_namesKept, .inl (cJ, 36, .inr (.inl f_namesKept))), (h_areKept, .inl (cZ, 2, .inl f_areKept))])) (PO D A) A) [.ref h0, .int p0].toArray s 0 0 A) (F0 m 27 ls [])) ?_ (0, f_s) ⟨(show 0 ≤ (0 : Int32).toInt ∧ (0 : Int32).toInt ≤ 335 by decide), (show CPY f_s 0 f_images 0 (0) from (CPY.zero (by decide)))⟩ _ _ _ hP hD hS hl
        rintro ⟨u19, w20⟩ ⟨i21, i22⟩ ih H locs ls hP hD hS hl
        have i21 : 0 ≤ u19.toInt ∧ u19.toInt ≤ 335 := i21
        have i22 : CPY w20 0 f_images 0 (u19.toInt) := i22
        have hP : va_P D vwCl [(h0, .inr (10, vL 67 F1)), (h_s, .inl (cI, 335, .inl w20)), (h_names, .inl (cJ, 36, .inr (.inl f_names))), (h_images, .inl (cI, 670, .inl f_images)), (h_namesKept, .inl (cJ, 36, .inr (.inl f_namesKept))), (h_areKept, .inl (cZ, 2, .inl f_areKept))] H := hP
        have hD : va_D A [(h0, .inr (10, vL 67 F1)), (h_s, .inl (cI, 335, .inl w20)), (h_names, .inl (cJ, 36, .inr (.inl f_names))), (h_images, .inl (cI, 670, .inl f_images)), (h_namesKept, .inl (cJ, 36, .inr (.inl f_namesKept))), (h_areKept, .inl (cZ, 2, .inl f_areKept))] := hD
        have hl : lv_has ls 3 [(2, .int u19), (0, .ref h0), (1, .int 0)] := hl
        refine lv_iload_n hx hb dX10_restore_27 rfl (lv_at hl 0 rfl) ?_
        refine lv_sipush (v := 335) hx hb dX10_restore_28 (by decide) ?_
        refine lv_icmp_ge (tgt := 58) hx hb dX10_restore_31 (by decide) (fun c23 => ?_) (fun c23 => ?_)
        · have dc23 : 335 ≤ u19.toInt := le_i (a := 335) (b := u19.toInt) rfl rfl c23
          have k24 : 335 ≤ u19.toInt ∧ u19.toInt ≤ 335 := ⟨Int.le_trans (Int.le_refl _) dc23, i21.2⟩
          have r25 : KW 0 w20 := KW.cpy i22 s_images_K0 (by omega) (by decide)
          have r27 : SG 0 0 0 40 w20 := SG.cpy i22 s_images_0 (by decide) (by decide) (by decide) (by omega)
          have r28 : SG 105 108 0 11 w20 := SG.cpy i22 s_images_105 (by decide) (by decide) (by decide) (by omega)
          have r29 : SG 114 114 0 5 w20 := SG.cpy i22 s_images_114 (by decide) (by decide) (by decide) (by omega)
          have r30 : SG 130 133 0 11 w20 := SG.cpy i22 s_images_130 (by decide) (by decide) (by decide) (by omega)
          have r31 : SG 139 139 0 5 w20 := SG.cpy i22 s_images_139 (by decide) (by decide) (by decide) (by omega)
          have r32 : SG 153 153 0 44 w20 := SG.cpy i22 s_images_153 (by decide) (by decide) (by decide) (by omega)
          have r38 : SG 44 55 0 9 w20 := SG.cpy i22 s_images_44 (by decide) (by decide) (by decide) (by omega)
          have r44 : SG 5 5 0 12 w20 := SG.cpy i22 s_images_5 (by decide) (by decide) (by decide) (by omega)
          have r45 : SG 6 6 0 12 w20 := SG.cpy i22 s_images_6 (by decide) (by decide) (by decide) (by omega)
          have r46 : SG 7 7 0 6 w20 := SG.cpy i22 s_images_7 (by decide) (by decide) (by decide) (by omega)
          refine lv_iconst (v := 0) hx hb dX10_restore_58 (by decide) ?_
          refine lv_istore_n (lv' := [(2, .int 0), (0, .ref h0), (1, .int 0)]) hx hb dX10_restore_59 rfl hl (by decide) rfl (fun ls hl => ?_)
          refine mloop (α := (Int32) × (Nat → Int64)) (nL := 3) (D := D) (A := A) (H0 := s.heap) (fun a => (18 - a.1.toInt).toNat) (fun a => IR 0 18 a.1) (fun a => [(h0, .inr (10, vL 67 F1)), (h_s, .inl (cI, 335, .inl w20)), (h_names, .inl (cJ, 36, .inr (.inl a.2))), (h_images, .inl (cI, 670, .inl f_images)), (h_namesKept, .inl (cJ, 36, .inr (.inl f_namesKept))), (h_areKept, .inl (cZ, 2, .inl f_areKept))]) (fun a => [(2, .int a.1), (0, .ref h0), (1, .int 0)]) (fun H locs ls => W p l e ({ frames := 1, cells := 0, slots := 0, locals := 22 } : Room) s m [.ref h0, .int p0].toArray below meth c H locs 0 0 (MQ below (va_Qi (fun (r : Int32) (u : va_W) => (∃ (Gh : Nat → Value), SAME [0] Fh Gh ∧ Gh 0 = .int 0 ∧ ((0 ≤ p0.toInt → p0.toInt ≤ 1 → (r.toInt = 1 ↔ (f_areKept p0.toNatClampNeg).toInt ≠ 0)) ∧ (p0.toInt < 0 ∨ 1 < p0.toInt → r.toInt = 0)) ∧ r = 0 ∧ u = [(h0, .inr (10, vL 67 Gh)), (h_s, .inl (cI, 335, .inl f_s)), (h_names, .inl (cJ, 36, .inr (.inl f_names))), (h_images, .inl (cI, 670, .inl f_images)), (h_namesKept, .inl (cJ, 36, .inr (.inl f_namesKept))), (h_areKept, .inl (cZ, 2, .inl f_areKept))]) ∨ (∃ (Gh : Nat → Value) (g_s : Nat → Int32) (g_names : Nat → Int64), SAME [0, 41] Fh Gh ∧ Gh 0 = .int 0 ∧ Gh 41 = .int 0 ∧ SG 153 153 0 44 g_s ∧ SG 0 0 0 40 g_s ∧ SG 5 5 0 12 g_s ∧ SG 6 6 0 12 g_s ∧ SG 7 7 0 6 g_s ∧ SG 44 55 0 9 g_s ∧ KW 0 g_s ∧ SG 105 108 0 11 g_s ∧ SG 114 114 0 5 g_s ∧ SG 130 133 0 11 g_s ∧ SG 139 139 0 5 g_s ∧ ((0 ≤ p0.toInt → p0.toInt ≤ 1 → (r.toInt = 1 ↔ (f_areKept p0.toNatClampNeg).toInt ≠ 0)) ∧ (p0.toInt < 0 ∨ 1 < p0.toInt → r.toInt = 0)) ∧ r = 1 ∧ u = [(h0, .inr (10, vL 67 Gh)), (h_s, .inl (cI, 335, .inl g_s)), (h_names, .inl (cJ, 36, .inr (.inl g_names))), (h_images, .inl (cI, 670, .inl f_images)), (h_namesKept, .inl (cJ, 36, .inr (.inl f_namesKept))), (h_areKept, .inl (cZ, 2, .inl f_areKept))])) (PO D A) A) [.ref h0, .int p0].toArray s 0 0 A) (F0 m 60 ls [])) ?_ (0, f_names) (show 0 ≤ (0 : Int32).toInt ∧ (0 : Int32).toInt ≤ 18 by decide) _ _ _ hP hD hS hl
          rintro ⟨u47, w48⟩ i49 ih_60 H locs ls hP hD hS hl
          have i49 : 0 ≤ u47.toInt ∧ u47.toInt ≤ 18 := i49
          have hP : va_P D vwCl [(h0, .inr (10, vL 67 F1)), (h_s, .inl (cI, 335, .inl w20)), (h_names, .inl (cJ, 36, .inr (.inl w48))), (h_images, .inl (cI, 670, .inl f_images)), (h_namesKept, .inl (cJ, 36, .inr (.inl f_namesKept))), (h_areKept, .inl (cZ, 2, .inl f_areKept))] H := hP
          have hD : va_D A [(h0, .inr (10, vL 67 F1)), (h_s, .inl (cI, 335, .inl w20)), (h_names, .inl (cJ, 36, .inr (.inl w48))), (h_images, .inl (cI, 670, .inl f_images)), (h_namesKept, .inl (cJ, 36, .inr (.inl f_namesKept))), (h_areKept, .inl (cZ, 2, .inl f_areKept))] := hD
          have hl : lv_has ls 3 [(2, .int u47), (0, .ref h0), (1, .int 0)] := hl
          refine lv_iload_n hx hb dX10_restore_60 rfl (lv_at hl 0 rfl) ?_
          refine lv_bipush (v := 18) hx hb dX10_restore_61 (by decide) ?_
          refine lv_icmp_ge (tgt := 89) hx hb dX10_restore_63 (by decide) (fun c50 => ?_) (fun c50 => ?_)
          · have dc50 : 18 ≤ u47.toInt := le_i (a := 18) (b := u47.toInt) rfl rfl c50
            have k51 : 18 ≤ u47.toInt ∧ u47.toInt ≤ 18 := ⟨Int.le_trans (Int.le_refl _) dc50, i49.2⟩
            refine lv_aload_n hx hb dX10_restore_89 rfl (lv_at hl 1 rfl) ?_
            refine lv_iconst (v := 0) hx hb dX10_restore_90 (by decide) ?_
            refine put_f (D := D) (ci := 10) (v := .int 0) (ty := .int) (C := RX10) (T := TX10) (N := 67) hx hb hw inAX10 tyX10 tyX10_ok nmX10 hown hK hP hD hS 0 rfl rfl 41 (by decide) (hw _ q_1302) (fun _ h9 => h9) rfl (by decide +kernel) rfl rfl dX10_restore_91 (fun H locs F52 eF52 hP hD hS => ?_)
            have hP : va_P D vwCl [(h0, .inr (10, vL 67 F52)), (h_s, .inl (cI, 335, .inl w20)), (h_names, .inl (cJ, 36, .inr (.inl w48))), (h_images, .inl (cI, 670, .inl f_images)), (h_namesKept, .inl (cJ, 36, .inr (.inl f_namesKept))), (h_areKept, .inl (cZ, 2, .inl f_areKept))] H := hP
            have hD : va_D A [(h0, .inr (10, vL 67 F52)), (h_s, .inl (cI, 335, .inl w20)), (h_names, .inl (cJ, 36, .inr (.inl w48))), (h_images, .inl (cI, 670, .inl f_images)), (h_namesKept, .inl (cJ, 36, .inr (.inl f_namesKept))), (h_areKept, .inl (cZ, 2, .inl f_areKept))] := hD
            refine lv_iconst (v := 1) hx hb dX10_restore_94 (by decide) ?_
            exact ret_i (v := 1) hx hb hr hlocks hS hP hD dX10_restore_95 rfl (Nat.le_of_ble_eq_true rfl) (Nat.le_of_ble_eq_true rfl) (Or.inr ⟨F52, w20, w48, (SAME.up eF52 (SAME.up eF1 SAME.rf (by decide)) (by decide)), (get_ne eF52 (by decide) (get_eq eF1)), (get_eq eF52), r32, r27, r44, r45, r46, r38, r25, r28, r29, r30, r31, (by have hkv15 := congrArg Int32.toInt ev15; have zl1 : (1 : Int32).toInt = 1 := (by decide); omega), rfl, rfl⟩)
          · have dc50 : u47.toInt < 18 := nle_i (a := 18) (b := u47.toInt) rfl rfl c50
            have k53 : 0 ≤ u47.toInt ∧ u47.toInt ≤ 17 := ⟨i49.1, up_lt dc50 (Int.le_refl _) (by decide)⟩
            refine lv_aload_n hx hb dX10_restore_66 rfl (lv_at hl 1 rfl) ?_
            have n54 : F1 9 = .ref h_names := (get_ne eF1 (by decide) e_names)
            refine get_f (D := D) (ci := 10) (v := .ref h_names) (C := RX10) (T := TX10) (N := 67) hx hb hw inAX10 hown hK hP 0 rfl rfl 9 (by decide) (hw _ q_1270) (fun _ h9 => h9) n54 dX10_restore_67 ?_
            refine lv_iload_n hx hb dX10_restore_70 rfl (lv_at hl 0 rfl) ?_
            refine lv_aload_n hx hb dX10_restore_71 rfl (lv_at hl 1 rfl) ?_
            have n55 : F1 65 = .ref h_namesKept := (get_ne eF1 (by decide) e_namesKept)
            refine get_f (D := D) (ci := 10) (v := .ref h_namesKept) (C := RX10) (T := TX10) (N := 67) hx hb hw inAX10 hown hK hP 0 rfl rfl 65 (by decide) (hw _ q_1326) (fun _ h9 => h9) n55 dX10_restore_72 ?_
            refine lv_bipush (v := 18) hx hb dX10_restore_75 (by decide) ?_
            refine lv_iload_n hx hb dX10_restore_77 rfl (lv_at hl 2 rfl) ?_
            refine lv_imul hx hb dX10_restore_78 ?_
            refine lv_ci (y := 0) (by decide +kernel) ?_
            refine lv_iload_n hx hb dX10_restore_79 rfl (lv_at hl 0 rfl) ?_
            refine lv_iadd hx hb dX10_restore_80 ?_
            refine lv_topi (fun v56 ev56 => ?_)
            have bv56 : v56.toInt = 0 + u47.toInt := by rw [ev56]; exact add_k rfl rfl ⟨Int.le_refl _, Int.le_refl _⟩ k53 (by decide)
            have k57 : 0 ≤ v56.toInt ∧ v56.toInt ≤ 17 := add_r bv56 ⟨Int.le_refl _, Int.le_refl _⟩ k53 (by decide)
            refine va_lald hx hb hK hP 4 1 rfl rfl (ix_k k57 (by decide) (by decide)) dX10_restore_81 ?_
            refine lv_topl (fun v58 ev58 => ?_)
            obtain ⟨g59, eg59⟩ : ∃ z : Nat → Int64, vp_updL w48 u47.toNatClampNeg v58 = z := ⟨_, rfl⟩
            refine last_g hx hb hK hP hD hS 2 1 rfl rfl (ix_k k53 (by decide) (by decide)) eg59 dX10_restore_82 (fun H locs hP hD hS => ?_)
            have hP : va_P D vwCl [(h0, .inr (10, vL 67 F1)), (h_s, .inl (cI, 335, .inl w20)), (h_names, .inl (cJ, 36, .inr (.inl g59))), (h_images, .inl (cI, 670, .inl f_images)), (h_namesKept, .inl (cJ, 36, .inr (.inl f_namesKept))), (h_areKept, .inl (cZ, 2, .inl f_areKept))] H := hP
            have hD : va_D A [(h0, .inr (10, vL 67 F1)), (h_s, .inl (cI, 335, .inl w20)), (h_names, .inl (cJ, 36, .inr (.inl g59))), (h_images, .inl (cI, 670, .inl f_images)), (h_namesKept, .inl (cJ, 36, .inr (.inl f_namesKept))), (h_areKept, .inl (cZ, 2, .inl f_areKept))] := hD
            obtain ⟨v60, ev60⟩ : ∃ z : Int32, z = u47 + 1 := ⟨_, rfl⟩
            have bv60 : v60.toInt = u47.toInt + 1 := by rw [ev60]; exact add_k rfl rfl k53 ⟨Int.le_refl _, Int.le_refl _⟩ (by decide)
            have k61 : 1 ≤ v60.toInt ∧ v60.toInt ≤ 18 := add_r bv60 k53 ⟨Int.le_refl _, Int.le_refl _⟩ (by decide)
            refine lv_iinc (v := v60) (lv' := [(2, .int v60), (0, .ref h0), (1, .int 0)]) hx hb dX10_restore_83 hl (k := 0) rfl (by rw [ev60]; rfl) (by decide) rfl (fun ls hl => ?_)
            refine lv_goto (tgt := 60) hx hb dX10_restore_86 (by decide) ?_
            exact ih_60 (v60, g59) (ir_wk k61 (by decide) (by decide)) (by show (18 - v60.toInt).toNat < (18 - u47.toInt).toNat; omega) _ _ _ hP hD hS (lv_sub hl [0, 1, 2] rfl)
        · have dc23 : u19.toInt < 335 := nle_i (a := 335) (b := u19.toInt) rfl rfl c23
          have k62 : 0 ≤ u19.toInt ∧ u19.toInt ≤ 334 := ⟨i21.1, up_lt dc23 (Int.le_refl _) (by decide)⟩
          refine lv_aload_n hx hb dX10_restore_34 rfl (lv_at hl 1 rfl) ?_
          have n63 : F1 6 = .ref h_s := (get_ne eF1 (by decide) e_s)
          refine get_f (D := D) (ci := 10) (v := .ref h_s) (C := RX10) (T := TX10) (N := 67) hx hb hw inAX10 hown hK hP 0 rfl rfl 6 (by decide) (hw _ q_1267) (fun _ h9 => h9) n63 dX10_restore_35 ?_
          refine lv_iload_n hx hb dX10_restore_38 rfl (lv_at hl 0 rfl) ?_
          refine lv_aload_n hx hb dX10_restore_39 rfl (lv_at hl 1 rfl) ?_
          have n64 : F1 64 = .ref h_images := (get_ne eF1 (by decide) e_images)
          refine get_f (D := D) (ci := 10) (v := .ref h_images) (C := RX10) (T := TX10) (N := 67) hx hb hw inAX10 hown hK hP 0 rfl rfl 64 (by decide) (hw _ q_1325) (fun _ h9 => h9) n64 dX10_restore_40 ?_
          refine lv_sipush (v := 335) hx hb dX10_restore_43 (by decide) ?_
          refine lv_iload_n hx hb dX10_restore_46 rfl (lv_at hl 2 rfl) ?_
          refine lv_imul hx hb dX10_restore_47 ?_
          refine lv_ci (y := 0) (by decide +kernel) ?_
          refine lv_iload_n hx hb dX10_restore_48 rfl (lv_at hl 0 rfl) ?_
          refine lv_iadd hx hb dX10_restore_49 ?_
          refine lv_topi (fun v65 ev65 => ?_)
          have bv65 : v65.toInt = 0 + u19.toInt := by rw [ev65]; exact add_k rfl rfl ⟨Int.le_refl _, Int.le_refl _⟩ k62 (by decide)
          have k66 : 0 ≤ v65.toInt ∧ v65.toInt ≤ 334 := add_r bv65 ⟨Int.le_refl _, Int.le_refl _⟩ k62 (by decide)
          refine va_iald hx hb hK hP 3 0 rfl rfl (ix_k k66 (by decide) (by decide)) dX10_restore_50 ?_
          refine lv_topi (fun v67 ev67 => ?_)
          have r68 : IMP (0 ≤ v65.toInt → v65.toInt ≤ 0 → 0 ≤ v67.toInt ∧ v67.toInt ≤ 40) := IMP.mk (fun q1 q2 => by rw [ev67]; exact s_images_0.at _ q1 q2)
          have r69 : IMP (105 ≤ v65.toInt → v65.toInt ≤ 108 → 0 ≤ v67.toInt ∧ v67.toInt ≤ 11) := IMP.mk (fun q1 q2 => by rw [ev67]; exact s_images_105.at _ q1 q2)
          have r70 : IMP (114 ≤ v65.toInt → v65.toInt ≤ 114 → 0 ≤ v67.toInt ∧ v67.toInt ≤ 5) := IMP.mk (fun q1 q2 => by rw [ev67]; exact s_images_114.at _ q1 q2)
          have r71 : IMP (130 ≤ v65.toInt → v65.toInt ≤ 133 → 0 ≤ v67.toInt ∧ v67.toInt ≤ 11) := IMP.mk (fun q1 q2 => by rw [ev67]; exact s_images_130.at _ q1 q2)
          have r72 : IMP (139 ≤ v65.toInt → v65.toInt ≤ 139 → 0 ≤ v67.toInt ∧ v67.toInt ≤ 5) := IMP.mk (fun q1 q2 => by rw [ev67]; exact s_images_139.at _ q1 q2)
          have r73 : IMP (153 ≤ v65.toInt → v65.toInt ≤ 153 → 0 ≤ v67.toInt ∧ v67.toInt ≤ 44) := IMP.mk (fun q1 q2 => by rw [ev67]; exact s_images_153.at _ q1 q2)
          have r74 : IMP (44 ≤ v65.toInt → v65.toInt ≤ 55 → 0 ≤ v67.toInt ∧ v67.toInt ≤ 9) := IMP.mk (fun q1 q2 => by rw [ev67]; exact s_images_44.at _ q1 q2)
          have r75 : IMP (5 ≤ v65.toInt → v65.toInt ≤ 5 → 0 ≤ v67.toInt ∧ v67.toInt ≤ 12) := IMP.mk (fun q1 q2 => by rw [ev67]; exact s_images_5.at _ q1 q2)
          have r76 : IMP (6 ≤ v65.toInt → v65.toInt ≤ 6 → 0 ≤ v67.toInt ∧ v67.toInt ≤ 12) := IMP.mk (fun q1 q2 => by rw [ev67]; exact s_images_6.at _ q1 q2)
          have r77 : IMP (7 ≤ v65.toInt → v65.toInt ≤ 7 → 0 ≤ v67.toInt ∧ v67.toInt ≤ 6) := IMP.mk (fun q1 q2 => by rw [ev67]; exact s_images_7.at _ q1 q2)
          obtain ⟨g78, eg78⟩ : ∃ z : Nat → Int32, upd w20 u19.toNatClampNeg v67 = z := ⟨_, rfl⟩
          refine iast_g hx hb hK hP hD hS 1 0 rfl rfl (ix_k k62 (by decide) (by decide)) eg78 dX10_restore_51 (fun H locs hP hD hS => ?_)
          have hP : va_P D vwCl [(h0, .inr (10, vL 67 F1)), (h_s, .inl (cI, 335, .inl g78)), (h_names, .inl (cJ, 36, .inr (.inl f_names))), (h_images, .inl (cI, 670, .inl f_images)), (h_namesKept, .inl (cJ, 36, .inr (.inl f_namesKept))), (h_areKept, .inl (cZ, 2, .inl f_areKept))] H := hP
          have hD : va_D A [(h0, .inr (10, vL 67 F1)), (h_s, .inl (cI, 335, .inl g78)), (h_names, .inl (cJ, 36, .inr (.inl f_names))), (h_images, .inl (cI, 670, .inl f_images)), (h_namesKept, .inl (cJ, 36, .inr (.inl f_namesKept))), (h_areKept, .inl (cZ, 2, .inl f_areKept))] := hD
          obtain ⟨v79, ev79⟩ : ∃ z : Int32, z = u19 + 1 := ⟨_, rfl⟩
          have bv79 : v79.toInt = u19.toInt + 1 := by rw [ev79]; exact add_k rfl rfl k62 ⟨Int.le_refl _, Int.le_refl _⟩ (by decide)
          have k80 : 1 ≤ v79.toInt ∧ v79.toInt ≤ 335 := add_r bv79 k62 ⟨Int.le_refl _, Int.le_refl _⟩ (by decide)
          refine lv_iinc (v := v79) (lv' := [(2, .int v79), (0, .ref h0), (1, .int 0)]) hx hb dX10_restore_52 hl (k := 0) rfl (by rw [ev79]; rfl) (by decide) rfl (fun ls hl => ?_)
          refine lv_goto (tgt := 27) hx hb dX10_restore_55 (by decide) ?_
          exact ih (v79, g78) ⟨(ir_wk k80 (by decide) (by decide)), (CPY.step i22 eg78 ev67 (by omega) (by omega) (by omega))⟩ (by show (335 - v79.toInt).toNat < (335 - u19.toInt).toNat; omega) _ _ _ hP hD hS (lv_sub hl [0, 1, 2] rfl)
      have dk17 : p0.toInt ≠ 0 := ne_i rfl rfl k17
      have k81 : 1 ≤ p0.toInt ∧ p0.toInt ≤ 1 := ⟨ne_lo dk17 k13.1 ⟨Int.le_refl _, Int.le_refl _⟩ (by decide), k13.2⟩
      have k82 : p0 = 1 := Int32.toInt_inj.mp (show p0.toInt = 1 by omega)
      have dk82 : p0.toInt = 1 := eq_i rfl rfl k82
      have hl : lv_has ls 3 [(0, .ref h0), (1, .int 1)] := by have q := hl; rw [k82] at q; exact q
      refine lv_iconst (v := 0) hx hb dX10_restore_25 (by decide) ?_
      refine lv_istore_n (lv' := [(2, .int 0), (0, .ref h0), (1, .int 1)]) hx hb dX10_restore_26 rfl hl (by decide) rfl (fun ls hl => ?_)
      refine mloop (α := (Int32) × (Nat → Int32)) (nL := 3) (D := D) (A := A) (H0 := s.heap) (fun a => (335 - a.1.toInt).toNat) (fun a => IR 0 335 a.1 ∧ (CPY a.2 0 f_images 335 (a.1.toInt))) (fun a => [(h0, .inr (10, vL 67 F1)), (h_s, .inl (cI, 335, .inl a.2)), (h_names, .inl (cJ, 36, .inr (.inl f_names))), (h_images, .inl (cI, 670, .inl f_images)), (h_namesKept, .inl (cJ, 36, .inr (.inl f_namesKept))), (h_areKept, .inl (cZ, 2, .inl f_areKept))]) (fun a => [(2, .int a.1), (0, .ref h0), (1, .int 1)]) (fun H locs ls => W p l e ({ frames := 1, cells := 0, slots := 0, locals := 22 } : Room) s m [.ref h0, .int p0].toArray below meth c H locs 0 0 (MQ below (va_Qi (fun (r : Int32) (u : va_W) => (∃ (Gh : Nat → Value), SAME [0] Fh Gh ∧ Gh 0 = .int 0 ∧ ((0 ≤ p0.toInt → p0.toInt ≤ 1 → (r.toInt = 1 ↔ (f_areKept p0.toNatClampNeg).toInt ≠ 0)) ∧ (p0.toInt < 0 ∨ 1 < p0.toInt → r.toInt = 0)) ∧ r = 0 ∧ u = [(h0, .inr (10, vL 67 Gh)), (h_s, .inl (cI, 335, .inl f_s)), (h_names, .inl (cJ, 36, .inr (.inl f_names))), (h_images, .inl (cI, 670, .inl f_images)), (h_namesKept, .inl (cJ, 36, .inr (.inl f_namesKept))), (h_areKept, .inl (cZ, 2, .inl f_areKept))]) ∨ (∃ (Gh : Nat → Value) (g_s : Nat → Int32) (g_names : Nat → Int64), SAME [0, 41] Fh Gh ∧ Gh 0 = .int 0 ∧ Gh 41 = .int 0 ∧ SG 153 153 0 44 g_s ∧ SG 0 0 0 40 g_s ∧ SG 5 5 0 12 g_s ∧ SG 6 6 0 12 g_s ∧ SG 7 7 0 6 g_s ∧ SG 44 55 0 9 g_s ∧ KW 0 g_s ∧ SG 105 108 0 11 g_s ∧ SG 114 114 0 5 g_s ∧ SG 130 133 0 11 g_s ∧ SG 139 139 0 5 g_s ∧ ((0 ≤ p0.toInt → p0.toInt ≤ 1 → (r.toInt = 1 ↔ (f_areKept p0.toNatClampNeg).toInt ≠ 0)) ∧ (p0.toInt < 0 ∨ 1 < p0.toInt → r.toInt = 0)) ∧ r = 1 ∧ u = [(h0, .inr (10, vL 67 Gh)), (h_s, .inl (cI, 335, .inl g_s)), (h_names, .inl (cJ, 36, .inr (.inl g_names))), (h_images, .inl (cI, 670, .inl f_images)), (h_namesKept, .inl (cJ, 36, .inr (.inl f_namesKept))), (h_areKept, .inl (cZ, 2, .inl f_areKept))])) (PO D A) A) [.ref h0, .int p0].toArray s 0 0 A) (F0 m 27 ls [])) ?_ (0, f_s) ⟨(show 0 ≤ (0 : Int32).toInt ∧ (0 : Int32).toInt ≤ 335 by decide), (show CPY f_s 0 f_images 335 (0) from (CPY.zero (by decide)))⟩ _ _ _ hP hD hS hl
      rintro ⟨u83, w84⟩ ⟨i85, i86⟩ ih H locs ls hP hD hS hl
      have i85 : 0 ≤ u83.toInt ∧ u83.toInt ≤ 335 := i85
      have i86 : CPY w84 0 f_images 335 (u83.toInt) := i86
      have hP : va_P D vwCl [(h0, .inr (10, vL 67 F1)), (h_s, .inl (cI, 335, .inl w84)), (h_names, .inl (cJ, 36, .inr (.inl f_names))), (h_images, .inl (cI, 670, .inl f_images)), (h_namesKept, .inl (cJ, 36, .inr (.inl f_namesKept))), (h_areKept, .inl (cZ, 2, .inl f_areKept))] H := hP
      have hD : va_D A [(h0, .inr (10, vL 67 F1)), (h_s, .inl (cI, 335, .inl w84)), (h_names, .inl (cJ, 36, .inr (.inl f_names))), (h_images, .inl (cI, 670, .inl f_images)), (h_namesKept, .inl (cJ, 36, .inr (.inl f_namesKept))), (h_areKept, .inl (cZ, 2, .inl f_areKept))] := hD
      have hl : lv_has ls 3 [(2, .int u83), (0, .ref h0), (1, .int 1)] := hl
      refine lv_iload_n hx hb dX10_restore_27 rfl (lv_at hl 0 rfl) ?_
      refine lv_sipush (v := 335) hx hb dX10_restore_28 (by decide) ?_
      refine lv_icmp_ge (tgt := 58) hx hb dX10_restore_31 (by decide) (fun c87 => ?_) (fun c87 => ?_)
      · have dc87 : 335 ≤ u83.toInt := le_i (a := 335) (b := u83.toInt) rfl rfl c87
        have k88 : 335 ≤ u83.toInt ∧ u83.toInt ≤ 335 := ⟨Int.le_trans (Int.le_refl _) dc87, i85.2⟩
        have r90 : KW 0 w84 := KW.cpy i86 s_images_K335 (by omega) (by decide)
        have r97 : SG 0 0 0 40 w84 := SG.cpy i86 s_images_335 (by decide) (by decide) (by decide) (by omega)
        have r98 : SG 5 5 0 12 w84 := SG.cpy i86 s_images_340 (by decide) (by decide) (by decide) (by omega)
        have r99 : SG 6 6 0 12 w84 := SG.cpy i86 s_images_341 (by decide) (by decide) (by decide) (by omega)
        have r100 : SG 7 7 0 6 w84 := SG.cpy i86 s_images_342 (by decide) (by decide) (by decide) (by omega)
        have r101 : SG 44 55 0 9 w84 := SG.cpy i86 s_images_379 (by decide) (by decide) (by decide) (by omega)
        have r103 : SG 105 108 0 11 w84 := SG.cpy i86 s_images_440 (by decide) (by decide) (by decide) (by omega)
        have r104 : SG 114 114 0 5 w84 := SG.cpy i86 s_images_449 (by decide) (by decide) (by decide) (by omega)
        have r105 : SG 130 133 0 11 w84 := SG.cpy i86 s_images_465 (by decide) (by decide) (by decide) (by omega)
        have r106 : SG 139 139 0 5 w84 := SG.cpy i86 s_images_474 (by decide) (by decide) (by decide) (by omega)
        have r107 : SG 153 153 0 44 w84 := SG.cpy i86 s_images_488 (by decide) (by decide) (by decide) (by omega)
        refine lv_iconst (v := 0) hx hb dX10_restore_58 (by decide) ?_
        refine lv_istore_n (lv' := [(2, .int 0), (0, .ref h0), (1, .int 1)]) hx hb dX10_restore_59 rfl hl (by decide) rfl (fun ls hl => ?_)
        refine mloop (α := (Int32) × (Nat → Int64)) (nL := 3) (D := D) (A := A) (H0 := s.heap) (fun a => (18 - a.1.toInt).toNat) (fun a => IR 0 18 a.1) (fun a => [(h0, .inr (10, vL 67 F1)), (h_s, .inl (cI, 335, .inl w84)), (h_names, .inl (cJ, 36, .inr (.inl a.2))), (h_images, .inl (cI, 670, .inl f_images)), (h_namesKept, .inl (cJ, 36, .inr (.inl f_namesKept))), (h_areKept, .inl (cZ, 2, .inl f_areKept))]) (fun a => [(2, .int a.1), (0, .ref h0), (1, .int 1)]) (fun H locs ls => W p l e ({ frames := 1, cells := 0, slots := 0, locals := 22 } : Room) s m [.ref h0, .int p0].toArray below meth c H locs 0 0 (MQ below (va_Qi (fun (r : Int32) (u : va_W) => (∃ (Gh : Nat → Value), SAME [0] Fh Gh ∧ Gh 0 = .int 0 ∧ ((0 ≤ p0.toInt → p0.toInt ≤ 1 → (r.toInt = 1 ↔ (f_areKept p0.toNatClampNeg).toInt ≠ 0)) ∧ (p0.toInt < 0 ∨ 1 < p0.toInt → r.toInt = 0)) ∧ r = 0 ∧ u = [(h0, .inr (10, vL 67 Gh)), (h_s, .inl (cI, 335, .inl f_s)), (h_names, .inl (cJ, 36, .inr (.inl f_names))), (h_images, .inl (cI, 670, .inl f_images)), (h_namesKept, .inl (cJ, 36, .inr (.inl f_namesKept))), (h_areKept, .inl (cZ, 2, .inl f_areKept))]) ∨ (∃ (Gh : Nat → Value) (g_s : Nat → Int32) (g_names : Nat → Int64), SAME [0, 41] Fh Gh ∧ Gh 0 = .int 0 ∧ Gh 41 = .int 0 ∧ SG 153 153 0 44 g_s ∧ SG 0 0 0 40 g_s ∧ SG 5 5 0 12 g_s ∧ SG 6 6 0 12 g_s ∧ SG 7 7 0 6 g_s ∧ SG 44 55 0 9 g_s ∧ KW 0 g_s ∧ SG 105 108 0 11 g_s ∧ SG 114 114 0 5 g_s ∧ SG 130 133 0 11 g_s ∧ SG 139 139 0 5 g_s ∧ ((0 ≤ p0.toInt → p0.toInt ≤ 1 → (r.toInt = 1 ↔ (f_areKept p0.toNatClampNeg).toInt ≠ 0)) ∧ (p0.toInt < 0 ∨ 1 < p0.toInt → r.toInt = 0)) ∧ r = 1 ∧ u = [(h0, .inr (10, vL 67 Gh)), (h_s, .inl (cI, 335, .inl g_s)), (h_names, .inl (cJ, 36, .inr (.inl g_names))), (h_images, .inl (cI, 670, .inl f_images)), (h_namesKept, .inl (cJ, 36, .inr (.inl f_namesKept))), (h_areKept, .inl (cZ, 2, .inl f_areKept))])) (PO D A) A) [.ref h0, .int p0].toArray s 0 0 A) (F0 m 60 ls [])) ?_ (0, f_names) (show 0 ≤ (0 : Int32).toInt ∧ (0 : Int32).toInt ≤ 18 by decide) _ _ _ hP hD hS hl
        rintro ⟨u111, w112⟩ i113 ih_60 H locs ls hP hD hS hl
        have i113 : 0 ≤ u111.toInt ∧ u111.toInt ≤ 18 := i113
        have hP : va_P D vwCl [(h0, .inr (10, vL 67 F1)), (h_s, .inl (cI, 335, .inl w84)), (h_names, .inl (cJ, 36, .inr (.inl w112))), (h_images, .inl (cI, 670, .inl f_images)), (h_namesKept, .inl (cJ, 36, .inr (.inl f_namesKept))), (h_areKept, .inl (cZ, 2, .inl f_areKept))] H := hP
        have hD : va_D A [(h0, .inr (10, vL 67 F1)), (h_s, .inl (cI, 335, .inl w84)), (h_names, .inl (cJ, 36, .inr (.inl w112))), (h_images, .inl (cI, 670, .inl f_images)), (h_namesKept, .inl (cJ, 36, .inr (.inl f_namesKept))), (h_areKept, .inl (cZ, 2, .inl f_areKept))] := hD
        have hl : lv_has ls 3 [(2, .int u111), (0, .ref h0), (1, .int 1)] := hl
        refine lv_iload_n hx hb dX10_restore_60 rfl (lv_at hl 0 rfl) ?_
        refine lv_bipush (v := 18) hx hb dX10_restore_61 (by decide) ?_
        refine lv_icmp_ge (tgt := 89) hx hb dX10_restore_63 (by decide) (fun c114 => ?_) (fun c114 => ?_)
        · have dc114 : 18 ≤ u111.toInt := le_i (a := 18) (b := u111.toInt) rfl rfl c114
          have k115 : 18 ≤ u111.toInt ∧ u111.toInt ≤ 18 := ⟨Int.le_trans (Int.le_refl _) dc114, i113.2⟩
          refine lv_aload_n hx hb dX10_restore_89 rfl (lv_at hl 1 rfl) ?_
          refine lv_iconst (v := 0) hx hb dX10_restore_90 (by decide) ?_
          refine put_f (D := D) (ci := 10) (v := .int 0) (ty := .int) (C := RX10) (T := TX10) (N := 67) hx hb hw inAX10 tyX10 tyX10_ok nmX10 hown hK hP hD hS 0 rfl rfl 41 (by decide) (hw _ q_1302) (fun _ h9 => h9) rfl (by decide +kernel) rfl rfl dX10_restore_91 (fun H locs F116 eF116 hP hD hS => ?_)
          have hP : va_P D vwCl [(h0, .inr (10, vL 67 F116)), (h_s, .inl (cI, 335, .inl w84)), (h_names, .inl (cJ, 36, .inr (.inl w112))), (h_images, .inl (cI, 670, .inl f_images)), (h_namesKept, .inl (cJ, 36, .inr (.inl f_namesKept))), (h_areKept, .inl (cZ, 2, .inl f_areKept))] H := hP
          have hD : va_D A [(h0, .inr (10, vL 67 F116)), (h_s, .inl (cI, 335, .inl w84)), (h_names, .inl (cJ, 36, .inr (.inl w112))), (h_images, .inl (cI, 670, .inl f_images)), (h_namesKept, .inl (cJ, 36, .inr (.inl f_namesKept))), (h_areKept, .inl (cZ, 2, .inl f_areKept))] := hD
          refine lv_iconst (v := 1) hx hb dX10_restore_94 (by decide) ?_
          exact ret_i (v := 1) hx hb hr hlocks hS hP hD dX10_restore_95 rfl (Nat.le_of_ble_eq_true rfl) (Nat.le_of_ble_eq_true rfl) (Or.inr ⟨F116, w84, w112, (SAME.up eF116 (SAME.up eF1 SAME.rf (by decide)) (by decide)), (get_ne eF116 (by decide) (get_eq eF1)), (get_eq eF116), r107, r97, r98, r99, r100, r101, r90, r103, r104, r105, r106, (by have hkv15 := congrArg Int32.toInt ev15; have zl1 : (1 : Int32).toInt = 1 := (by decide); omega), rfl, rfl⟩)
        · have dc114 : u111.toInt < 18 := nle_i (a := 18) (b := u111.toInt) rfl rfl c114
          have k117 : 0 ≤ u111.toInt ∧ u111.toInt ≤ 17 := ⟨i113.1, up_lt dc114 (Int.le_refl _) (by decide)⟩
          refine lv_aload_n hx hb dX10_restore_66 rfl (lv_at hl 1 rfl) ?_
          have n118 : F1 9 = .ref h_names := (get_ne eF1 (by decide) e_names)
          refine get_f (D := D) (ci := 10) (v := .ref h_names) (C := RX10) (T := TX10) (N := 67) hx hb hw inAX10 hown hK hP 0 rfl rfl 9 (by decide) (hw _ q_1270) (fun _ h9 => h9) n118 dX10_restore_67 ?_
          refine lv_iload_n hx hb dX10_restore_70 rfl (lv_at hl 0 rfl) ?_
          refine lv_aload_n hx hb dX10_restore_71 rfl (lv_at hl 1 rfl) ?_
          have n119 : F1 65 = .ref h_namesKept := (get_ne eF1 (by decide) e_namesKept)
          refine get_f (D := D) (ci := 10) (v := .ref h_namesKept) (C := RX10) (T := TX10) (N := 67) hx hb hw inAX10 hown hK hP 0 rfl rfl 65 (by decide) (hw _ q_1326) (fun _ h9 => h9) n119 dX10_restore_72 ?_
          refine lv_bipush (v := 18) hx hb dX10_restore_75 (by decide) ?_
          refine lv_iload_n hx hb dX10_restore_77 rfl (lv_at hl 2 rfl) ?_
          refine lv_imul hx hb dX10_restore_78 ?_
          refine lv_ci (y := 18) (by decide +kernel) ?_
          refine lv_iload_n hx hb dX10_restore_79 rfl (lv_at hl 0 rfl) ?_
          refine lv_iadd hx hb dX10_restore_80 ?_
          refine lv_topi (fun v120 ev120 => ?_)
          have bv120 : v120.toInt = 18 + u111.toInt := by rw [ev120]; exact add_k rfl rfl ⟨Int.le_refl _, Int.le_refl _⟩ k117 (by decide)
          have k121 : 18 ≤ v120.toInt ∧ v120.toInt ≤ 35 := add_r bv120 ⟨Int.le_refl _, Int.le_refl _⟩ k117 (by decide)
          refine va_lald hx hb hK hP 4 1 rfl rfl (ix_k k121 (by decide) (by decide)) dX10_restore_81 ?_
          refine lv_topl (fun v122 ev122 => ?_)
          obtain ⟨g123, eg123⟩ : ∃ z : Nat → Int64, vp_updL w112 u111.toNatClampNeg v122 = z := ⟨_, rfl⟩
          refine last_g hx hb hK hP hD hS 2 1 rfl rfl (ix_k k117 (by decide) (by decide)) eg123 dX10_restore_82 (fun H locs hP hD hS => ?_)
          have hP : va_P D vwCl [(h0, .inr (10, vL 67 F1)), (h_s, .inl (cI, 335, .inl w84)), (h_names, .inl (cJ, 36, .inr (.inl g123))), (h_images, .inl (cI, 670, .inl f_images)), (h_namesKept, .inl (cJ, 36, .inr (.inl f_namesKept))), (h_areKept, .inl (cZ, 2, .inl f_areKept))] H := hP
          have hD : va_D A [(h0, .inr (10, vL 67 F1)), (h_s, .inl (cI, 335, .inl w84)), (h_names, .inl (cJ, 36, .inr (.inl g123))), (h_images, .inl (cI, 670, .inl f_images)), (h_namesKept, .inl (cJ, 36, .inr (.inl f_namesKept))), (h_areKept, .inl (cZ, 2, .inl f_areKept))] := hD
          obtain ⟨v124, ev124⟩ : ∃ z : Int32, z = u111 + 1 := ⟨_, rfl⟩
          have bv124 : v124.toInt = u111.toInt + 1 := by rw [ev124]; exact add_k rfl rfl k117 ⟨Int.le_refl _, Int.le_refl _⟩ (by decide)
          have k125 : 1 ≤ v124.toInt ∧ v124.toInt ≤ 18 := add_r bv124 k117 ⟨Int.le_refl _, Int.le_refl _⟩ (by decide)
          refine lv_iinc (v := v124) (lv' := [(2, .int v124), (0, .ref h0), (1, .int 1)]) hx hb dX10_restore_83 hl (k := 0) rfl (by rw [ev124]; rfl) (by decide) rfl (fun ls hl => ?_)
          refine lv_goto (tgt := 60) hx hb dX10_restore_86 (by decide) ?_
          exact ih_60 (v124, g123) (ir_wk k125 (by decide) (by decide)) (by show (18 - v124.toInt).toNat < (18 - u111.toInt).toNat; omega) _ _ _ hP hD hS (lv_sub hl [0, 1, 2] rfl)
      · have dc87 : u83.toInt < 335 := nle_i (a := 335) (b := u83.toInt) rfl rfl c87
        have k126 : 0 ≤ u83.toInt ∧ u83.toInt ≤ 334 := ⟨i85.1, up_lt dc87 (Int.le_refl _) (by decide)⟩
        refine lv_aload_n hx hb dX10_restore_34 rfl (lv_at hl 1 rfl) ?_
        have n127 : F1 6 = .ref h_s := (get_ne eF1 (by decide) e_s)
        refine get_f (D := D) (ci := 10) (v := .ref h_s) (C := RX10) (T := TX10) (N := 67) hx hb hw inAX10 hown hK hP 0 rfl rfl 6 (by decide) (hw _ q_1267) (fun _ h9 => h9) n127 dX10_restore_35 ?_
        refine lv_iload_n hx hb dX10_restore_38 rfl (lv_at hl 0 rfl) ?_
        refine lv_aload_n hx hb dX10_restore_39 rfl (lv_at hl 1 rfl) ?_
        have n128 : F1 64 = .ref h_images := (get_ne eF1 (by decide) e_images)
        refine get_f (D := D) (ci := 10) (v := .ref h_images) (C := RX10) (T := TX10) (N := 67) hx hb hw inAX10 hown hK hP 0 rfl rfl 64 (by decide) (hw _ q_1325) (fun _ h9 => h9) n128 dX10_restore_40 ?_
        refine lv_sipush (v := 335) hx hb dX10_restore_43 (by decide) ?_
        refine lv_iload_n hx hb dX10_restore_46 rfl (lv_at hl 2 rfl) ?_
        refine lv_imul hx hb dX10_restore_47 ?_
        refine lv_ci (y := 335) (by decide +kernel) ?_
        refine lv_iload_n hx hb dX10_restore_48 rfl (lv_at hl 0 rfl) ?_
        refine lv_iadd hx hb dX10_restore_49 ?_
        refine lv_topi (fun v129 ev129 => ?_)
        have bv129 : v129.toInt = 335 + u83.toInt := by rw [ev129]; exact add_k rfl rfl ⟨Int.le_refl _, Int.le_refl _⟩ k126 (by decide)
        have k130 : 335 ≤ v129.toInt ∧ v129.toInt ≤ 669 := add_r bv129 ⟨Int.le_refl _, Int.le_refl _⟩ k126 (by decide)
        refine va_iald hx hb hK hP 3 0 rfl rfl (ix_k k130 (by decide) (by decide)) dX10_restore_50 ?_
        refine lv_topi (fun v131 ev131 => ?_)
        have r132 : IMP (335 ≤ v129.toInt → v129.toInt ≤ 335 → 0 ≤ v131.toInt ∧ v131.toInt ≤ 40) := IMP.mk (fun q1 q2 => by rw [ev131]; exact s_images_335.at _ q1 q2)
        have r133 : IMP (340 ≤ v129.toInt → v129.toInt ≤ 340 → 0 ≤ v131.toInt ∧ v131.toInt ≤ 12) := IMP.mk (fun q1 q2 => by rw [ev131]; exact s_images_340.at _ q1 q2)
        have r134 : IMP (341 ≤ v129.toInt → v129.toInt ≤ 341 → 0 ≤ v131.toInt ∧ v131.toInt ≤ 12) := IMP.mk (fun q1 q2 => by rw [ev131]; exact s_images_341.at _ q1 q2)
        have r135 : IMP (342 ≤ v129.toInt → v129.toInt ≤ 342 → 0 ≤ v131.toInt ∧ v131.toInt ≤ 6) := IMP.mk (fun q1 q2 => by rw [ev131]; exact s_images_342.at _ q1 q2)
        have r136 : IMP (379 ≤ v129.toInt → v129.toInt ≤ 390 → 0 ≤ v131.toInt ∧ v131.toInt ≤ 9) := IMP.mk (fun q1 q2 => by rw [ev131]; exact s_images_379.at _ q1 q2)
        have r137 : IMP (440 ≤ v129.toInt → v129.toInt ≤ 443 → 0 ≤ v131.toInt ∧ v131.toInt ≤ 11) := IMP.mk (fun q1 q2 => by rw [ev131]; exact s_images_440.at _ q1 q2)
        have r138 : IMP (449 ≤ v129.toInt → v129.toInt ≤ 449 → 0 ≤ v131.toInt ∧ v131.toInt ≤ 5) := IMP.mk (fun q1 q2 => by rw [ev131]; exact s_images_449.at _ q1 q2)
        have r139 : IMP (465 ≤ v129.toInt → v129.toInt ≤ 468 → 0 ≤ v131.toInt ∧ v131.toInt ≤ 11) := IMP.mk (fun q1 q2 => by rw [ev131]; exact s_images_465.at _ q1 q2)
        have r140 : IMP (474 ≤ v129.toInt → v129.toInt ≤ 474 → 0 ≤ v131.toInt ∧ v131.toInt ≤ 5) := IMP.mk (fun q1 q2 => by rw [ev131]; exact s_images_474.at _ q1 q2)
        have r141 : IMP (488 ≤ v129.toInt → v129.toInt ≤ 488 → 0 ≤ v131.toInt ∧ v131.toInt ≤ 44) := IMP.mk (fun q1 q2 => by rw [ev131]; exact s_images_488.at _ q1 q2)
        obtain ⟨g142, eg142⟩ : ∃ z : Nat → Int32, upd w84 u83.toNatClampNeg v131 = z := ⟨_, rfl⟩
        refine iast_g hx hb hK hP hD hS 1 0 rfl rfl (ix_k k126 (by decide) (by decide)) eg142 dX10_restore_51 (fun H locs hP hD hS => ?_)
        have hP : va_P D vwCl [(h0, .inr (10, vL 67 F1)), (h_s, .inl (cI, 335, .inl g142)), (h_names, .inl (cJ, 36, .inr (.inl f_names))), (h_images, .inl (cI, 670, .inl f_images)), (h_namesKept, .inl (cJ, 36, .inr (.inl f_namesKept))), (h_areKept, .inl (cZ, 2, .inl f_areKept))] H := hP
        have hD : va_D A [(h0, .inr (10, vL 67 F1)), (h_s, .inl (cI, 335, .inl g142)), (h_names, .inl (cJ, 36, .inr (.inl f_names))), (h_images, .inl (cI, 670, .inl f_images)), (h_namesKept, .inl (cJ, 36, .inr (.inl f_namesKept))), (h_areKept, .inl (cZ, 2, .inl f_areKept))] := hD
        obtain ⟨v143, ev143⟩ : ∃ z : Int32, z = u83 + 1 := ⟨_, rfl⟩
        have bv143 : v143.toInt = u83.toInt + 1 := by rw [ev143]; exact add_k rfl rfl k126 ⟨Int.le_refl _, Int.le_refl _⟩ (by decide)
        have k144 : 1 ≤ v143.toInt ∧ v143.toInt ≤ 335 := add_r bv143 k126 ⟨Int.le_refl _, Int.le_refl _⟩ (by decide)
        refine lv_iinc (v := v143) (lv' := [(2, .int v143), (0, .ref h0), (1, .int 1)]) hx hb dX10_restore_52 hl (k := 0) rfl (by rw [ev143]; rfl) (by decide) rfl (fun ls hl => ?_)
        refine lv_goto (tgt := 27) hx hb dX10_restore_55 (by decide) ?_
        exact ih (v143, g142) ⟨(ir_wk k144 (by decide) (by decide)), (CPY.step i86 eg142 ev131 (by omega) (by omega) (by omega))⟩ (by show (335 - v143.toInt).toNat < (335 - u83.toInt).toNat; omega) _ _ _ hP hD hS (lv_sub hl [0, 1, 2] rfl)
    · have dc16 : v15.toInt = 0 := eq_i (a := v15.toInt) (b := 0) rfl rfl c16
      have k145 : 0 ≤ v15.toInt ∧ v15.toInt ≤ 0 := ⟨Int.le_trans (Int.le_refl _) (Int.le_of_eq dc16.symm), Int.le_trans (Int.le_of_eq dc16) (Int.le_refl _)⟩
      refine lv_iconst (v := 0) hx hb dX10_restore_23 (by decide) ?_
      exact ret_i (v := 0) hx hb hr hlocks hS hP hD dX10_restore_24 rfl (Nat.le_of_ble_eq_true rfl) (Nat.le_of_ble_eq_true rfl) (Or.inl ⟨F1, (SAME.up eF1 SAME.rf (by decide)), (get_eq eF1), (by have hkv15 := congrArg Int32.toInt ev15; have zl0 : (0 : Int32).toInt = 0 := (by decide); omega), rfl, rfl⟩)
set_option maxHeartbeats 4000000 in
set_option maxRecDepth 100000 in
theorem m_X10_count (l : Launch) (D : va_G) (cI cJ cB cP cM cZ : ClassId) (h0 : Nat) (h_s : Nat) (Fh : Nat → Value) (x_length : Int32) (f_s : Nat → Int32) (p0 : Int32) (sz : Nat) (e_length : Fh 2 = .int x_length) (i_x_length : IR 0 940 x_length) (e_s : Fh 6 = .ref h_s) (s_s_K0 : KW 0 f_s) (s_s_0 : SG 0 0 0 40 f_s) (s_s_105 : SG 105 108 0 11 f_s) (s_s_114 : SG 114 114 0 5 f_s) (s_s_130 : SG 130 133 0 11 f_s) (s_s_139 : SG 139 139 0 5 f_s) (s_s_153 : SG 153 153 0 44 f_s) (s_s_44 : SG 44 55 0 9 f_s) (s_s_5 : SG 5 5 0 12 f_s) (s_s_6 : SG 6 6 0 12 f_s) (s_s_7 : SG 7 7 0 6 f_s) : CI l yX10_count cX10_count 2 (some .int) { frames := 1, cells := 0, slots := 0, locals := 22 } (GG D cI cJ cB cP cM cZ) D [(h0, .inr (10, vL 67 Fh)), (h_s, .inl (cI, 335, .inl f_s))] sz [.ref h0, .int p0] (fun (r : Int32) (u : va_W) => ∃ (Gh : Nat → Value), SAME [0] Fh Gh ∧ Gh 0 = .int 0 ∧ u = [(h0, .inr (10, vL 67 Gh)), (h_s, .inl (cI, 335, .inl f_s))]) := by
  refine CI_mk (by decide) (Nat.le_of_ble_eq_true rfl) ?_
  intro p e s m below meth c A ls E hAe hG hsz hP hD hA hS hl
  obtain ⟨hx, hb, hr, hw, hown, hlocks, hml, hnm⟩ := E
  have hK := hG.1
  have i_x_length : 0 ≤ x_length.toInt ∧ x_length.toInt ≤ 940 := i_x_length
  have hl : lv_has ls 2 [(0, .ref h0), (1, .int p0)] := hl
  refine lv_aload_n hx hb dX10_count_0 rfl (lv_at hl 0 rfl) ?_
  refine lv_iconst (v := 0) hx hb dX10_count_1 (by decide) ?_
  refine put_f (D := D) (ci := 10) (v := .int 0) (ty := .int) (C := RX10) (T := TX10) (N := 67) hx hb hw inAX10 tyX10 tyX10_ok nmX10 hown hK hP hD hS 0 rfl rfl 0 (by decide) (hw _ q_1261) (fun _ h9 => h9) rfl (by decide +kernel) rfl rfl dX10_count_2 (fun H locs F1 eF1 hP hD hS => ?_)
  have hP : va_P D vwCl [(h0, .inr (10, vL 67 F1)), (h_s, .inl (cI, 335, .inl f_s))] H := hP
  have hD : va_D A [(h0, .inr (10, vL 67 F1)), (h_s, .inl (cI, 335, .inl f_s))] := hD
  refine lv_iload_n hx hb dX10_count_5 rfl (lv_at hl 1 rfl) ?_
  by_cases k2 : p0 = 8
  · have dk2 : p0.toInt = 8 := eq_i rfl rfl k2
    have k3 : 8 ≤ p0.toInt ∧ p0.toInt ≤ 8 := ⟨Int.le_trans (Int.le_refl _) (Int.le_of_eq dk2.symm), Int.le_trans (Int.le_of_eq dk2) (Int.le_refl _)⟩
    refine lv_ci (y := 8) k2 ?_
    refine lv_tableIn (tgt := 40) (off := 34) hx hb dX10_count_6 (by decide) (by decide) (by decide) (by decide) ?_
    refine lv_aload_n hx hb dX10_count_40 rfl (lv_at hl 0 rfl) ?_
    have n4 : F1 6 = .ref h_s := (get_ne eF1 (by decide) e_s)
    refine get_f (D := D) (ci := 10) (v := .ref h_s) (C := RX10) (T := TX10) (N := 67) hx hb hw inAX10 hown hK hP 0 rfl rfl 6 (by decide) (hw _ q_1267) (fun _ h9 => h9) n4 dX10_count_41 ?_
    refine lv_bipush (v := 113) hx hb dX10_count_44 (by decide) ?_
    refine iald_n hx hb hK hP 1 0 rfl rfl 113 rfl (Nat.le_of_ble_eq_true rfl) (Nat.le_of_ble_eq_true rfl) rfl dX10_count_46 ?_
    refine lv_topi (fun v5 ev5 => ?_)
    exact ret_i (v := v5) hx hb hr hlocks hS hP hD dX10_count_47 rfl (Nat.le_of_ble_eq_true rfl) (Nat.le_of_ble_eq_true rfl) ⟨F1, (SAME.up eF1 SAME.rf (by decide)), (get_eq eF1), rfl⟩
  by_cases k6 : p0 = 9
  · have dk6 : p0.toInt = 9 := eq_i rfl rfl k6
    have k7 : 9 ≤ p0.toInt ∧ p0.toInt ≤ 9 := ⟨Int.le_trans (Int.le_refl _) (Int.le_of_eq dk6.symm), Int.le_trans (Int.le_of_eq dk6) (Int.le_refl _)⟩
    refine lv_ci (y := 9) k6 ?_
    refine lv_tableIn (tgt := 48) (off := 42) hx hb dX10_count_6 (by decide) (by decide) (by decide) (by decide) ?_
    refine lv_aload_n hx hb dX10_count_48 rfl (lv_at hl 0 rfl) ?_
    have n8 : F1 6 = .ref h_s := (get_ne eF1 (by decide) e_s)
    refine get_f (D := D) (ci := 10) (v := .ref h_s) (C := RX10) (T := TX10) (N := 67) hx hb hw inAX10 hown hK hP 0 rfl rfl 6 (by decide) (hw _ q_1267) (fun _ h9 => h9) n8 dX10_count_49 ?_
    refine lv_bipush (v := 7) hx hb dX10_count_52 (by decide) ?_
    refine iald_n hx hb hK hP 1 0 rfl rfl 7 rfl (Nat.le_of_ble_eq_true rfl) (Nat.le_of_ble_eq_true rfl) rfl dX10_count_54 ?_
    refine lv_topi (fun v9 ev9 => ?_)
    have k10 : 0 ≤ v9.toInt ∧ v9.toInt ≤ 6 := by rw [ev9]; exact s_s_7.atN 7 (by decide) (by decide)
    refine lv_if_ne (tgt := 62) hx hb dX10_count_55 (by decide) (fun c11 => ?_) (fun c11 => ?_)
    · have dc11 : v9.toInt ≠ 0 := ne_i (a := v9.toInt) (b := 0) rfl rfl c11
      have k12 : 1 ≤ v9.toInt ∧ v9.toInt ≤ 6 := ⟨ne_lo dc11 k10.1 ⟨Int.le_refl _, Int.le_refl _⟩ (by decide), k10.2⟩
      refine lv_aload_n hx hb dX10_count_62 rfl (lv_at hl 0 rfl) ?_
      refine get_f (D := D) (ci := 10) (v := .ref h_s) (C := RX10) (T := TX10) (N := 67) hx hb hw inAX10 hown hK hP 0 rfl rfl 6 (by decide) (hw _ q_1267) (fun _ h9 => h9) n8 dX10_count_63 ?_
      refine lv_bipush (v := 114) hx hb dX10_count_66 (by decide) ?_
      refine iald_n hx hb hK hP 1 0 rfl rfl 114 rfl (Nat.le_of_ble_eq_true rfl) (Nat.le_of_ble_eq_true rfl) rfl dX10_count_68 ?_
      refine lv_topi (fun v13 ev13 => ?_)
      have k14 : 0 ≤ v13.toInt ∧ v13.toInt ≤ 5 := by rw [ev13]; exact s_s_114.atN 114 (by decide) (by decide)
      exact ret_i (v := v13) hx hb hr hlocks hS hP hD dX10_count_69 rfl (Nat.le_of_ble_eq_true rfl) (Nat.le_of_ble_eq_true rfl) ⟨F1, (SAME.up eF1 SAME.rf (by decide)), (get_eq eF1), rfl⟩
    · have dc11 : v9.toInt = 0 := eq_i (a := v9.toInt) (b := 0) rfl rfl c11
      have k15 : 0 ≤ v9.toInt ∧ v9.toInt ≤ 0 := ⟨k10.1, Int.le_trans (Int.le_of_eq dc11) (Int.le_refl _)⟩
      refine lv_iconst (v := (-1)) hx hb dX10_count_58 (by decide) ?_
      refine lv_goto (tgt := 69) hx hb dX10_count_59 (by decide) ?_
      exact ret_i (v := (-1)) hx hb hr hlocks hS hP hD dX10_count_69 rfl (Nat.le_of_ble_eq_true rfl) (Nat.le_of_ble_eq_true rfl) ⟨F1, (SAME.up eF1 SAME.rf (by decide)), (get_eq eF1), rfl⟩
  by_cases k16 : p0 = 10
  · have dk16 : p0.toInt = 10 := eq_i rfl rfl k16
    have k17 : 10 ≤ p0.toInt ∧ p0.toInt ≤ 10 := ⟨Int.le_trans (Int.le_refl _) (Int.le_of_eq dk16.symm), Int.le_trans (Int.le_of_eq dk16) (Int.le_refl _)⟩
    refine lv_ci (y := 10) k16 ?_
    refine lv_tableIn (tgt := 70) (off := 64) hx hb dX10_count_6 (by decide) (by decide) (by decide) (by decide) ?_
    refine lv_aload_n hx hb dX10_count_70 rfl (lv_at hl 0 rfl) ?_
    have n18 : F1 6 = .ref h_s := (get_ne eF1 (by decide) e_s)
    refine get_f (D := D) (ci := 10) (v := .ref h_s) (C := RX10) (T := TX10) (N := 67) hx hb hw inAX10 hown hK hP 0 rfl rfl 6 (by decide) (hw _ q_1267) (fun _ h9 => h9) n18 dX10_count_71 ?_
    refine lv_bipush (v := 115) hx hb dX10_count_74 (by decide) ?_
    refine iald_n hx hb hK hP 1 0 rfl rfl 115 rfl (Nat.le_of_ble_eq_true rfl) (Nat.le_of_ble_eq_true rfl) rfl dX10_count_76 ?_
    refine lv_topi (fun v19 ev19 => ?_)
    exact ret_i (v := v19) hx hb hr hlocks hS hP hD dX10_count_77 rfl (Nat.le_of_ble_eq_true rfl) (Nat.le_of_ble_eq_true rfl) ⟨F1, (SAME.up eF1 SAME.rf (by decide)), (get_eq eF1), rfl⟩
  by_cases k20 : p0 = 11
  · have dk20 : p0.toInt = 11 := eq_i rfl rfl k20
    have k21 : 11 ≤ p0.toInt ∧ p0.toInt ≤ 11 := ⟨Int.le_trans (Int.le_refl _) (Int.le_of_eq dk20.symm), Int.le_trans (Int.le_of_eq dk20) (Int.le_refl _)⟩
    refine lv_ci (y := 11) k20 ?_
    refine lv_tableIn (tgt := 78) (off := 72) hx hb dX10_count_6 (by decide) (by decide) (by decide) (by decide) ?_
    refine lv_aload_n hx hb dX10_count_78 rfl (lv_at hl 0 rfl) ?_
    have n22 : F1 6 = .ref h_s := (get_ne eF1 (by decide) e_s)
    refine get_f (D := D) (ci := 10) (v := .ref h_s) (C := RX10) (T := TX10) (N := 67) hx hb hw inAX10 hown hK hP 0 rfl rfl 6 (by decide) (hw _ q_1267) (fun _ h9 => h9) n22 dX10_count_79 ?_
    refine lv_bipush (v := 104) hx hb dX10_count_82 (by decide) ?_
    refine iald_n hx hb hK hP 1 0 rfl rfl 104 rfl (Nat.le_of_ble_eq_true rfl) (Nat.le_of_ble_eq_true rfl) rfl dX10_count_84 ?_
    refine lv_topi (fun v23 ev23 => ?_)
    exact ret_i (v := v23) hx hb hr hlocks hS hP hD dX10_count_85 rfl (Nat.le_of_ble_eq_true rfl) (Nat.le_of_ble_eq_true rfl) ⟨F1, (SAME.up eF1 SAME.rf (by decide)), (get_eq eF1), rfl⟩
  by_cases k24 : p0 = 12
  · have dk24 : p0.toInt = 12 := eq_i rfl rfl k24
    have k25 : 12 ≤ p0.toInt ∧ p0.toInt ≤ 12 := ⟨Int.le_trans (Int.le_refl _) (Int.le_of_eq dk24.symm), Int.le_trans (Int.le_of_eq dk24) (Int.le_refl _)⟩
    refine lv_ci (y := 12) k24 ?_
    refine lv_tableIn (tgt := 86) (off := 80) hx hb dX10_count_6 (by decide) (by decide) (by decide) (by decide) ?_
    refine lv_aload_n hx hb dX10_count_86 rfl (lv_at hl 0 rfl) ?_
    have n26 : F1 2 = .int x_length := (get_ne eF1 (by decide) e_length)
    refine get_f (D := D) (ci := 10) (v := .int x_length) (C := RX10) (T := TX10) (N := 67) hx hb hw inAX10 hown hK hP 0 rfl rfl 2 (by decide) (hw _ q_1263) (fun _ h9 => h9) n26 dX10_count_87 ?_
    exact ret_i (v := x_length) hx hb hr hlocks hS hP hD dX10_count_90 rfl (Nat.le_of_ble_eq_true rfl) (Nat.le_of_ble_eq_true rfl) ⟨F1, (SAME.up eF1 SAME.rf (by decide)), (get_eq eF1), rfl⟩
  have dk2 : p0.toInt ≠ 8 := ne_i rfl rfl k2
  have dk6 : p0.toInt ≠ 9 := ne_i rfl rfl k6
  have dk16 : p0.toInt ≠ 10 := ne_i rfl rfl k16
  have dk20 : p0.toInt ≠ 11 := ne_i rfl rfl k20
  have dk24 : p0.toInt ≠ 12 := ne_i rfl rfl k24
  refine lv_tableOut (tgt := 91) hx hb dX10_count_6 (by omega) (by decide) ?_
  refine lv_iload_n hx hb dX10_count_91 rfl (lv_at hl 1 rfl) ?_
  refine lv_iconst (v := 0) hx hb dX10_count_92 (by decide) ?_
  refine lv_bipush (v := 7) hx hb dX10_count_93 (by decide) ?_
  refine call_Si (wr := [(h0, .inr (10, vL 67 F1)), (h_s, .inl (cI, 335, .inl f_s))]) (As := [.int p0, .int 0, .int 7]) (rest := []) hx hb hml hown hw (m_X10_isIn l D cI cJ cB cP cM cZ p0 0 7 _ ) wS_X10_211_X10_isIn dX10_count_95 hP hD hS hA [] [0, 1] rfl rfl (by decide) (by decide) (by decide) GG.fb hG.at hl.1 rfl (Nat.le_of_ble_eq_true rfl) ⟨(Nat.le_of_ble_eq_true rfl), (Nat.le_of_ble_eq_true rfl)⟩ ⟨(Nat.le_of_ble_eq_true rfl), (Nat.le_of_ble_eq_true rfl)⟩ (fun r27 u H locs hp hP hD hS => ?_)
  have zl0 : (0 : Int32).toInt = 0 := by decide
  have zl7 : (7 : Int32).toInt = 7 := by decide
  rcases hp with ⟨t28, rfl, rfl⟩ | ⟨t29, t30, rfl, rfl⟩ | ⟨t31, t32, rfl, rfl⟩
  · have hP : va_P D vwCl [(h0, .inr (10, vL 67 F1)), (h_s, .inl (cI, 335, .inl f_s))] H := hP
    have hD : va_D A [(h0, .inr (10, vL 67 F1)), (h_s, .inl (cI, 335, .inl f_s))] := hD
    refine W.widen (k := 0) (n := 0) (Nat.le_of_ble_eq_true rfl) (Nat.le_of_ble_eq_true rfl) ?_
    have k34 : (-2147483648) ≤ p0.toInt ∧ p0.toInt ≤ (-1) := ⟨(ir_any _).1, up_lt t28 (Int.le_refl _) (by decide)⟩
    refine lv_if_eq (tgt := 110) hx hb dX10_count_98 (by decide) (fun _ => ?_) (fun g => absurd (by decide) g)
    refine lv_iconst (v := (-1)) hx hb dX10_count_110 (by decide) ?_
    exact ret_i (v := (-1)) hx hb hr hlocks hS hP hD dX10_count_111 rfl (Nat.le_of_ble_eq_true rfl) (Nat.le_of_ble_eq_true rfl) ⟨F1, (SAME.up eF1 SAME.rf (by decide)), (get_eq eF1), rfl⟩
  · have hP : va_P D vwCl [(h0, .inr (10, vL 67 F1)), (h_s, .inl (cI, 335, .inl f_s))] H := hP
    have hD : va_D A [(h0, .inr (10, vL 67 F1)), (h_s, .inl (cI, 335, .inl f_s))] := hD
    refine W.widen (k := 0) (n := 0) (Nat.le_of_ble_eq_true rfl) (Nat.le_of_ble_eq_true rfl) ?_
    have k35 : 0 ≤ p0.toInt ∧ p0.toInt ≤ 2147483647 := ⟨Int.le_trans (Int.le_refl _) t29, (ir_any _).2⟩
    have k36 : 8 ≤ p0.toInt ∧ p0.toInt ≤ 2147483647 := ⟨lo_lt t30 (Int.le_refl _) (by decide), k35.2⟩
    refine lv_if_eq (tgt := 110) hx hb dX10_count_98 (by decide) (fun _ => ?_) (fun g => absurd (by decide) g)
    refine lv_iconst (v := (-1)) hx hb dX10_count_110 (by decide) ?_
    exact ret_i (v := (-1)) hx hb hr hlocks hS hP hD dX10_count_111 rfl (Nat.le_of_ble_eq_true rfl) (Nat.le_of_ble_eq_true rfl) ⟨F1, (SAME.up eF1 SAME.rf (by decide)), (get_eq eF1), rfl⟩
  · have hP : va_P D vwCl [(h0, .inr (10, vL 67 F1)), (h_s, .inl (cI, 335, .inl f_s))] H := hP
    have hD : va_D A [(h0, .inr (10, vL 67 F1)), (h_s, .inl (cI, 335, .inl f_s))] := hD
    refine W.widen (k := 0) (n := 0) (Nat.le_of_ble_eq_true rfl) (Nat.le_of_ble_eq_true rfl) ?_
    have k37 : 0 ≤ p0.toInt ∧ p0.toInt ≤ 2147483647 := ⟨Int.le_trans (Int.le_refl _) t31, (ir_any _).2⟩
    have k38 : 0 ≤ p0.toInt ∧ p0.toInt ≤ 7 := ⟨k37.1, Int.le_trans t32 (Int.le_refl _)⟩
    refine lv_if_eq (tgt := 110) hx hb dX10_count_98 (by decide) (fun g => absurd g (by decide)) (fun _ => ?_)
    refine lv_aload_n hx hb dX10_count_101 rfl (lv_at hl 0 rfl) ?_
    have n39 : F1 6 = .ref h_s := (get_ne eF1 (by decide) e_s)
    refine get_f (D := D) (ci := 10) (v := .ref h_s) (C := RX10) (T := TX10) (N := 67) hx hb hw inAX10 hown hK hP 0 rfl rfl 6 (by decide) (hw _ q_1267) (fun _ h9 => h9) n39 dX10_count_102 ?_
    refine lv_iload_n hx hb dX10_count_105 rfl (lv_at hl 1 rfl) ?_
    refine va_iald hx hb hK hP 1 0 rfl rfl (ix_k k38 (by decide) (by decide)) dX10_count_106 ?_
    refine lv_topi (fun v40 ev40 => ?_)
    have r41 : IMP (0 ≤ p0.toInt → p0.toInt ≤ 0 → 0 ≤ v40.toInt ∧ v40.toInt ≤ 40) := IMP.mk (fun q1 q2 => by rw [ev40]; exact s_s_0.at _ q1 q2)
    have r42 : IMP (5 ≤ p0.toInt → p0.toInt ≤ 5 → 0 ≤ v40.toInt ∧ v40.toInt ≤ 12) := IMP.mk (fun q1 q2 => by rw [ev40]; exact s_s_5.at _ q1 q2)
    have r43 : IMP (6 ≤ p0.toInt → p0.toInt ≤ 6 → 0 ≤ v40.toInt ∧ v40.toInt ≤ 12) := IMP.mk (fun q1 q2 => by rw [ev40]; exact s_s_6.at _ q1 q2)
    have r44 : IMP (7 ≤ p0.toInt → p0.toInt ≤ 7 → 0 ≤ v40.toInt ∧ v40.toInt ≤ 6) := IMP.mk (fun q1 q2 => by rw [ev40]; exact s_s_7.at _ q1 q2)
    refine lv_goto (tgt := 111) hx hb dX10_count_107 (by decide) ?_
    exact ret_i (v := v40) hx hb hr hlocks hS hP hD dX10_count_111 rfl (Nat.le_of_ble_eq_true rfl) (Nat.le_of_ble_eq_true rfl) ⟨F1, (SAME.up eF1 SAME.rf (by decide)), (get_eq eF1), rfl⟩
