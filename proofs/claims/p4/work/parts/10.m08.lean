set_option maxHeartbeats 4000000 in
set_option maxRecDepth 100000 in
theorem m_X10_undo (l : Launch) (D : va_G) (cI cJ cB cP cM cZ : ClassId) (h0 : Nat) (h_s : Nat) (h_undone : Nat) (Fh : Nat → Value) (x_undoMany : Int32) (f_s : Nat → Int32) (f_undone : Nat → Int32) (sz : Nat) (e_s : Fh 6 = .ref h_s) (e_undone : Fh 39 = .ref h_undone) (e_undoMany : Fh 41 = .int x_undoMany) (i_x_undoMany : IR 0 8 x_undoMany) (s_s_K0 : KW 0 f_s) (s_s_0 : SG 0 0 0 40 f_s) (s_s_105 : SG 105 108 0 11 f_s) (s_s_114 : SG 114 114 0 5 f_s) (s_s_130 : SG 130 133 0 11 f_s) (s_s_139 : SG 139 139 0 5 f_s) (s_s_153 : SG 153 153 0 44 f_s) (s_s_44 : SG 44 55 0 9 f_s) (s_s_5 : SG 5 5 0 12 f_s) (s_s_6 : SG 6 6 0 12 f_s) (s_s_7 : SG 7 7 0 6 f_s) (s_undone_1 : SG 1 4 0 11 f_undone) (s_undone_10 : SG 10 10 0 5 f_undone) (s_undone_106 : SG 106 106 0 5 f_undone) (s_undone_121 : SG 121 124 0 11 f_undone) (s_undone_130 : SG 130 130 0 5 f_undone) (s_undone_145 : SG 145 148 0 11 f_undone) (s_undone_154 : SG 154 154 0 5 f_undone) (s_undone_169 : SG 169 172 0 11 f_undone) (s_undone_178 : SG 178 178 0 5 f_undone) (s_undone_25 : SG 25 28 0 11 f_undone) (s_undone_34 : SG 34 34 0 5 f_undone) (s_undone_49 : SG 49 52 0 11 f_undone) (s_undone_58 : SG 58 58 0 5 f_undone) (s_undone_73 : SG 73 76 0 11 f_undone) (s_undone_82 : SG 82 82 0 5 f_undone) (s_undone_97 : SG 97 100 0 11 f_undone) : CI l yX10_undo cX10_undo 2 (some .int) { frames := 0, cells := 0, slots := 0, locals := 0 } (GG D cI cJ cB cP cM cZ) D [(h0, .inr (10, vL 67 Fh)), (h_s, .inl (cI, 335, .inl f_s)), (h_undone, .inl (cI, 192, .inl f_undone))] sz [.ref h0] (fun (r : Int32) (u : va_W) => ∃ (Gh : Nat → Value) (y_undoMany : Int32) (g_s : Nat → Int32), SAME [0, 41] Fh Gh ∧ Gh 0 = .int 0 ∧ Gh 41 = .int y_undoMany ∧ IR 0 7 y_undoMany ∧ SG 153 153 0 44 g_s ∧ SG 0 0 0 40 g_s ∧ SG 5 5 0 12 g_s ∧ SG 6 6 0 12 g_s ∧ SG 7 7 0 6 g_s ∧ SG 44 55 0 9 g_s ∧ KW 0 g_s ∧ SG 105 108 0 11 g_s ∧ SG 114 114 0 5 g_s ∧ SG 130 133 0 11 g_s ∧ SG 139 139 0 5 g_s ∧ IR (-1) 7 r ∧ u = [(h0, .inr (10, vL 67 Gh)), (h_s, .inl (cI, 335, .inl g_s)), (h_undone, .inl (cI, 192, .inl f_undone))]) := by
  refine CI_mk (by decide) (Nat.le_of_ble_eq_true rfl) ?_
  intro p e s m below meth c A ls E hAe hG hsz hP hD hA hS hl
  obtain ⟨hx, hb, hr, hw, hown, hlocks, hml, hnm⟩ := E
  have hK := hG.1
  have i_x_undoMany : 0 ≤ x_undoMany.toInt ∧ x_undoMany.toInt ≤ 8 := i_x_undoMany
  have hl : lv_has ls 2 [(0, .ref h0)] := hl
  refine lv_aload_n hx hb dX10_undo_0 rfl (lv_at hl 0 rfl) ?_
  refine lv_iconst (v := 0) hx hb dX10_undo_1 (by decide) ?_
  refine put_f (D := D) (ci := 10) (v := .int 0) (ty := .int) (C := RX10) (T := TX10) (N := 67) hx hb hw inAX10 tyX10 tyX10_ok nmX10 hown hK hP hD hS 0 rfl rfl 0 (by decide) (hw _ q_1261) (fun _ h9 => h9) rfl (by decide +kernel) rfl rfl dX10_undo_2 (fun H locs F1 eF1 hP hD hS => ?_)
  have hP : va_P D vwCl [(h0, .inr (10, vL 67 F1)), (h_s, .inl (cI, 335, .inl f_s)), (h_undone, .inl (cI, 192, .inl f_undone))] H := hP
  have hD : va_D A [(h0, .inr (10, vL 67 F1)), (h_s, .inl (cI, 335, .inl f_s)), (h_undone, .inl (cI, 192, .inl f_undone))] := hD
  refine lv_aload_n hx hb dX10_undo_5 rfl (lv_at hl 0 rfl) ?_
  have n2 : F1 41 = .int x_undoMany := (get_ne eF1 (by decide) e_undoMany)
  refine get_f (D := D) (ci := 10) (v := .int x_undoMany) (C := RX10) (T := TX10) (N := 67) hx hb hw inAX10 hown hK hP 0 rfl rfl 41 (by decide) (hw _ q_1302) (fun _ h9 => h9) n2 dX10_undo_6 ?_
  refine lv_if_ne (tgt := 14) hx hb dX10_undo_9 (by decide) (fun c3 => ?_) (fun c3 => ?_)
  · have dc3 : x_undoMany.toInt ≠ 0 := ne_i (a := x_undoMany.toInt) (b := 0) rfl rfl c3
    have k4 : 1 ≤ x_undoMany.toInt ∧ x_undoMany.toInt ≤ 8 := ⟨ne_lo dc3 i_x_undoMany.1 ⟨Int.le_refl _, Int.le_refl _⟩ (by decide), i_x_undoMany.2⟩
    refine lv_aload_n hx hb dX10_undo_14 rfl (lv_at hl 0 rfl) ?_
    refine lv_dup hx hb dX10_undo_15 rfl ?_
    refine get_f (D := D) (ci := 10) (v := .int x_undoMany) (C := RX10) (T := TX10) (N := 67) hx hb hw inAX10 hown hK hP 0 rfl rfl 41 (by decide) (hw _ q_1302) (fun _ h9 => h9) n2 dX10_undo_16 ?_
    refine lv_iconst (v := 1) hx hb dX10_undo_19 (by decide) ?_
    refine lv_isub hx hb dX10_undo_20 ?_
    refine lv_topi (fun v5 ev5 => ?_)
    have bv5 : v5.toInt = x_undoMany.toInt - 1 := by rw [ev5]; exact sub_k rfl rfl k4 ⟨Int.le_refl _, Int.le_refl _⟩ (by decide)
    have k6 : 0 ≤ v5.toInt ∧ v5.toInt ≤ 7 := sub_r bv5 k4 ⟨Int.le_refl _, Int.le_refl _⟩ (by decide)
    refine put_f (D := D) (ci := 10) (v := .int v5) (ty := .int) (C := RX10) (T := TX10) (N := 67) hx hb hw inAX10 tyX10 tyX10_ok nmX10 hown hK hP hD hS 0 rfl rfl 41 (by decide) (hw _ q_1302) (fun _ h9 => h9) rfl (by decide +kernel) rfl rfl dX10_undo_21 (fun H locs F7 eF7 hP hD hS => ?_)
    have hP : va_P D vwCl [(h0, .inr (10, vL 67 F7)), (h_s, .inl (cI, 335, .inl f_s)), (h_undone, .inl (cI, 192, .inl f_undone))] H := hP
    have hD : va_D A [(h0, .inr (10, vL 67 F7)), (h_s, .inl (cI, 335, .inl f_s)), (h_undone, .inl (cI, 192, .inl f_undone))] := hD
    by_cases k8 : v5 = 0
    · have dk8 : v5.toInt = 0 := eq_i rfl rfl k8
      have k9 : 0 ≤ v5.toInt ∧ v5.toInt ≤ 0 := ⟨k6.1, Int.le_trans (Int.le_of_eq dk8) (Int.le_refl _)⟩
      have k10 : 1 ≤ x_undoMany.toInt ∧ x_undoMany.toInt ≤ 1 := ⟨k4.1, lin_hi (lin_m bv5) k9.2 (by decide)⟩
      have n11 : F7 41 = .int 0 := by rw [(get_eq eF7)]; exact congrArg Value.int k8
      refine lv_iconst (v := 0) hx hb dX10_undo_24 (by decide) ?_
      refine lv_istore_n (lv' := [(1, .int 0), (0, .ref h0)]) hx hb dX10_undo_25 rfl hl (by decide) rfl (fun ls hl => ?_)
      refine mloop (α := (Int32) × (Nat → Int32)) (nL := 2) (D := D) (A := A) (H0 := s.heap) (fun a => (24 - a.1.toInt).toNat) (fun a => IR 0 24 a.1 ∧ KW 0 a.2 ∧ SG 0 0 0 40 a.2 ∧ SG 105 108 0 11 a.2 ∧ SG 114 114 0 5 a.2 ∧ SG 130 133 0 11 a.2 ∧ SG 139 139 0 5 a.2 ∧ SG 153 153 0 44 a.2 ∧ SG 44 55 0 9 a.2 ∧ SG 5 5 0 12 a.2 ∧ SG 6 6 0 12 a.2 ∧ SG 7 7 0 6 a.2) (fun a => [(h0, .inr (10, vL 67 F7)), (h_s, .inl (cI, 335, .inl a.2)), (h_undone, .inl (cI, 192, .inl f_undone))]) (fun a => [(1, .int a.1), (0, .ref h0)]) (fun H locs ls => W p l e ({ frames := 0, cells := 0, slots := 0, locals := 0 } : Room) s m [.ref h0].toArray below meth c H locs 0 0 (MQ below (va_Qi (fun (r : Int32) (u : va_W) => ∃ (Gh : Nat → Value) (y_undoMany : Int32) (g_s : Nat → Int32), SAME [0, 41] Fh Gh ∧ Gh 0 = .int 0 ∧ Gh 41 = .int y_undoMany ∧ IR 0 7 y_undoMany ∧ SG 153 153 0 44 g_s ∧ SG 0 0 0 40 g_s ∧ SG 5 5 0 12 g_s ∧ SG 6 6 0 12 g_s ∧ SG 7 7 0 6 g_s ∧ SG 44 55 0 9 g_s ∧ KW 0 g_s ∧ SG 105 108 0 11 g_s ∧ SG 114 114 0 5 g_s ∧ SG 130 133 0 11 g_s ∧ SG 139 139 0 5 g_s ∧ IR (-1) 7 r ∧ u = [(h0, .inr (10, vL 67 Gh)), (h_s, .inl (cI, 335, .inl g_s)), (h_undone, .inl (cI, 192, .inl f_undone))]) (PO D A) A) [.ref h0].toArray s 0 0 A) (F0 m 26 ls [])) ?_ (0, f_s) ⟨(show 0 ≤ (0 : Int32).toInt ∧ (0 : Int32).toInt ≤ 24 by decide), s_s_K0, s_s_0, s_s_105, s_s_114, s_s_130, s_s_139, s_s_153, s_s_44, s_s_5, s_s_6, s_s_7⟩ _ _ _ hP hD hS hl
      rintro ⟨u12, w13⟩ ⟨i14, i15, i16, i17, i18, i19, i20, i21, i22, i23, i24, i25⟩ ih H locs ls hP hD hS hl
      have i14 : 0 ≤ u12.toInt ∧ u12.toInt ≤ 24 := i14
      have hP : va_P D vwCl [(h0, .inr (10, vL 67 F7)), (h_s, .inl (cI, 335, .inl w13)), (h_undone, .inl (cI, 192, .inl f_undone))] H := hP
      have hD : va_D A [(h0, .inr (10, vL 67 F7)), (h_s, .inl (cI, 335, .inl w13)), (h_undone, .inl (cI, 192, .inl f_undone))] := hD
      have hl : lv_has ls 2 [(1, .int u12), (0, .ref h0)] := hl
      refine lv_iload_n hx hb dX10_undo_26 rfl (lv_at hl 0 rfl) ?_
      refine lv_bipush (v := 24) hx hb dX10_undo_27 (by decide) ?_
      refine lv_icmp_ge (tgt := 61) hx hb dX10_undo_29 (by decide) (fun c26 => ?_) (fun c26 => ?_)
      · have dc26 : 24 ≤ u12.toInt := le_i (a := 24) (b := u12.toInt) rfl rfl c26
        have k27 : 24 ≤ u12.toInt ∧ u12.toInt ≤ 24 := ⟨Int.le_trans (Int.le_refl _) dc26, i14.2⟩
        refine lv_aload_n hx hb dX10_undo_61 rfl (lv_at hl 1 rfl) ?_
        refine get_f (D := D) (ci := 10) (v := .int 0) (C := RX10) (T := TX10) (N := 67) hx hb hw inAX10 hown hK hP 0 rfl rfl 41 (by decide) (hw _ q_1302) (fun _ h9 => h9) n11 dX10_undo_62 ?_
        exact ret_i (v := 0) hx hb hr hlocks hS hP hD dX10_undo_65 rfl (Nat.le_of_ble_eq_true rfl) (Nat.le_of_ble_eq_true rfl) ⟨F7, v5, w13, (SAME.up eF7 (SAME.up eF1 SAME.rf (by decide)) (by decide)), (get_ne eF7 (by decide) (get_eq eF1)), (get_eq eF7), (ir_wk k9 (by decide) (by decide)), i21, i16, i23, i24, i25, i22, i15, i17, i18, i19, i20, (show (-1) ≤ (0 : Int32).toInt ∧ (0 : Int32).toInt ≤ 7 by decide), rfl⟩
      · have dc26 : u12.toInt < 24 := nle_i (a := 24) (b := u12.toInt) rfl rfl c26
        have k28 : 0 ≤ u12.toInt ∧ u12.toInt ≤ 23 := ⟨i14.1, up_lt dc26 (Int.le_refl _) (by decide)⟩
        refine lv_aload_n hx hb dX10_undo_32 rfl (lv_at hl 1 rfl) ?_
        have n29 : F1 6 = .ref h_s := (get_ne eF1 (by decide) e_s)
        have n30 : F7 6 = .ref h_s := (get_ne eF7 (by decide) n29)
        refine get_f (D := D) (ci := 10) (v := .ref h_s) (C := RX10) (T := TX10) (N := 67) hx hb hw inAX10 hown hK hP 0 rfl rfl 6 (by decide) (hw _ q_1267) (fun _ h9 => h9) n30 dX10_undo_33 ?_
        refine lv_bipush (v := 104) hx hb dX10_undo_36 (by decide) ?_
        refine lv_iload_n hx hb dX10_undo_38 rfl (lv_at hl 0 rfl) ?_
        refine lv_iadd hx hb dX10_undo_39 ?_
        refine lv_topi (fun v31 ev31 => ?_)
        have bv31 : v31.toInt = 104 + u12.toInt := by rw [ev31]; exact add_k rfl rfl ⟨Int.le_refl _, Int.le_refl _⟩ k28 (by decide)
        have k32 : 104 ≤ v31.toInt ∧ v31.toInt ≤ 127 := add_r bv31 ⟨Int.le_refl _, Int.le_refl _⟩ k28 (by decide)
        refine lv_aload_n hx hb dX10_undo_40 rfl (lv_at hl 1 rfl) ?_
        have n33 : F1 39 = .ref h_undone := (get_ne eF1 (by decide) e_undone)
        have n34 : F7 39 = .ref h_undone := (get_ne eF7 (by decide) n33)
        refine get_f (D := D) (ci := 10) (v := .ref h_undone) (C := RX10) (T := TX10) (N := 67) hx hb hw inAX10 hown hK hP 0 rfl rfl 39 (by decide) (hw _ q_1300) (fun _ h9 => h9) n34 dX10_undo_41 ?_
        refine lv_bipush (v := 24) hx hb dX10_undo_44 (by decide) ?_
        refine lv_aload_n hx hb dX10_undo_46 rfl (lv_at hl 1 rfl) ?_
        refine get_f (D := D) (ci := 10) (v := .int 0) (C := RX10) (T := TX10) (N := 67) hx hb hw inAX10 hown hK hP 0 rfl rfl 41 (by decide) (hw _ q_1302) (fun _ h9 => h9) n11 dX10_undo_47 ?_
        refine lv_imul hx hb dX10_undo_50 ?_
        refine lv_ci (y := 0) (by decide +kernel) ?_
        refine lv_iload_n hx hb dX10_undo_51 rfl (lv_at hl 0 rfl) ?_
        refine lv_iadd hx hb dX10_undo_52 ?_
        refine lv_topi (fun v35 ev35 => ?_)
        have bv35 : v35.toInt = 0 + u12.toInt := by rw [ev35]; exact add_k rfl rfl ⟨Int.le_refl _, Int.le_refl _⟩ k28 (by decide)
        have k36 : 0 ≤ v35.toInt ∧ v35.toInt ≤ 23 := add_r bv35 ⟨Int.le_refl _, Int.le_refl _⟩ k28 (by decide)
        refine va_iald hx hb hK hP 2 0 rfl rfl (ix_k k36 (by decide) (by decide)) dX10_undo_53 ?_
        refine lv_topi (fun v37 ev37 => ?_)
        have r38 : IMP (1 ≤ v35.toInt → v35.toInt ≤ 4 → 0 ≤ v37.toInt ∧ v37.toInt ≤ 11) := IMP.mk (fun q1 q2 => by rw [ev37]; exact s_undone_1.at _ q1 q2)
        have r39 : IMP (10 ≤ v35.toInt → v35.toInt ≤ 10 → 0 ≤ v37.toInt ∧ v37.toInt ≤ 5) := IMP.mk (fun q1 q2 => by rw [ev37]; exact s_undone_10.at _ q1 q2)
        obtain ⟨g40, eg40⟩ : ∃ z : Nat → Int32, upd w13 v31.toNatClampNeg v37 = z := ⟨_, rfl⟩
        have r41 : KW 0 g40 := by rw [← eg40]; exact i15.up (Int.le_trans (by decide) k32.1) (Or.inl (lt_dec k32.2 (by decide)))
        have r42 : SG 0 0 0 40 g40 := by rw [← eg40]; exact i16.up (Int.le_trans (by decide) k32.1) (Or.inr (Or.inl (dec_lt k32.1 (by decide))))
        have r43 : SG 105 108 0 11 g40 := by rw [← eg40]; exact i17.upI (Int.le_trans (by decide) k32.1) (fun q1 q2 => ⟨Int.le_trans (by decide) (r38.h (by omega) (by omega)).1, Int.le_trans (r38.h (by omega) (by omega)).2 (by decide)⟩)
        have r44 : SG 114 114 0 5 g40 := by rw [← eg40]; exact i18.upI (Int.le_trans (by decide) k32.1) (fun q1 q2 => ⟨Int.le_trans (by decide) (r39.h (by omega) (by omega)).1, Int.le_trans (r39.h (by omega) (by omega)).2 (by decide)⟩)
        have r45 : SG 130 133 0 11 g40 := by rw [← eg40]; exact i19.up (Int.le_trans (by decide) k32.1) (Or.inl (lt_dec k32.2 (by decide)))
        have r46 : SG 139 139 0 5 g40 := by rw [← eg40]; exact i20.up (Int.le_trans (by decide) k32.1) (Or.inl (lt_dec k32.2 (by decide)))
        have r47 : SG 153 153 0 44 g40 := by rw [← eg40]; exact i21.up (Int.le_trans (by decide) k32.1) (Or.inl (lt_dec k32.2 (by decide)))
        have r48 : SG 44 55 0 9 g40 := by rw [← eg40]; exact i22.up (Int.le_trans (by decide) k32.1) (Or.inr (Or.inl (dec_lt k32.1 (by decide))))
        have r49 : SG 5 5 0 12 g40 := by rw [← eg40]; exact i23.up (Int.le_trans (by decide) k32.1) (Or.inr (Or.inl (dec_lt k32.1 (by decide))))
        have r50 : SG 6 6 0 12 g40 := by rw [← eg40]; exact i24.up (Int.le_trans (by decide) k32.1) (Or.inr (Or.inl (dec_lt k32.1 (by decide))))
        have r51 : SG 7 7 0 6 g40 := by rw [← eg40]; exact i25.up (Int.le_trans (by decide) k32.1) (Or.inr (Or.inl (dec_lt k32.1 (by decide))))
        refine iast_g hx hb hK hP hD hS 1 0 rfl rfl (ix_k k32 (by decide) (by decide)) eg40 dX10_undo_54 (fun H locs hP hD hS => ?_)
        have hP : va_P D vwCl [(h0, .inr (10, vL 67 F7)), (h_s, .inl (cI, 335, .inl g40)), (h_undone, .inl (cI, 192, .inl f_undone))] H := hP
        have hD : va_D A [(h0, .inr (10, vL 67 F7)), (h_s, .inl (cI, 335, .inl g40)), (h_undone, .inl (cI, 192, .inl f_undone))] := hD
        obtain ⟨v52, ev52⟩ : ∃ z : Int32, z = u12 + 1 := ⟨_, rfl⟩
        have bv52 : v52.toInt = u12.toInt + 1 := by rw [ev52]; exact add_k rfl rfl k28 ⟨Int.le_refl _, Int.le_refl _⟩ (by decide)
        have k53 : 1 ≤ v52.toInt ∧ v52.toInt ≤ 24 := add_r bv52 k28 ⟨Int.le_refl _, Int.le_refl _⟩ (by decide)
        refine lv_iinc (v := v52) (lv' := [(1, .int v52), (0, .ref h0)]) hx hb dX10_undo_55 hl (k := 0) rfl (by rw [ev52]; rfl) (by decide) rfl (fun ls hl => ?_)
        refine lv_goto (tgt := 26) hx hb dX10_undo_58 (by decide) ?_
        exact ih (v52, g40) ⟨(ir_wk k53 (by decide) (by decide)), r41, r42, r43, r44, r45, r46, r47, r48, r49, r50, r51⟩ (by show (24 - v52.toInt).toNat < (24 - u12.toInt).toNat; omega) _ _ _ hP hD hS (lv_sub hl [0, 1] rfl)
    have dk8 : v5.toInt ≠ 0 := ne_i rfl rfl k8
    have k54 : 1 ≤ v5.toInt ∧ v5.toInt ≤ 7 := ⟨ne_lo dk8 k6.1 ⟨Int.le_refl _, Int.le_refl _⟩ (by decide), k6.2⟩
    have k55 : 2 ≤ x_undoMany.toInt ∧ x_undoMany.toInt ≤ 8 := ⟨lin_lo (lin_m bv5) k54.1 (by decide), k4.2⟩
    by_cases k56 : v5 = 1
    · have dk56 : v5.toInt = 1 := eq_i rfl rfl k56
      have k57 : 1 ≤ v5.toInt ∧ v5.toInt ≤ 1 := ⟨k54.1, Int.le_trans (Int.le_of_eq dk56) (Int.le_refl _)⟩
      have k58 : 2 ≤ x_undoMany.toInt ∧ x_undoMany.toInt ≤ 2 := ⟨k55.1, lin_hi (lin_m bv5) k57.2 (by decide)⟩
      have n59 : F7 41 = .int 1 := by rw [(get_eq eF7)]; exact congrArg Value.int k56
      refine lv_iconst (v := 0) hx hb dX10_undo_24 (by decide) ?_
      refine lv_istore_n (lv' := [(1, .int 0), (0, .ref h0)]) hx hb dX10_undo_25 rfl hl (by decide) rfl (fun ls hl => ?_)
      refine mloop (α := (Int32) × (Nat → Int32)) (nL := 2) (D := D) (A := A) (H0 := s.heap) (fun a => (24 - a.1.toInt).toNat) (fun a => IR 0 24 a.1 ∧ KW 0 a.2 ∧ SG 0 0 0 40 a.2 ∧ SG 105 108 0 11 a.2 ∧ SG 114 114 0 5 a.2 ∧ SG 130 133 0 11 a.2 ∧ SG 139 139 0 5 a.2 ∧ SG 153 153 0 44 a.2 ∧ SG 44 55 0 9 a.2 ∧ SG 5 5 0 12 a.2 ∧ SG 6 6 0 12 a.2 ∧ SG 7 7 0 6 a.2) (fun a => [(h0, .inr (10, vL 67 F7)), (h_s, .inl (cI, 335, .inl a.2)), (h_undone, .inl (cI, 192, .inl f_undone))]) (fun a => [(1, .int a.1), (0, .ref h0)]) (fun H locs ls => W p l e ({ frames := 0, cells := 0, slots := 0, locals := 0 } : Room) s m [.ref h0].toArray below meth c H locs 0 0 (MQ below (va_Qi (fun (r : Int32) (u : va_W) => ∃ (Gh : Nat → Value) (y_undoMany : Int32) (g_s : Nat → Int32), SAME [0, 41] Fh Gh ∧ Gh 0 = .int 0 ∧ Gh 41 = .int y_undoMany ∧ IR 0 7 y_undoMany ∧ SG 153 153 0 44 g_s ∧ SG 0 0 0 40 g_s ∧ SG 5 5 0 12 g_s ∧ SG 6 6 0 12 g_s ∧ SG 7 7 0 6 g_s ∧ SG 44 55 0 9 g_s ∧ KW 0 g_s ∧ SG 105 108 0 11 g_s ∧ SG 114 114 0 5 g_s ∧ SG 130 133 0 11 g_s ∧ SG 139 139 0 5 g_s ∧ IR (-1) 7 r ∧ u = [(h0, .inr (10, vL 67 Gh)), (h_s, .inl (cI, 335, .inl g_s)), (h_undone, .inl (cI, 192, .inl f_undone))]) (PO D A) A) [.ref h0].toArray s 0 0 A) (F0 m 26 ls [])) ?_ (0, f_s) ⟨(show 0 ≤ (0 : Int32).toInt ∧ (0 : Int32).toInt ≤ 24 by decide), s_s_K0, s_s_0, s_s_105, s_s_114, s_s_130, s_s_139, s_s_153, s_s_44, s_s_5, s_s_6, s_s_7⟩ _ _ _ hP hD hS hl
      rintro ⟨u60, w61⟩ ⟨i62, i63, i64, i65, i66, i67, i68, i69, i70, i71, i72, i73⟩ ih H locs ls hP hD hS hl
      have i62 : 0 ≤ u60.toInt ∧ u60.toInt ≤ 24 := i62
      have hP : va_P D vwCl [(h0, .inr (10, vL 67 F7)), (h_s, .inl (cI, 335, .inl w61)), (h_undone, .inl (cI, 192, .inl f_undone))] H := hP
      have hD : va_D A [(h0, .inr (10, vL 67 F7)), (h_s, .inl (cI, 335, .inl w61)), (h_undone, .inl (cI, 192, .inl f_undone))] := hD
      have hl : lv_has ls 2 [(1, .int u60), (0, .ref h0)] := hl
      refine lv_iload_n hx hb dX10_undo_26 rfl (lv_at hl 0 rfl) ?_
      refine lv_bipush (v := 24) hx hb dX10_undo_27 (by decide) ?_
      refine lv_icmp_ge (tgt := 61) hx hb dX10_undo_29 (by decide) (fun c74 => ?_) (fun c74 => ?_)
      · have dc74 : 24 ≤ u60.toInt := le_i (a := 24) (b := u60.toInt) rfl rfl c74
        have k75 : 24 ≤ u60.toInt ∧ u60.toInt ≤ 24 := ⟨Int.le_trans (Int.le_refl _) dc74, i62.2⟩
        refine lv_aload_n hx hb dX10_undo_61 rfl (lv_at hl 1 rfl) ?_
        refine get_f (D := D) (ci := 10) (v := .int 1) (C := RX10) (T := TX10) (N := 67) hx hb hw inAX10 hown hK hP 0 rfl rfl 41 (by decide) (hw _ q_1302) (fun _ h9 => h9) n59 dX10_undo_62 ?_
        exact ret_i (v := 1) hx hb hr hlocks hS hP hD dX10_undo_65 rfl (Nat.le_of_ble_eq_true rfl) (Nat.le_of_ble_eq_true rfl) ⟨F7, v5, w61, (SAME.up eF7 (SAME.up eF1 SAME.rf (by decide)) (by decide)), (get_ne eF7 (by decide) (get_eq eF1)), (get_eq eF7), (ir_wk k57 (by decide) (by decide)), i69, i64, i71, i72, i73, i70, i63, i65, i66, i67, i68, (show (-1) ≤ (1 : Int32).toInt ∧ (1 : Int32).toInt ≤ 7 by decide), rfl⟩
      · have dc74 : u60.toInt < 24 := nle_i (a := 24) (b := u60.toInt) rfl rfl c74
        have k76 : 0 ≤ u60.toInt ∧ u60.toInt ≤ 23 := ⟨i62.1, up_lt dc74 (Int.le_refl _) (by decide)⟩
        refine lv_aload_n hx hb dX10_undo_32 rfl (lv_at hl 1 rfl) ?_
        have n77 : F1 6 = .ref h_s := (get_ne eF1 (by decide) e_s)
        have n78 : F7 6 = .ref h_s := (get_ne eF7 (by decide) n77)
        refine get_f (D := D) (ci := 10) (v := .ref h_s) (C := RX10) (T := TX10) (N := 67) hx hb hw inAX10 hown hK hP 0 rfl rfl 6 (by decide) (hw _ q_1267) (fun _ h9 => h9) n78 dX10_undo_33 ?_
        refine lv_bipush (v := 104) hx hb dX10_undo_36 (by decide) ?_
        refine lv_iload_n hx hb dX10_undo_38 rfl (lv_at hl 0 rfl) ?_
        refine lv_iadd hx hb dX10_undo_39 ?_
        refine lv_topi (fun v79 ev79 => ?_)
        have bv79 : v79.toInt = 104 + u60.toInt := by rw [ev79]; exact add_k rfl rfl ⟨Int.le_refl _, Int.le_refl _⟩ k76 (by decide)
        have k80 : 104 ≤ v79.toInt ∧ v79.toInt ≤ 127 := add_r bv79 ⟨Int.le_refl _, Int.le_refl _⟩ k76 (by decide)
        refine lv_aload_n hx hb dX10_undo_40 rfl (lv_at hl 1 rfl) ?_
        have n81 : F1 39 = .ref h_undone := (get_ne eF1 (by decide) e_undone)
        have n82 : F7 39 = .ref h_undone := (get_ne eF7 (by decide) n81)
        refine get_f (D := D) (ci := 10) (v := .ref h_undone) (C := RX10) (T := TX10) (N := 67) hx hb hw inAX10 hown hK hP 0 rfl rfl 39 (by decide) (hw _ q_1300) (fun _ h9 => h9) n82 dX10_undo_41 ?_
        refine lv_bipush (v := 24) hx hb dX10_undo_44 (by decide) ?_
        refine lv_aload_n hx hb dX10_undo_46 rfl (lv_at hl 1 rfl) ?_
        refine get_f (D := D) (ci := 10) (v := .int 1) (C := RX10) (T := TX10) (N := 67) hx hb hw inAX10 hown hK hP 0 rfl rfl 41 (by decide) (hw _ q_1302) (fun _ h9 => h9) n59 dX10_undo_47 ?_
        refine lv_imul hx hb dX10_undo_50 ?_
        refine lv_ci (y := 24) (by decide +kernel) ?_
        refine lv_iload_n hx hb dX10_undo_51 rfl (lv_at hl 0 rfl) ?_
        refine lv_iadd hx hb dX10_undo_52 ?_
        refine lv_topi (fun v83 ev83 => ?_)
        have bv83 : v83.toInt = 24 + u60.toInt := by rw [ev83]; exact add_k rfl rfl ⟨Int.le_refl _, Int.le_refl _⟩ k76 (by decide)
        have k84 : 24 ≤ v83.toInt ∧ v83.toInt ≤ 47 := add_r bv83 ⟨Int.le_refl _, Int.le_refl _⟩ k76 (by decide)
        refine va_iald hx hb hK hP 2 0 rfl rfl (ix_k k84 (by decide) (by decide)) dX10_undo_53 ?_
        refine lv_topi (fun v85 ev85 => ?_)
        have r86 : IMP (25 ≤ v83.toInt → v83.toInt ≤ 28 → 0 ≤ v85.toInt ∧ v85.toInt ≤ 11) := IMP.mk (fun q1 q2 => by rw [ev85]; exact s_undone_25.at _ q1 q2)
        have r87 : IMP (34 ≤ v83.toInt → v83.toInt ≤ 34 → 0 ≤ v85.toInt ∧ v85.toInt ≤ 5) := IMP.mk (fun q1 q2 => by rw [ev85]; exact s_undone_34.at _ q1 q2)
        obtain ⟨g88, eg88⟩ : ∃ z : Nat → Int32, upd w61 v79.toNatClampNeg v85 = z := ⟨_, rfl⟩
        have r89 : KW 0 g88 := by rw [← eg88]; exact i63.up (Int.le_trans (by decide) k80.1) (Or.inl (lt_dec k80.2 (by decide)))
        have r90 : SG 0 0 0 40 g88 := by rw [← eg88]; exact i64.up (Int.le_trans (by decide) k80.1) (Or.inr (Or.inl (dec_lt k80.1 (by decide))))
        have r91 : SG 105 108 0 11 g88 := by rw [← eg88]; exact i65.upI (Int.le_trans (by decide) k80.1) (fun q1 q2 => ⟨Int.le_trans (by decide) (r86.h (by omega) (by omega)).1, Int.le_trans (r86.h (by omega) (by omega)).2 (by decide)⟩)
        have r92 : SG 114 114 0 5 g88 := by rw [← eg88]; exact i66.upI (Int.le_trans (by decide) k80.1) (fun q1 q2 => ⟨Int.le_trans (by decide) (r87.h (by omega) (by omega)).1, Int.le_trans (r87.h (by omega) (by omega)).2 (by decide)⟩)
        have r93 : SG 130 133 0 11 g88 := by rw [← eg88]; exact i67.up (Int.le_trans (by decide) k80.1) (Or.inl (lt_dec k80.2 (by decide)))
        have r94 : SG 139 139 0 5 g88 := by rw [← eg88]; exact i68.up (Int.le_trans (by decide) k80.1) (Or.inl (lt_dec k80.2 (by decide)))
        have r95 : SG 153 153 0 44 g88 := by rw [← eg88]; exact i69.up (Int.le_trans (by decide) k80.1) (Or.inl (lt_dec k80.2 (by decide)))
        have r96 : SG 44 55 0 9 g88 := by rw [← eg88]; exact i70.up (Int.le_trans (by decide) k80.1) (Or.inr (Or.inl (dec_lt k80.1 (by decide))))
        have r97 : SG 5 5 0 12 g88 := by rw [← eg88]; exact i71.up (Int.le_trans (by decide) k80.1) (Or.inr (Or.inl (dec_lt k80.1 (by decide))))
        have r98 : SG 6 6 0 12 g88 := by rw [← eg88]; exact i72.up (Int.le_trans (by decide) k80.1) (Or.inr (Or.inl (dec_lt k80.1 (by decide))))
        have r99 : SG 7 7 0 6 g88 := by rw [← eg88]; exact i73.up (Int.le_trans (by decide) k80.1) (Or.inr (Or.inl (dec_lt k80.1 (by decide))))
        refine iast_g hx hb hK hP hD hS 1 0 rfl rfl (ix_k k80 (by decide) (by decide)) eg88 dX10_undo_54 (fun H locs hP hD hS => ?_)
        have hP : va_P D vwCl [(h0, .inr (10, vL 67 F7)), (h_s, .inl (cI, 335, .inl g88)), (h_undone, .inl (cI, 192, .inl f_undone))] H := hP
        have hD : va_D A [(h0, .inr (10, vL 67 F7)), (h_s, .inl (cI, 335, .inl g88)), (h_undone, .inl (cI, 192, .inl f_undone))] := hD
        obtain ⟨v100, ev100⟩ : ∃ z : Int32, z = u60 + 1 := ⟨_, rfl⟩
        have bv100 : v100.toInt = u60.toInt + 1 := by rw [ev100]; exact add_k rfl rfl k76 ⟨Int.le_refl _, Int.le_refl _⟩ (by decide)
        have k101 : 1 ≤ v100.toInt ∧ v100.toInt ≤ 24 := add_r bv100 k76 ⟨Int.le_refl _, Int.le_refl _⟩ (by decide)
        refine lv_iinc (v := v100) (lv' := [(1, .int v100), (0, .ref h0)]) hx hb dX10_undo_55 hl (k := 0) rfl (by rw [ev100]; rfl) (by decide) rfl (fun ls hl => ?_)
        refine lv_goto (tgt := 26) hx hb dX10_undo_58 (by decide) ?_
        exact ih (v100, g88) ⟨(ir_wk k101 (by decide) (by decide)), r89, r90, r91, r92, r93, r94, r95, r96, r97, r98, r99⟩ (by show (24 - v100.toInt).toNat < (24 - u60.toInt).toNat; omega) _ _ _ hP hD hS (lv_sub hl [0, 1] rfl)
    have dk56 : v5.toInt ≠ 1 := ne_i rfl rfl k56
    have k102 : 2 ≤ v5.toInt ∧ v5.toInt ≤ 7 := ⟨ne_lo dk56 k54.1 ⟨Int.le_refl _, Int.le_refl _⟩ (by decide), k54.2⟩
    have k103 : 3 ≤ x_undoMany.toInt ∧ x_undoMany.toInt ≤ 8 := ⟨lin_lo (lin_m bv5) k102.1 (by decide), k55.2⟩
    by_cases k104 : v5 = 2
    · have dk104 : v5.toInt = 2 := eq_i rfl rfl k104
      have k105 : 2 ≤ v5.toInt ∧ v5.toInt ≤ 2 := ⟨k102.1, Int.le_trans (Int.le_of_eq dk104) (Int.le_refl _)⟩
      have k106 : 3 ≤ x_undoMany.toInt ∧ x_undoMany.toInt ≤ 3 := ⟨k103.1, lin_hi (lin_m bv5) k105.2 (by decide)⟩
      have n107 : F7 41 = .int 2 := by rw [(get_eq eF7)]; exact congrArg Value.int k104
      refine lv_iconst (v := 0) hx hb dX10_undo_24 (by decide) ?_
      refine lv_istore_n (lv' := [(1, .int 0), (0, .ref h0)]) hx hb dX10_undo_25 rfl hl (by decide) rfl (fun ls hl => ?_)
      refine mloop (α := (Int32) × (Nat → Int32)) (nL := 2) (D := D) (A := A) (H0 := s.heap) (fun a => (24 - a.1.toInt).toNat) (fun a => IR 0 24 a.1 ∧ KW 0 a.2 ∧ SG 0 0 0 40 a.2 ∧ SG 105 108 0 11 a.2 ∧ SG 114 114 0 5 a.2 ∧ SG 130 133 0 11 a.2 ∧ SG 139 139 0 5 a.2 ∧ SG 153 153 0 44 a.2 ∧ SG 44 55 0 9 a.2 ∧ SG 5 5 0 12 a.2 ∧ SG 6 6 0 12 a.2 ∧ SG 7 7 0 6 a.2) (fun a => [(h0, .inr (10, vL 67 F7)), (h_s, .inl (cI, 335, .inl a.2)), (h_undone, .inl (cI, 192, .inl f_undone))]) (fun a => [(1, .int a.1), (0, .ref h0)]) (fun H locs ls => W p l e ({ frames := 0, cells := 0, slots := 0, locals := 0 } : Room) s m [.ref h0].toArray below meth c H locs 0 0 (MQ below (va_Qi (fun (r : Int32) (u : va_W) => ∃ (Gh : Nat → Value) (y_undoMany : Int32) (g_s : Nat → Int32), SAME [0, 41] Fh Gh ∧ Gh 0 = .int 0 ∧ Gh 41 = .int y_undoMany ∧ IR 0 7 y_undoMany ∧ SG 153 153 0 44 g_s ∧ SG 0 0 0 40 g_s ∧ SG 5 5 0 12 g_s ∧ SG 6 6 0 12 g_s ∧ SG 7 7 0 6 g_s ∧ SG 44 55 0 9 g_s ∧ KW 0 g_s ∧ SG 105 108 0 11 g_s ∧ SG 114 114 0 5 g_s ∧ SG 130 133 0 11 g_s ∧ SG 139 139 0 5 g_s ∧ IR (-1) 7 r ∧ u = [(h0, .inr (10, vL 67 Gh)), (h_s, .inl (cI, 335, .inl g_s)), (h_undone, .inl (cI, 192, .inl f_undone))]) (PO D A) A) [.ref h0].toArray s 0 0 A) (F0 m 26 ls [])) ?_ (0, f_s) ⟨(show 0 ≤ (0 : Int32).toInt ∧ (0 : Int32).toInt ≤ 24 by decide), s_s_K0, s_s_0, s_s_105, s_s_114, s_s_130, s_s_139, s_s_153, s_s_44, s_s_5, s_s_6, s_s_7⟩ _ _ _ hP hD hS hl
      rintro ⟨u108, w109⟩ ⟨i110, i111, i112, i113, i114, i115, i116, i117, i118, i119, i120, i121⟩ ih H locs ls hP hD hS hl
      have i110 : 0 ≤ u108.toInt ∧ u108.toInt ≤ 24 := i110
      have hP : va_P D vwCl [(h0, .inr (10, vL 67 F7)), (h_s, .inl (cI, 335, .inl w109)), (h_undone, .inl (cI, 192, .inl f_undone))] H := hP
      have hD : va_D A [(h0, .inr (10, vL 67 F7)), (h_s, .inl (cI, 335, .inl w109)), (h_undone, .inl (cI, 192, .inl f_undone))] := hD
      have hl : lv_has ls 2 [(1, .int u108), (0, .ref h0)] := hl
      refine lv_iload_n hx hb dX10_undo_26 rfl (lv_at hl 0 rfl) ?_
      refine lv_bipush (v := 24) hx hb dX10_undo_27 (by decide) ?_
      refine lv_icmp_ge (tgt := 61) hx hb dX10_undo_29 (by decide) (fun c122 => ?_) (fun c122 => ?_)
      · have dc122 : 24 ≤ u108.toInt := le_i (a := 24) (b := u108.toInt) rfl rfl c122
        have k123 : 24 ≤ u108.toInt ∧ u108.toInt ≤ 24 := ⟨Int.le_trans (Int.le_refl _) dc122, i110.2⟩
        refine lv_aload_n hx hb dX10_undo_61 rfl (lv_at hl 1 rfl) ?_
        refine get_f (D := D) (ci := 10) (v := .int 2) (C := RX10) (T := TX10) (N := 67) hx hb hw inAX10 hown hK hP 0 rfl rfl 41 (by decide) (hw _ q_1302) (fun _ h9 => h9) n107 dX10_undo_62 ?_
        exact ret_i (v := 2) hx hb hr hlocks hS hP hD dX10_undo_65 rfl (Nat.le_of_ble_eq_true rfl) (Nat.le_of_ble_eq_true rfl) ⟨F7, v5, w109, (SAME.up eF7 (SAME.up eF1 SAME.rf (by decide)) (by decide)), (get_ne eF7 (by decide) (get_eq eF1)), (get_eq eF7), (ir_wk k105 (by decide) (by decide)), i117, i112, i119, i120, i121, i118, i111, i113, i114, i115, i116, (show (-1) ≤ (2 : Int32).toInt ∧ (2 : Int32).toInt ≤ 7 by decide), rfl⟩
      · have dc122 : u108.toInt < 24 := nle_i (a := 24) (b := u108.toInt) rfl rfl c122
        have k124 : 0 ≤ u108.toInt ∧ u108.toInt ≤ 23 := ⟨i110.1, up_lt dc122 (Int.le_refl _) (by decide)⟩
        refine lv_aload_n hx hb dX10_undo_32 rfl (lv_at hl 1 rfl) ?_
        have n125 : F1 6 = .ref h_s := (get_ne eF1 (by decide) e_s)
        have n126 : F7 6 = .ref h_s := (get_ne eF7 (by decide) n125)
        refine get_f (D := D) (ci := 10) (v := .ref h_s) (C := RX10) (T := TX10) (N := 67) hx hb hw inAX10 hown hK hP 0 rfl rfl 6 (by decide) (hw _ q_1267) (fun _ h9 => h9) n126 dX10_undo_33 ?_
        refine lv_bipush (v := 104) hx hb dX10_undo_36 (by decide) ?_
        refine lv_iload_n hx hb dX10_undo_38 rfl (lv_at hl 0 rfl) ?_
        refine lv_iadd hx hb dX10_undo_39 ?_
        refine lv_topi (fun v127 ev127 => ?_)
        have bv127 : v127.toInt = 104 + u108.toInt := by rw [ev127]; exact add_k rfl rfl ⟨Int.le_refl _, Int.le_refl _⟩ k124 (by decide)
        have k128 : 104 ≤ v127.toInt ∧ v127.toInt ≤ 127 := add_r bv127 ⟨Int.le_refl _, Int.le_refl _⟩ k124 (by decide)
        refine lv_aload_n hx hb dX10_undo_40 rfl (lv_at hl 1 rfl) ?_
        have n129 : F1 39 = .ref h_undone := (get_ne eF1 (by decide) e_undone)
        have n130 : F7 39 = .ref h_undone := (get_ne eF7 (by decide) n129)
        refine get_f (D := D) (ci := 10) (v := .ref h_undone) (C := RX10) (T := TX10) (N := 67) hx hb hw inAX10 hown hK hP 0 rfl rfl 39 (by decide) (hw _ q_1300) (fun _ h9 => h9) n130 dX10_undo_41 ?_
        refine lv_bipush (v := 24) hx hb dX10_undo_44 (by decide) ?_
        refine lv_aload_n hx hb dX10_undo_46 rfl (lv_at hl 1 rfl) ?_
        refine get_f (D := D) (ci := 10) (v := .int 2) (C := RX10) (T := TX10) (N := 67) hx hb hw inAX10 hown hK hP 0 rfl rfl 41 (by decide) (hw _ q_1302) (fun _ h9 => h9) n107 dX10_undo_47 ?_
        refine lv_imul hx hb dX10_undo_50 ?_
        refine lv_ci (y := 48) (by decide +kernel) ?_
        refine lv_iload_n hx hb dX10_undo_51 rfl (lv_at hl 0 rfl) ?_
        refine lv_iadd hx hb dX10_undo_52 ?_
        refine lv_topi (fun v131 ev131 => ?_)
        have bv131 : v131.toInt = 48 + u108.toInt := by rw [ev131]; exact add_k rfl rfl ⟨Int.le_refl _, Int.le_refl _⟩ k124 (by decide)
        have k132 : 48 ≤ v131.toInt ∧ v131.toInt ≤ 71 := add_r bv131 ⟨Int.le_refl _, Int.le_refl _⟩ k124 (by decide)
        refine va_iald hx hb hK hP 2 0 rfl rfl (ix_k k132 (by decide) (by decide)) dX10_undo_53 ?_
        refine lv_topi (fun v133 ev133 => ?_)
        have r134 : IMP (49 ≤ v131.toInt → v131.toInt ≤ 52 → 0 ≤ v133.toInt ∧ v133.toInt ≤ 11) := IMP.mk (fun q1 q2 => by rw [ev133]; exact s_undone_49.at _ q1 q2)
        have r135 : IMP (58 ≤ v131.toInt → v131.toInt ≤ 58 → 0 ≤ v133.toInt ∧ v133.toInt ≤ 5) := IMP.mk (fun q1 q2 => by rw [ev133]; exact s_undone_58.at _ q1 q2)
        obtain ⟨g136, eg136⟩ : ∃ z : Nat → Int32, upd w109 v127.toNatClampNeg v133 = z := ⟨_, rfl⟩
        have r137 : KW 0 g136 := by rw [← eg136]; exact i111.up (Int.le_trans (by decide) k128.1) (Or.inl (lt_dec k128.2 (by decide)))
        have r138 : SG 0 0 0 40 g136 := by rw [← eg136]; exact i112.up (Int.le_trans (by decide) k128.1) (Or.inr (Or.inl (dec_lt k128.1 (by decide))))
        have r139 : SG 105 108 0 11 g136 := by rw [← eg136]; exact i113.upI (Int.le_trans (by decide) k128.1) (fun q1 q2 => ⟨Int.le_trans (by decide) (r134.h (by omega) (by omega)).1, Int.le_trans (r134.h (by omega) (by omega)).2 (by decide)⟩)
        have r140 : SG 114 114 0 5 g136 := by rw [← eg136]; exact i114.upI (Int.le_trans (by decide) k128.1) (fun q1 q2 => ⟨Int.le_trans (by decide) (r135.h (by omega) (by omega)).1, Int.le_trans (r135.h (by omega) (by omega)).2 (by decide)⟩)
        have r141 : SG 130 133 0 11 g136 := by rw [← eg136]; exact i115.up (Int.le_trans (by decide) k128.1) (Or.inl (lt_dec k128.2 (by decide)))
        have r142 : SG 139 139 0 5 g136 := by rw [← eg136]; exact i116.up (Int.le_trans (by decide) k128.1) (Or.inl (lt_dec k128.2 (by decide)))
        have r143 : SG 153 153 0 44 g136 := by rw [← eg136]; exact i117.up (Int.le_trans (by decide) k128.1) (Or.inl (lt_dec k128.2 (by decide)))
        have r144 : SG 44 55 0 9 g136 := by rw [← eg136]; exact i118.up (Int.le_trans (by decide) k128.1) (Or.inr (Or.inl (dec_lt k128.1 (by decide))))
        have r145 : SG 5 5 0 12 g136 := by rw [← eg136]; exact i119.up (Int.le_trans (by decide) k128.1) (Or.inr (Or.inl (dec_lt k128.1 (by decide))))
        have r146 : SG 6 6 0 12 g136 := by rw [← eg136]; exact i120.up (Int.le_trans (by decide) k128.1) (Or.inr (Or.inl (dec_lt k128.1 (by decide))))
        have r147 : SG 7 7 0 6 g136 := by rw [← eg136]; exact i121.up (Int.le_trans (by decide) k128.1) (Or.inr (Or.inl (dec_lt k128.1 (by decide))))
        refine iast_g hx hb hK hP hD hS 1 0 rfl rfl (ix_k k128 (by decide) (by decide)) eg136 dX10_undo_54 (fun H locs hP hD hS => ?_)
        have hP : va_P D vwCl [(h0, .inr (10, vL 67 F7)), (h_s, .inl (cI, 335, .inl g136)), (h_undone, .inl (cI, 192, .inl f_undone))] H := hP
        have hD : va_D A [(h0, .inr (10, vL 67 F7)), (h_s, .inl (cI, 335, .inl g136)), (h_undone, .inl (cI, 192, .inl f_undone))] := hD
        obtain ⟨v148, ev148⟩ : ∃ z : Int32, z = u108 + 1 := ⟨_, rfl⟩
        have bv148 : v148.toInt = u108.toInt + 1 := by rw [ev148]; exact add_k rfl rfl k124 ⟨Int.le_refl _, Int.le_refl _⟩ (by decide)
        have k149 : 1 ≤ v148.toInt ∧ v148.toInt ≤ 24 := add_r bv148 k124 ⟨Int.le_refl _, Int.le_refl _⟩ (by decide)
        refine lv_iinc (v := v148) (lv' := [(1, .int v148), (0, .ref h0)]) hx hb dX10_undo_55 hl (k := 0) rfl (by rw [ev148]; rfl) (by decide) rfl (fun ls hl => ?_)
        refine lv_goto (tgt := 26) hx hb dX10_undo_58 (by decide) ?_
        exact ih (v148, g136) ⟨(ir_wk k149 (by decide) (by decide)), r137, r138, r139, r140, r141, r142, r143, r144, r145, r146, r147⟩ (by show (24 - v148.toInt).toNat < (24 - u108.toInt).toNat; omega) _ _ _ hP hD hS (lv_sub hl [0, 1] rfl)
    have dk104 : v5.toInt ≠ 2 := ne_i rfl rfl k104
    have k150 : 3 ≤ v5.toInt ∧ v5.toInt ≤ 7 := ⟨ne_lo dk104 k102.1 ⟨Int.le_refl _, Int.le_refl _⟩ (by decide), k102.2⟩
    have k151 : 4 ≤ x_undoMany.toInt ∧ x_undoMany.toInt ≤ 8 := ⟨lin_lo (lin_m bv5) k150.1 (by decide), k103.2⟩
    by_cases k152 : v5 = 3
    · have dk152 : v5.toInt = 3 := eq_i rfl rfl k152
      have k153 : 3 ≤ v5.toInt ∧ v5.toInt ≤ 3 := ⟨k150.1, Int.le_trans (Int.le_of_eq dk152) (Int.le_refl _)⟩
      have k154 : 4 ≤ x_undoMany.toInt ∧ x_undoMany.toInt ≤ 4 := ⟨k151.1, lin_hi (lin_m bv5) k153.2 (by decide)⟩
      have n155 : F7 41 = .int 3 := by rw [(get_eq eF7)]; exact congrArg Value.int k152
      refine lv_iconst (v := 0) hx hb dX10_undo_24 (by decide) ?_
      refine lv_istore_n (lv' := [(1, .int 0), (0, .ref h0)]) hx hb dX10_undo_25 rfl hl (by decide) rfl (fun ls hl => ?_)
      refine mloop (α := (Int32) × (Nat → Int32)) (nL := 2) (D := D) (A := A) (H0 := s.heap) (fun a => (24 - a.1.toInt).toNat) (fun a => IR 0 24 a.1 ∧ KW 0 a.2 ∧ SG 0 0 0 40 a.2 ∧ SG 105 108 0 11 a.2 ∧ SG 114 114 0 5 a.2 ∧ SG 130 133 0 11 a.2 ∧ SG 139 139 0 5 a.2 ∧ SG 153 153 0 44 a.2 ∧ SG 44 55 0 9 a.2 ∧ SG 5 5 0 12 a.2 ∧ SG 6 6 0 12 a.2 ∧ SG 7 7 0 6 a.2) (fun a => [(h0, .inr (10, vL 67 F7)), (h_s, .inl (cI, 335, .inl a.2)), (h_undone, .inl (cI, 192, .inl f_undone))]) (fun a => [(1, .int a.1), (0, .ref h0)]) (fun H locs ls => W p l e ({ frames := 0, cells := 0, slots := 0, locals := 0 } : Room) s m [.ref h0].toArray below meth c H locs 0 0 (MQ below (va_Qi (fun (r : Int32) (u : va_W) => ∃ (Gh : Nat → Value) (y_undoMany : Int32) (g_s : Nat → Int32), SAME [0, 41] Fh Gh ∧ Gh 0 = .int 0 ∧ Gh 41 = .int y_undoMany ∧ IR 0 7 y_undoMany ∧ SG 153 153 0 44 g_s ∧ SG 0 0 0 40 g_s ∧ SG 5 5 0 12 g_s ∧ SG 6 6 0 12 g_s ∧ SG 7 7 0 6 g_s ∧ SG 44 55 0 9 g_s ∧ KW 0 g_s ∧ SG 105 108 0 11 g_s ∧ SG 114 114 0 5 g_s ∧ SG 130 133 0 11 g_s ∧ SG 139 139 0 5 g_s ∧ IR (-1) 7 r ∧ u = [(h0, .inr (10, vL 67 Gh)), (h_s, .inl (cI, 335, .inl g_s)), (h_undone, .inl (cI, 192, .inl f_undone))]) (PO D A) A) [.ref h0].toArray s 0 0 A) (F0 m 26 ls [])) ?_ (0, f_s) ⟨(show 0 ≤ (0 : Int32).toInt ∧ (0 : Int32).toInt ≤ 24 by decide), s_s_K0, s_s_0, s_s_105, s_s_114, s_s_130, s_s_139, s_s_153, s_s_44, s_s_5, s_s_6, s_s_7⟩ _ _ _ hP hD hS hl
      rintro ⟨u156, w157⟩ ⟨i158, i159, i160, i161, i162, i163, i164, i165, i166, i167, i168, i169⟩ ih H locs ls hP hD hS hl
      have i158 : 0 ≤ u156.toInt ∧ u156.toInt ≤ 24 := i158
      have hP : va_P D vwCl [(h0, .inr (10, vL 67 F7)), (h_s, .inl (cI, 335, .inl w157)), (h_undone, .inl (cI, 192, .inl f_undone))] H := hP
      have hD : va_D A [(h0, .inr (10, vL 67 F7)), (h_s, .inl (cI, 335, .inl w157)), (h_undone, .inl (cI, 192, .inl f_undone))] := hD
      have hl : lv_has ls 2 [(1, .int u156), (0, .ref h0)] := hl
      refine lv_iload_n hx hb dX10_undo_26 rfl (lv_at hl 0 rfl) ?_
      refine lv_bipush (v := 24) hx hb dX10_undo_27 (by decide) ?_
      refine lv_icmp_ge (tgt := 61) hx hb dX10_undo_29 (by decide) (fun c170 => ?_) (fun c170 => ?_)
      · have dc170 : 24 ≤ u156.toInt := le_i (a := 24) (b := u156.toInt) rfl rfl c170
        have k171 : 24 ≤ u156.toInt ∧ u156.toInt ≤ 24 := ⟨Int.le_trans (Int.le_refl _) dc170, i158.2⟩
        refine lv_aload_n hx hb dX10_undo_61 rfl (lv_at hl 1 rfl) ?_
        refine get_f (D := D) (ci := 10) (v := .int 3) (C := RX10) (T := TX10) (N := 67) hx hb hw inAX10 hown hK hP 0 rfl rfl 41 (by decide) (hw _ q_1302) (fun _ h9 => h9) n155 dX10_undo_62 ?_
        exact ret_i (v := 3) hx hb hr hlocks hS hP hD dX10_undo_65 rfl (Nat.le_of_ble_eq_true rfl) (Nat.le_of_ble_eq_true rfl) ⟨F7, v5, w157, (SAME.up eF7 (SAME.up eF1 SAME.rf (by decide)) (by decide)), (get_ne eF7 (by decide) (get_eq eF1)), (get_eq eF7), (ir_wk k153 (by decide) (by decide)), i165, i160, i167, i168, i169, i166, i159, i161, i162, i163, i164, (show (-1) ≤ (3 : Int32).toInt ∧ (3 : Int32).toInt ≤ 7 by decide), rfl⟩
      · have dc170 : u156.toInt < 24 := nle_i (a := 24) (b := u156.toInt) rfl rfl c170
        have k172 : 0 ≤ u156.toInt ∧ u156.toInt ≤ 23 := ⟨i158.1, up_lt dc170 (Int.le_refl _) (by decide)⟩
        refine lv_aload_n hx hb dX10_undo_32 rfl (lv_at hl 1 rfl) ?_
        have n173 : F1 6 = .ref h_s := (get_ne eF1 (by decide) e_s)
        have n174 : F7 6 = .ref h_s := (get_ne eF7 (by decide) n173)
        refine get_f (D := D) (ci := 10) (v := .ref h_s) (C := RX10) (T := TX10) (N := 67) hx hb hw inAX10 hown hK hP 0 rfl rfl 6 (by decide) (hw _ q_1267) (fun _ h9 => h9) n174 dX10_undo_33 ?_
        refine lv_bipush (v := 104) hx hb dX10_undo_36 (by decide) ?_
        refine lv_iload_n hx hb dX10_undo_38 rfl (lv_at hl 0 rfl) ?_
        refine lv_iadd hx hb dX10_undo_39 ?_
        refine lv_topi (fun v175 ev175 => ?_)
        have bv175 : v175.toInt = 104 + u156.toInt := by rw [ev175]; exact add_k rfl rfl ⟨Int.le_refl _, Int.le_refl _⟩ k172 (by decide)
        have k176 : 104 ≤ v175.toInt ∧ v175.toInt ≤ 127 := add_r bv175 ⟨Int.le_refl _, Int.le_refl _⟩ k172 (by decide)
        refine lv_aload_n hx hb dX10_undo_40 rfl (lv_at hl 1 rfl) ?_
        have n177 : F1 39 = .ref h_undone := (get_ne eF1 (by decide) e_undone)
        have n178 : F7 39 = .ref h_undone := (get_ne eF7 (by decide) n177)
        refine get_f (D := D) (ci := 10) (v := .ref h_undone) (C := RX10) (T := TX10) (N := 67) hx hb hw inAX10 hown hK hP 0 rfl rfl 39 (by decide) (hw _ q_1300) (fun _ h9 => h9) n178 dX10_undo_41 ?_
        refine lv_bipush (v := 24) hx hb dX10_undo_44 (by decide) ?_
        refine lv_aload_n hx hb dX10_undo_46 rfl (lv_at hl 1 rfl) ?_
        refine get_f (D := D) (ci := 10) (v := .int 3) (C := RX10) (T := TX10) (N := 67) hx hb hw inAX10 hown hK hP 0 rfl rfl 41 (by decide) (hw _ q_1302) (fun _ h9 => h9) n155 dX10_undo_47 ?_
        refine lv_imul hx hb dX10_undo_50 ?_
        refine lv_ci (y := 72) (by decide +kernel) ?_
        refine lv_iload_n hx hb dX10_undo_51 rfl (lv_at hl 0 rfl) ?_
        refine lv_iadd hx hb dX10_undo_52 ?_
        refine lv_topi (fun v179 ev179 => ?_)
        have bv179 : v179.toInt = 72 + u156.toInt := by rw [ev179]; exact add_k rfl rfl ⟨Int.le_refl _, Int.le_refl _⟩ k172 (by decide)
        have k180 : 72 ≤ v179.toInt ∧ v179.toInt ≤ 95 := add_r bv179 ⟨Int.le_refl _, Int.le_refl _⟩ k172 (by decide)
        refine va_iald hx hb hK hP 2 0 rfl rfl (ix_k k180 (by decide) (by decide)) dX10_undo_53 ?_
        refine lv_topi (fun v181 ev181 => ?_)
        have r182 : IMP (73 ≤ v179.toInt → v179.toInt ≤ 76 → 0 ≤ v181.toInt ∧ v181.toInt ≤ 11) := IMP.mk (fun q1 q2 => by rw [ev181]; exact s_undone_73.at _ q1 q2)
        have r183 : IMP (82 ≤ v179.toInt → v179.toInt ≤ 82 → 0 ≤ v181.toInt ∧ v181.toInt ≤ 5) := IMP.mk (fun q1 q2 => by rw [ev181]; exact s_undone_82.at _ q1 q2)
        obtain ⟨g184, eg184⟩ : ∃ z : Nat → Int32, upd w157 v175.toNatClampNeg v181 = z := ⟨_, rfl⟩
        have r185 : KW 0 g184 := by rw [← eg184]; exact i159.up (Int.le_trans (by decide) k176.1) (Or.inl (lt_dec k176.2 (by decide)))
        have r186 : SG 0 0 0 40 g184 := by rw [← eg184]; exact i160.up (Int.le_trans (by decide) k176.1) (Or.inr (Or.inl (dec_lt k176.1 (by decide))))
        have r187 : SG 105 108 0 11 g184 := by rw [← eg184]; exact i161.upI (Int.le_trans (by decide) k176.1) (fun q1 q2 => ⟨Int.le_trans (by decide) (r182.h (by omega) (by omega)).1, Int.le_trans (r182.h (by omega) (by omega)).2 (by decide)⟩)
        have r188 : SG 114 114 0 5 g184 := by rw [← eg184]; exact i162.upI (Int.le_trans (by decide) k176.1) (fun q1 q2 => ⟨Int.le_trans (by decide) (r183.h (by omega) (by omega)).1, Int.le_trans (r183.h (by omega) (by omega)).2 (by decide)⟩)
        have r189 : SG 130 133 0 11 g184 := by rw [← eg184]; exact i163.up (Int.le_trans (by decide) k176.1) (Or.inl (lt_dec k176.2 (by decide)))
        have r190 : SG 139 139 0 5 g184 := by rw [← eg184]; exact i164.up (Int.le_trans (by decide) k176.1) (Or.inl (lt_dec k176.2 (by decide)))
        have r191 : SG 153 153 0 44 g184 := by rw [← eg184]; exact i165.up (Int.le_trans (by decide) k176.1) (Or.inl (lt_dec k176.2 (by decide)))
        have r192 : SG 44 55 0 9 g184 := by rw [← eg184]; exact i166.up (Int.le_trans (by decide) k176.1) (Or.inr (Or.inl (dec_lt k176.1 (by decide))))
        have r193 : SG 5 5 0 12 g184 := by rw [← eg184]; exact i167.up (Int.le_trans (by decide) k176.1) (Or.inr (Or.inl (dec_lt k176.1 (by decide))))
        have r194 : SG 6 6 0 12 g184 := by rw [← eg184]; exact i168.up (Int.le_trans (by decide) k176.1) (Or.inr (Or.inl (dec_lt k176.1 (by decide))))
        have r195 : SG 7 7 0 6 g184 := by rw [← eg184]; exact i169.up (Int.le_trans (by decide) k176.1) (Or.inr (Or.inl (dec_lt k176.1 (by decide))))
        refine iast_g hx hb hK hP hD hS 1 0 rfl rfl (ix_k k176 (by decide) (by decide)) eg184 dX10_undo_54 (fun H locs hP hD hS => ?_)
        have hP : va_P D vwCl [(h0, .inr (10, vL 67 F7)), (h_s, .inl (cI, 335, .inl g184)), (h_undone, .inl (cI, 192, .inl f_undone))] H := hP
        have hD : va_D A [(h0, .inr (10, vL 67 F7)), (h_s, .inl (cI, 335, .inl g184)), (h_undone, .inl (cI, 192, .inl f_undone))] := hD
        obtain ⟨v196, ev196⟩ : ∃ z : Int32, z = u156 + 1 := ⟨_, rfl⟩
        have bv196 : v196.toInt = u156.toInt + 1 := by rw [ev196]; exact add_k rfl rfl k172 ⟨Int.le_refl _, Int.le_refl _⟩ (by decide)
        have k197 : 1 ≤ v196.toInt ∧ v196.toInt ≤ 24 := add_r bv196 k172 ⟨Int.le_refl _, Int.le_refl _⟩ (by decide)
        refine lv_iinc (v := v196) (lv' := [(1, .int v196), (0, .ref h0)]) hx hb dX10_undo_55 hl (k := 0) rfl (by rw [ev196]; rfl) (by decide) rfl (fun ls hl => ?_)
        refine lv_goto (tgt := 26) hx hb dX10_undo_58 (by decide) ?_
        exact ih (v196, g184) ⟨(ir_wk k197 (by decide) (by decide)), r185, r186, r187, r188, r189, r190, r191, r192, r193, r194, r195⟩ (by show (24 - v196.toInt).toNat < (24 - u156.toInt).toNat; omega) _ _ _ hP hD hS (lv_sub hl [0, 1] rfl)
    have dk152 : v5.toInt ≠ 3 := ne_i rfl rfl k152
    have k198 : 4 ≤ v5.toInt ∧ v5.toInt ≤ 7 := ⟨ne_lo dk152 k150.1 ⟨Int.le_refl _, Int.le_refl _⟩ (by decide), k150.2⟩
    have k199 : 5 ≤ x_undoMany.toInt ∧ x_undoMany.toInt ≤ 8 := ⟨lin_lo (lin_m bv5) k198.1 (by decide), k151.2⟩
    by_cases k200 : v5 = 4
    · have dk200 : v5.toInt = 4 := eq_i rfl rfl k200
      have k201 : 4 ≤ v5.toInt ∧ v5.toInt ≤ 4 := ⟨k198.1, Int.le_trans (Int.le_of_eq dk200) (Int.le_refl _)⟩
      have k202 : 5 ≤ x_undoMany.toInt ∧ x_undoMany.toInt ≤ 5 := ⟨k199.1, lin_hi (lin_m bv5) k201.2 (by decide)⟩
      have n203 : F7 41 = .int 4 := by rw [(get_eq eF7)]; exact congrArg Value.int k200
      refine lv_iconst (v := 0) hx hb dX10_undo_24 (by decide) ?_
      refine lv_istore_n (lv' := [(1, .int 0), (0, .ref h0)]) hx hb dX10_undo_25 rfl hl (by decide) rfl (fun ls hl => ?_)
      refine mloop (α := (Int32) × (Nat → Int32)) (nL := 2) (D := D) (A := A) (H0 := s.heap) (fun a => (24 - a.1.toInt).toNat) (fun a => IR 0 24 a.1 ∧ KW 0 a.2 ∧ SG 0 0 0 40 a.2 ∧ SG 105 108 0 11 a.2 ∧ SG 114 114 0 5 a.2 ∧ SG 130 133 0 11 a.2 ∧ SG 139 139 0 5 a.2 ∧ SG 153 153 0 44 a.2 ∧ SG 44 55 0 9 a.2 ∧ SG 5 5 0 12 a.2 ∧ SG 6 6 0 12 a.2 ∧ SG 7 7 0 6 a.2) (fun a => [(h0, .inr (10, vL 67 F7)), (h_s, .inl (cI, 335, .inl a.2)), (h_undone, .inl (cI, 192, .inl f_undone))]) (fun a => [(1, .int a.1), (0, .ref h0)]) (fun H locs ls => W p l e ({ frames := 0, cells := 0, slots := 0, locals := 0 } : Room) s m [.ref h0].toArray below meth c H locs 0 0 (MQ below (va_Qi (fun (r : Int32) (u : va_W) => ∃ (Gh : Nat → Value) (y_undoMany : Int32) (g_s : Nat → Int32), SAME [0, 41] Fh Gh ∧ Gh 0 = .int 0 ∧ Gh 41 = .int y_undoMany ∧ IR 0 7 y_undoMany ∧ SG 153 153 0 44 g_s ∧ SG 0 0 0 40 g_s ∧ SG 5 5 0 12 g_s ∧ SG 6 6 0 12 g_s ∧ SG 7 7 0 6 g_s ∧ SG 44 55 0 9 g_s ∧ KW 0 g_s ∧ SG 105 108 0 11 g_s ∧ SG 114 114 0 5 g_s ∧ SG 130 133 0 11 g_s ∧ SG 139 139 0 5 g_s ∧ IR (-1) 7 r ∧ u = [(h0, .inr (10, vL 67 Gh)), (h_s, .inl (cI, 335, .inl g_s)), (h_undone, .inl (cI, 192, .inl f_undone))]) (PO D A) A) [.ref h0].toArray s 0 0 A) (F0 m 26 ls [])) ?_ (0, f_s) ⟨(show 0 ≤ (0 : Int32).toInt ∧ (0 : Int32).toInt ≤ 24 by decide), s_s_K0, s_s_0, s_s_105, s_s_114, s_s_130, s_s_139, s_s_153, s_s_44, s_s_5, s_s_6, s_s_7⟩ _ _ _ hP hD hS hl
      rintro ⟨u204, w205⟩ ⟨i206, i207, i208, i209, i210, i211, i212, i213, i214, i215, i216, i217⟩ ih H locs ls hP hD hS hl
      have i206 : 0 ≤ u204.toInt ∧ u204.toInt ≤ 24 := i206
      have hP : va_P D vwCl [(h0, .inr (10, vL 67 F7)), (h_s, .inl (cI, 335, .inl w205)), (h_undone, .inl (cI, 192, .inl f_undone))] H := hP
      have hD : va_D A [(h0, .inr (10, vL 67 F7)), (h_s, .inl (cI, 335, .inl w205)), (h_undone, .inl (cI, 192, .inl f_undone))] := hD
      have hl : lv_has ls 2 [(1, .int u204), (0, .ref h0)] := hl
      refine lv_iload_n hx hb dX10_undo_26 rfl (lv_at hl 0 rfl) ?_
      refine lv_bipush (v := 24) hx hb dX10_undo_27 (by decide) ?_
      refine lv_icmp_ge (tgt := 61) hx hb dX10_undo_29 (by decide) (fun c218 => ?_) (fun c218 => ?_)
      · have dc218 : 24 ≤ u204.toInt := le_i (a := 24) (b := u204.toInt) rfl rfl c218
        have k219 : 24 ≤ u204.toInt ∧ u204.toInt ≤ 24 := ⟨Int.le_trans (Int.le_refl _) dc218, i206.2⟩
        refine lv_aload_n hx hb dX10_undo_61 rfl (lv_at hl 1 rfl) ?_
        refine get_f (D := D) (ci := 10) (v := .int 4) (C := RX10) (T := TX10) (N := 67) hx hb hw inAX10 hown hK hP 0 rfl rfl 41 (by decide) (hw _ q_1302) (fun _ h9 => h9) n203 dX10_undo_62 ?_
        exact ret_i (v := 4) hx hb hr hlocks hS hP hD dX10_undo_65 rfl (Nat.le_of_ble_eq_true rfl) (Nat.le_of_ble_eq_true rfl) ⟨F7, v5, w205, (SAME.up eF7 (SAME.up eF1 SAME.rf (by decide)) (by decide)), (get_ne eF7 (by decide) (get_eq eF1)), (get_eq eF7), (ir_wk k201 (by decide) (by decide)), i213, i208, i215, i216, i217, i214, i207, i209, i210, i211, i212, (show (-1) ≤ (4 : Int32).toInt ∧ (4 : Int32).toInt ≤ 7 by decide), rfl⟩
      · have dc218 : u204.toInt < 24 := nle_i (a := 24) (b := u204.toInt) rfl rfl c218
        have k220 : 0 ≤ u204.toInt ∧ u204.toInt ≤ 23 := ⟨i206.1, up_lt dc218 (Int.le_refl _) (by decide)⟩
        refine lv_aload_n hx hb dX10_undo_32 rfl (lv_at hl 1 rfl) ?_
        have n221 : F1 6 = .ref h_s := (get_ne eF1 (by decide) e_s)
        have n222 : F7 6 = .ref h_s := (get_ne eF7 (by decide) n221)
        refine get_f (D := D) (ci := 10) (v := .ref h_s) (C := RX10) (T := TX10) (N := 67) hx hb hw inAX10 hown hK hP 0 rfl rfl 6 (by decide) (hw _ q_1267) (fun _ h9 => h9) n222 dX10_undo_33 ?_
        refine lv_bipush (v := 104) hx hb dX10_undo_36 (by decide) ?_
        refine lv_iload_n hx hb dX10_undo_38 rfl (lv_at hl 0 rfl) ?_
        refine lv_iadd hx hb dX10_undo_39 ?_
        refine lv_topi (fun v223 ev223 => ?_)
        have bv223 : v223.toInt = 104 + u204.toInt := by rw [ev223]; exact add_k rfl rfl ⟨Int.le_refl _, Int.le_refl _⟩ k220 (by decide)
        have k224 : 104 ≤ v223.toInt ∧ v223.toInt ≤ 127 := add_r bv223 ⟨Int.le_refl _, Int.le_refl _⟩ k220 (by decide)
        refine lv_aload_n hx hb dX10_undo_40 rfl (lv_at hl 1 rfl) ?_
        have n225 : F1 39 = .ref h_undone := (get_ne eF1 (by decide) e_undone)
        have n226 : F7 39 = .ref h_undone := (get_ne eF7 (by decide) n225)
        refine get_f (D := D) (ci := 10) (v := .ref h_undone) (C := RX10) (T := TX10) (N := 67) hx hb hw inAX10 hown hK hP 0 rfl rfl 39 (by decide) (hw _ q_1300) (fun _ h9 => h9) n226 dX10_undo_41 ?_
        refine lv_bipush (v := 24) hx hb dX10_undo_44 (by decide) ?_
        refine lv_aload_n hx hb dX10_undo_46 rfl (lv_at hl 1 rfl) ?_
        refine get_f (D := D) (ci := 10) (v := .int 4) (C := RX10) (T := TX10) (N := 67) hx hb hw inAX10 hown hK hP 0 rfl rfl 41 (by decide) (hw _ q_1302) (fun _ h9 => h9) n203 dX10_undo_47 ?_
        refine lv_imul hx hb dX10_undo_50 ?_
        refine lv_ci (y := 96) (by decide +kernel) ?_
        refine lv_iload_n hx hb dX10_undo_51 rfl (lv_at hl 0 rfl) ?_
        refine lv_iadd hx hb dX10_undo_52 ?_
        refine lv_topi (fun v227 ev227 => ?_)
        have bv227 : v227.toInt = 96 + u204.toInt := by rw [ev227]; exact add_k rfl rfl ⟨Int.le_refl _, Int.le_refl _⟩ k220 (by decide)
        have k228 : 96 ≤ v227.toInt ∧ v227.toInt ≤ 119 := add_r bv227 ⟨Int.le_refl _, Int.le_refl _⟩ k220 (by decide)
        refine va_iald hx hb hK hP 2 0 rfl rfl (ix_k k228 (by decide) (by decide)) dX10_undo_53 ?_
        refine lv_topi (fun v229 ev229 => ?_)
        have r230 : IMP (106 ≤ v227.toInt → v227.toInt ≤ 106 → 0 ≤ v229.toInt ∧ v229.toInt ≤ 5) := IMP.mk (fun q1 q2 => by rw [ev229]; exact s_undone_106.at _ q1 q2)
        have r231 : IMP (97 ≤ v227.toInt → v227.toInt ≤ 100 → 0 ≤ v229.toInt ∧ v229.toInt ≤ 11) := IMP.mk (fun q1 q2 => by rw [ev229]; exact s_undone_97.at _ q1 q2)
        obtain ⟨g232, eg232⟩ : ∃ z : Nat → Int32, upd w205 v223.toNatClampNeg v229 = z := ⟨_, rfl⟩
        have r233 : KW 0 g232 := by rw [← eg232]; exact i207.up (Int.le_trans (by decide) k224.1) (Or.inl (lt_dec k224.2 (by decide)))
        have r234 : SG 0 0 0 40 g232 := by rw [← eg232]; exact i208.up (Int.le_trans (by decide) k224.1) (Or.inr (Or.inl (dec_lt k224.1 (by decide))))
        have r235 : SG 105 108 0 11 g232 := by rw [← eg232]; exact i209.upI (Int.le_trans (by decide) k224.1) (fun q1 q2 => ⟨Int.le_trans (by decide) (r231.h (by omega) (by omega)).1, Int.le_trans (r231.h (by omega) (by omega)).2 (by decide)⟩)
        have r236 : SG 114 114 0 5 g232 := by rw [← eg232]; exact i210.upI (Int.le_trans (by decide) k224.1) (fun q1 q2 => ⟨Int.le_trans (by decide) (r230.h (by omega) (by omega)).1, Int.le_trans (r230.h (by omega) (by omega)).2 (by decide)⟩)
        have r237 : SG 130 133 0 11 g232 := by rw [← eg232]; exact i211.up (Int.le_trans (by decide) k224.1) (Or.inl (lt_dec k224.2 (by decide)))
        have r238 : SG 139 139 0 5 g232 := by rw [← eg232]; exact i212.up (Int.le_trans (by decide) k224.1) (Or.inl (lt_dec k224.2 (by decide)))
        have r239 : SG 153 153 0 44 g232 := by rw [← eg232]; exact i213.up (Int.le_trans (by decide) k224.1) (Or.inl (lt_dec k224.2 (by decide)))
        have r240 : SG 44 55 0 9 g232 := by rw [← eg232]; exact i214.up (Int.le_trans (by decide) k224.1) (Or.inr (Or.inl (dec_lt k224.1 (by decide))))
        have r241 : SG 5 5 0 12 g232 := by rw [← eg232]; exact i215.up (Int.le_trans (by decide) k224.1) (Or.inr (Or.inl (dec_lt k224.1 (by decide))))
        have r242 : SG 6 6 0 12 g232 := by rw [← eg232]; exact i216.up (Int.le_trans (by decide) k224.1) (Or.inr (Or.inl (dec_lt k224.1 (by decide))))
        have r243 : SG 7 7 0 6 g232 := by rw [← eg232]; exact i217.up (Int.le_trans (by decide) k224.1) (Or.inr (Or.inl (dec_lt k224.1 (by decide))))
        refine iast_g hx hb hK hP hD hS 1 0 rfl rfl (ix_k k224 (by decide) (by decide)) eg232 dX10_undo_54 (fun H locs hP hD hS => ?_)
        have hP : va_P D vwCl [(h0, .inr (10, vL 67 F7)), (h_s, .inl (cI, 335, .inl g232)), (h_undone, .inl (cI, 192, .inl f_undone))] H := hP
        have hD : va_D A [(h0, .inr (10, vL 67 F7)), (h_s, .inl (cI, 335, .inl g232)), (h_undone, .inl (cI, 192, .inl f_undone))] := hD
        obtain ⟨v244, ev244⟩ : ∃ z : Int32, z = u204 + 1 := ⟨_, rfl⟩
        have bv244 : v244.toInt = u204.toInt + 1 := by rw [ev244]; exact add_k rfl rfl k220 ⟨Int.le_refl _, Int.le_refl _⟩ (by decide)
        have k245 : 1 ≤ v244.toInt ∧ v244.toInt ≤ 24 := add_r bv244 k220 ⟨Int.le_refl _, Int.le_refl _⟩ (by decide)
        refine lv_iinc (v := v244) (lv' := [(1, .int v244), (0, .ref h0)]) hx hb dX10_undo_55 hl (k := 0) rfl (by rw [ev244]; rfl) (by decide) rfl (fun ls hl => ?_)
        refine lv_goto (tgt := 26) hx hb dX10_undo_58 (by decide) ?_
        exact ih (v244, g232) ⟨(ir_wk k245 (by decide) (by decide)), r233, r234, r235, r236, r237, r238, r239, r240, r241, r242, r243⟩ (by show (24 - v244.toInt).toNat < (24 - u204.toInt).toNat; omega) _ _ _ hP hD hS (lv_sub hl [0, 1] rfl)
    have dk200 : v5.toInt ≠ 4 := ne_i rfl rfl k200
    have k246 : 5 ≤ v5.toInt ∧ v5.toInt ≤ 7 := ⟨ne_lo dk200 k198.1 ⟨Int.le_refl _, Int.le_refl _⟩ (by decide), k198.2⟩
    have k247 : 6 ≤ x_undoMany.toInt ∧ x_undoMany.toInt ≤ 8 := ⟨lin_lo (lin_m bv5) k246.1 (by decide), k199.2⟩
    by_cases k248 : v5 = 5
    · have dk248 : v5.toInt = 5 := eq_i rfl rfl k248
      have k249 : 5 ≤ v5.toInt ∧ v5.toInt ≤ 5 := ⟨k246.1, Int.le_trans (Int.le_of_eq dk248) (Int.le_refl _)⟩
      have k250 : 6 ≤ x_undoMany.toInt ∧ x_undoMany.toInt ≤ 6 := ⟨k247.1, lin_hi (lin_m bv5) k249.2 (by decide)⟩
      have n251 : F7 41 = .int 5 := by rw [(get_eq eF7)]; exact congrArg Value.int k248
      refine lv_iconst (v := 0) hx hb dX10_undo_24 (by decide) ?_
      refine lv_istore_n (lv' := [(1, .int 0), (0, .ref h0)]) hx hb dX10_undo_25 rfl hl (by decide) rfl (fun ls hl => ?_)
      refine mloop (α := (Int32) × (Nat → Int32)) (nL := 2) (D := D) (A := A) (H0 := s.heap) (fun a => (24 - a.1.toInt).toNat) (fun a => IR 0 24 a.1 ∧ KW 0 a.2 ∧ SG 0 0 0 40 a.2 ∧ SG 105 108 0 11 a.2 ∧ SG 114 114 0 5 a.2 ∧ SG 130 133 0 11 a.2 ∧ SG 139 139 0 5 a.2 ∧ SG 153 153 0 44 a.2 ∧ SG 44 55 0 9 a.2 ∧ SG 5 5 0 12 a.2 ∧ SG 6 6 0 12 a.2 ∧ SG 7 7 0 6 a.2) (fun a => [(h0, .inr (10, vL 67 F7)), (h_s, .inl (cI, 335, .inl a.2)), (h_undone, .inl (cI, 192, .inl f_undone))]) (fun a => [(1, .int a.1), (0, .ref h0)]) (fun H locs ls => W p l e ({ frames := 0, cells := 0, slots := 0, locals := 0 } : Room) s m [.ref h0].toArray below meth c H locs 0 0 (MQ below (va_Qi (fun (r : Int32) (u : va_W) => ∃ (Gh : Nat → Value) (y_undoMany : Int32) (g_s : Nat → Int32), SAME [0, 41] Fh Gh ∧ Gh 0 = .int 0 ∧ Gh 41 = .int y_undoMany ∧ IR 0 7 y_undoMany ∧ SG 153 153 0 44 g_s ∧ SG 0 0 0 40 g_s ∧ SG 5 5 0 12 g_s ∧ SG 6 6 0 12 g_s ∧ SG 7 7 0 6 g_s ∧ SG 44 55 0 9 g_s ∧ KW 0 g_s ∧ SG 105 108 0 11 g_s ∧ SG 114 114 0 5 g_s ∧ SG 130 133 0 11 g_s ∧ SG 139 139 0 5 g_s ∧ IR (-1) 7 r ∧ u = [(h0, .inr (10, vL 67 Gh)), (h_s, .inl (cI, 335, .inl g_s)), (h_undone, .inl (cI, 192, .inl f_undone))]) (PO D A) A) [.ref h0].toArray s 0 0 A) (F0 m 26 ls [])) ?_ (0, f_s) ⟨(show 0 ≤ (0 : Int32).toInt ∧ (0 : Int32).toInt ≤ 24 by decide), s_s_K0, s_s_0, s_s_105, s_s_114, s_s_130, s_s_139, s_s_153, s_s_44, s_s_5, s_s_6, s_s_7⟩ _ _ _ hP hD hS hl
      rintro ⟨u252, w253⟩ ⟨i254, i255, i256, i257, i258, i259, i260, i261, i262, i263, i264, i265⟩ ih H locs ls hP hD hS hl
      have i254 : 0 ≤ u252.toInt ∧ u252.toInt ≤ 24 := i254
      have hP : va_P D vwCl [(h0, .inr (10, vL 67 F7)), (h_s, .inl (cI, 335, .inl w253)), (h_undone, .inl (cI, 192, .inl f_undone))] H := hP
      have hD : va_D A [(h0, .inr (10, vL 67 F7)), (h_s, .inl (cI, 335, .inl w253)), (h_undone, .inl (cI, 192, .inl f_undone))] := hD
      have hl : lv_has ls 2 [(1, .int u252), (0, .ref h0)] := hl
      refine lv_iload_n hx hb dX10_undo_26 rfl (lv_at hl 0 rfl) ?_
      refine lv_bipush (v := 24) hx hb dX10_undo_27 (by decide) ?_
      refine lv_icmp_ge (tgt := 61) hx hb dX10_undo_29 (by decide) (fun c266 => ?_) (fun c266 => ?_)
      · have dc266 : 24 ≤ u252.toInt := le_i (a := 24) (b := u252.toInt) rfl rfl c266
        have k267 : 24 ≤ u252.toInt ∧ u252.toInt ≤ 24 := ⟨Int.le_trans (Int.le_refl _) dc266, i254.2⟩
        refine lv_aload_n hx hb dX10_undo_61 rfl (lv_at hl 1 rfl) ?_
        refine get_f (D := D) (ci := 10) (v := .int 5) (C := RX10) (T := TX10) (N := 67) hx hb hw inAX10 hown hK hP 0 rfl rfl 41 (by decide) (hw _ q_1302) (fun _ h9 => h9) n251 dX10_undo_62 ?_
        exact ret_i (v := 5) hx hb hr hlocks hS hP hD dX10_undo_65 rfl (Nat.le_of_ble_eq_true rfl) (Nat.le_of_ble_eq_true rfl) ⟨F7, v5, w253, (SAME.up eF7 (SAME.up eF1 SAME.rf (by decide)) (by decide)), (get_ne eF7 (by decide) (get_eq eF1)), (get_eq eF7), (ir_wk k249 (by decide) (by decide)), i261, i256, i263, i264, i265, i262, i255, i257, i258, i259, i260, (show (-1) ≤ (5 : Int32).toInt ∧ (5 : Int32).toInt ≤ 7 by decide), rfl⟩
      · have dc266 : u252.toInt < 24 := nle_i (a := 24) (b := u252.toInt) rfl rfl c266
        have k268 : 0 ≤ u252.toInt ∧ u252.toInt ≤ 23 := ⟨i254.1, up_lt dc266 (Int.le_refl _) (by decide)⟩
        refine lv_aload_n hx hb dX10_undo_32 rfl (lv_at hl 1 rfl) ?_
        have n269 : F1 6 = .ref h_s := (get_ne eF1 (by decide) e_s)
        have n270 : F7 6 = .ref h_s := (get_ne eF7 (by decide) n269)
        refine get_f (D := D) (ci := 10) (v := .ref h_s) (C := RX10) (T := TX10) (N := 67) hx hb hw inAX10 hown hK hP 0 rfl rfl 6 (by decide) (hw _ q_1267) (fun _ h9 => h9) n270 dX10_undo_33 ?_
        refine lv_bipush (v := 104) hx hb dX10_undo_36 (by decide) ?_
        refine lv_iload_n hx hb dX10_undo_38 rfl (lv_at hl 0 rfl) ?_
        refine lv_iadd hx hb dX10_undo_39 ?_
        refine lv_topi (fun v271 ev271 => ?_)
        have bv271 : v271.toInt = 104 + u252.toInt := by rw [ev271]; exact add_k rfl rfl ⟨Int.le_refl _, Int.le_refl _⟩ k268 (by decide)
        have k272 : 104 ≤ v271.toInt ∧ v271.toInt ≤ 127 := add_r bv271 ⟨Int.le_refl _, Int.le_refl _⟩ k268 (by decide)
        refine lv_aload_n hx hb dX10_undo_40 rfl (lv_at hl 1 rfl) ?_
        have n273 : F1 39 = .ref h_undone := (get_ne eF1 (by decide) e_undone)
        have n274 : F7 39 = .ref h_undone := (get_ne eF7 (by decide) n273)
        refine get_f (D := D) (ci := 10) (v := .ref h_undone) (C := RX10) (T := TX10) (N := 67) hx hb hw inAX10 hown hK hP 0 rfl rfl 39 (by decide) (hw _ q_1300) (fun _ h9 => h9) n274 dX10_undo_41 ?_
        refine lv_bipush (v := 24) hx hb dX10_undo_44 (by decide) ?_
        refine lv_aload_n hx hb dX10_undo_46 rfl (lv_at hl 1 rfl) ?_
        refine get_f (D := D) (ci := 10) (v := .int 5) (C := RX10) (T := TX10) (N := 67) hx hb hw inAX10 hown hK hP 0 rfl rfl 41 (by decide) (hw _ q_1302) (fun _ h9 => h9) n251 dX10_undo_47 ?_
        refine lv_imul hx hb dX10_undo_50 ?_
        refine lv_ci (y := 120) (by decide +kernel) ?_
        refine lv_iload_n hx hb dX10_undo_51 rfl (lv_at hl 0 rfl) ?_
        refine lv_iadd hx hb dX10_undo_52 ?_
        refine lv_topi (fun v275 ev275 => ?_)
        have bv275 : v275.toInt = 120 + u252.toInt := by rw [ev275]; exact add_k rfl rfl ⟨Int.le_refl _, Int.le_refl _⟩ k268 (by decide)
        have k276 : 120 ≤ v275.toInt ∧ v275.toInt ≤ 143 := add_r bv275 ⟨Int.le_refl _, Int.le_refl _⟩ k268 (by decide)
        refine va_iald hx hb hK hP 2 0 rfl rfl (ix_k k276 (by decide) (by decide)) dX10_undo_53 ?_
        refine lv_topi (fun v277 ev277 => ?_)
        have r278 : IMP (121 ≤ v275.toInt → v275.toInt ≤ 124 → 0 ≤ v277.toInt ∧ v277.toInt ≤ 11) := IMP.mk (fun q1 q2 => by rw [ev277]; exact s_undone_121.at _ q1 q2)
        have r279 : IMP (130 ≤ v275.toInt → v275.toInt ≤ 130 → 0 ≤ v277.toInt ∧ v277.toInt ≤ 5) := IMP.mk (fun q1 q2 => by rw [ev277]; exact s_undone_130.at _ q1 q2)
        obtain ⟨g280, eg280⟩ : ∃ z : Nat → Int32, upd w253 v271.toNatClampNeg v277 = z := ⟨_, rfl⟩
        have r281 : KW 0 g280 := by rw [← eg280]; exact i255.up (Int.le_trans (by decide) k272.1) (Or.inl (lt_dec k272.2 (by decide)))
        have r282 : SG 0 0 0 40 g280 := by rw [← eg280]; exact i256.up (Int.le_trans (by decide) k272.1) (Or.inr (Or.inl (dec_lt k272.1 (by decide))))
        have r283 : SG 105 108 0 11 g280 := by rw [← eg280]; exact i257.upI (Int.le_trans (by decide) k272.1) (fun q1 q2 => ⟨Int.le_trans (by decide) (r278.h (by omega) (by omega)).1, Int.le_trans (r278.h (by omega) (by omega)).2 (by decide)⟩)
        have r284 : SG 114 114 0 5 g280 := by rw [← eg280]; exact i258.upI (Int.le_trans (by decide) k272.1) (fun q1 q2 => ⟨Int.le_trans (by decide) (r279.h (by omega) (by omega)).1, Int.le_trans (r279.h (by omega) (by omega)).2 (by decide)⟩)
        have r285 : SG 130 133 0 11 g280 := by rw [← eg280]; exact i259.up (Int.le_trans (by decide) k272.1) (Or.inl (lt_dec k272.2 (by decide)))
        have r286 : SG 139 139 0 5 g280 := by rw [← eg280]; exact i260.up (Int.le_trans (by decide) k272.1) (Or.inl (lt_dec k272.2 (by decide)))
        have r287 : SG 153 153 0 44 g280 := by rw [← eg280]; exact i261.up (Int.le_trans (by decide) k272.1) (Or.inl (lt_dec k272.2 (by decide)))
        have r288 : SG 44 55 0 9 g280 := by rw [← eg280]; exact i262.up (Int.le_trans (by decide) k272.1) (Or.inr (Or.inl (dec_lt k272.1 (by decide))))
        have r289 : SG 5 5 0 12 g280 := by rw [← eg280]; exact i263.up (Int.le_trans (by decide) k272.1) (Or.inr (Or.inl (dec_lt k272.1 (by decide))))
        have r290 : SG 6 6 0 12 g280 := by rw [← eg280]; exact i264.up (Int.le_trans (by decide) k272.1) (Or.inr (Or.inl (dec_lt k272.1 (by decide))))
        have r291 : SG 7 7 0 6 g280 := by rw [← eg280]; exact i265.up (Int.le_trans (by decide) k272.1) (Or.inr (Or.inl (dec_lt k272.1 (by decide))))
        refine iast_g hx hb hK hP hD hS 1 0 rfl rfl (ix_k k272 (by decide) (by decide)) eg280 dX10_undo_54 (fun H locs hP hD hS => ?_)
        have hP : va_P D vwCl [(h0, .inr (10, vL 67 F7)), (h_s, .inl (cI, 335, .inl g280)), (h_undone, .inl (cI, 192, .inl f_undone))] H := hP
        have hD : va_D A [(h0, .inr (10, vL 67 F7)), (h_s, .inl (cI, 335, .inl g280)), (h_undone, .inl (cI, 192, .inl f_undone))] := hD
        obtain ⟨v292, ev292⟩ : ∃ z : Int32, z = u252 + 1 := ⟨_, rfl⟩
        have bv292 : v292.toInt = u252.toInt + 1 := by rw [ev292]; exact add_k rfl rfl k268 ⟨Int.le_refl _, Int.le_refl _⟩ (by decide)
        have k293 : 1 ≤ v292.toInt ∧ v292.toInt ≤ 24 := add_r bv292 k268 ⟨Int.le_refl _, Int.le_refl _⟩ (by decide)
        refine lv_iinc (v := v292) (lv' := [(1, .int v292), (0, .ref h0)]) hx hb dX10_undo_55 hl (k := 0) rfl (by rw [ev292]; rfl) (by decide) rfl (fun ls hl => ?_)
        refine lv_goto (tgt := 26) hx hb dX10_undo_58 (by decide) ?_
        exact ih (v292, g280) ⟨(ir_wk k293 (by decide) (by decide)), r281, r282, r283, r284, r285, r286, r287, r288, r289, r290, r291⟩ (by show (24 - v292.toInt).toNat < (24 - u252.toInt).toNat; omega) _ _ _ hP hD hS (lv_sub hl [0, 1] rfl)
    have dk248 : v5.toInt ≠ 5 := ne_i rfl rfl k248
    have k294 : 6 ≤ v5.toInt ∧ v5.toInt ≤ 7 := ⟨ne_lo dk248 k246.1 ⟨Int.le_refl _, Int.le_refl _⟩ (by decide), k246.2⟩
    have k295 : 7 ≤ x_undoMany.toInt ∧ x_undoMany.toInt ≤ 8 := ⟨lin_lo (lin_m bv5) k294.1 (by decide), k247.2⟩
    by_cases k296 : v5 = 6
    · have dk296 : v5.toInt = 6 := eq_i rfl rfl k296
      have k297 : 6 ≤ v5.toInt ∧ v5.toInt ≤ 6 := ⟨k294.1, Int.le_trans (Int.le_of_eq dk296) (Int.le_refl _)⟩
      have k298 : 7 ≤ x_undoMany.toInt ∧ x_undoMany.toInt ≤ 7 := ⟨k295.1, lin_hi (lin_m bv5) k297.2 (by decide)⟩
      have n299 : F7 41 = .int 6 := by rw [(get_eq eF7)]; exact congrArg Value.int k296
      refine lv_iconst (v := 0) hx hb dX10_undo_24 (by decide) ?_
      refine lv_istore_n (lv' := [(1, .int 0), (0, .ref h0)]) hx hb dX10_undo_25 rfl hl (by decide) rfl (fun ls hl => ?_)
      refine mloop (α := (Int32) × (Nat → Int32)) (nL := 2) (D := D) (A := A) (H0 := s.heap) (fun a => (24 - a.1.toInt).toNat) (fun a => IR 0 24 a.1 ∧ KW 0 a.2 ∧ SG 0 0 0 40 a.2 ∧ SG 105 108 0 11 a.2 ∧ SG 114 114 0 5 a.2 ∧ SG 130 133 0 11 a.2 ∧ SG 139 139 0 5 a.2 ∧ SG 153 153 0 44 a.2 ∧ SG 44 55 0 9 a.2 ∧ SG 5 5 0 12 a.2 ∧ SG 6 6 0 12 a.2 ∧ SG 7 7 0 6 a.2) (fun a => [(h0, .inr (10, vL 67 F7)), (h_s, .inl (cI, 335, .inl a.2)), (h_undone, .inl (cI, 192, .inl f_undone))]) (fun a => [(1, .int a.1), (0, .ref h0)]) (fun H locs ls => W p l e ({ frames := 0, cells := 0, slots := 0, locals := 0 } : Room) s m [.ref h0].toArray below meth c H locs 0 0 (MQ below (va_Qi (fun (r : Int32) (u : va_W) => ∃ (Gh : Nat → Value) (y_undoMany : Int32) (g_s : Nat → Int32), SAME [0, 41] Fh Gh ∧ Gh 0 = .int 0 ∧ Gh 41 = .int y_undoMany ∧ IR 0 7 y_undoMany ∧ SG 153 153 0 44 g_s ∧ SG 0 0 0 40 g_s ∧ SG 5 5 0 12 g_s ∧ SG 6 6 0 12 g_s ∧ SG 7 7 0 6 g_s ∧ SG 44 55 0 9 g_s ∧ KW 0 g_s ∧ SG 105 108 0 11 g_s ∧ SG 114 114 0 5 g_s ∧ SG 130 133 0 11 g_s ∧ SG 139 139 0 5 g_s ∧ IR (-1) 7 r ∧ u = [(h0, .inr (10, vL 67 Gh)), (h_s, .inl (cI, 335, .inl g_s)), (h_undone, .inl (cI, 192, .inl f_undone))]) (PO D A) A) [.ref h0].toArray s 0 0 A) (F0 m 26 ls [])) ?_ (0, f_s) ⟨(show 0 ≤ (0 : Int32).toInt ∧ (0 : Int32).toInt ≤ 24 by decide), s_s_K0, s_s_0, s_s_105, s_s_114, s_s_130, s_s_139, s_s_153, s_s_44, s_s_5, s_s_6, s_s_7⟩ _ _ _ hP hD hS hl
      rintro ⟨u300, w301⟩ ⟨i302, i303, i304, i305, i306, i307, i308, i309, i310, i311, i312, i313⟩ ih H locs ls hP hD hS hl
      have i302 : 0 ≤ u300.toInt ∧ u300.toInt ≤ 24 := i302
      have hP : va_P D vwCl [(h0, .inr (10, vL 67 F7)), (h_s, .inl (cI, 335, .inl w301)), (h_undone, .inl (cI, 192, .inl f_undone))] H := hP
      have hD : va_D A [(h0, .inr (10, vL 67 F7)), (h_s, .inl (cI, 335, .inl w301)), (h_undone, .inl (cI, 192, .inl f_undone))] := hD
      have hl : lv_has ls 2 [(1, .int u300), (0, .ref h0)] := hl
      refine lv_iload_n hx hb dX10_undo_26 rfl (lv_at hl 0 rfl) ?_
      refine lv_bipush (v := 24) hx hb dX10_undo_27 (by decide) ?_
      refine lv_icmp_ge (tgt := 61) hx hb dX10_undo_29 (by decide) (fun c314 => ?_) (fun c314 => ?_)
      · have dc314 : 24 ≤ u300.toInt := le_i (a := 24) (b := u300.toInt) rfl rfl c314
        have k315 : 24 ≤ u300.toInt ∧ u300.toInt ≤ 24 := ⟨Int.le_trans (Int.le_refl _) dc314, i302.2⟩
        refine lv_aload_n hx hb dX10_undo_61 rfl (lv_at hl 1 rfl) ?_
        refine get_f (D := D) (ci := 10) (v := .int 6) (C := RX10) (T := TX10) (N := 67) hx hb hw inAX10 hown hK hP 0 rfl rfl 41 (by decide) (hw _ q_1302) (fun _ h9 => h9) n299 dX10_undo_62 ?_
        exact ret_i (v := 6) hx hb hr hlocks hS hP hD dX10_undo_65 rfl (Nat.le_of_ble_eq_true rfl) (Nat.le_of_ble_eq_true rfl) ⟨F7, v5, w301, (SAME.up eF7 (SAME.up eF1 SAME.rf (by decide)) (by decide)), (get_ne eF7 (by decide) (get_eq eF1)), (get_eq eF7), (ir_wk k297 (by decide) (by decide)), i309, i304, i311, i312, i313, i310, i303, i305, i306, i307, i308, (show (-1) ≤ (6 : Int32).toInt ∧ (6 : Int32).toInt ≤ 7 by decide), rfl⟩
      · have dc314 : u300.toInt < 24 := nle_i (a := 24) (b := u300.toInt) rfl rfl c314
        have k316 : 0 ≤ u300.toInt ∧ u300.toInt ≤ 23 := ⟨i302.1, up_lt dc314 (Int.le_refl _) (by decide)⟩
        refine lv_aload_n hx hb dX10_undo_32 rfl (lv_at hl 1 rfl) ?_
        have n317 : F1 6 = .ref h_s := (get_ne eF1 (by decide) e_s)
        have n318 : F7 6 = .ref h_s := (get_ne eF7 (by decide) n317)
        refine get_f (D := D) (ci := 10) (v := .ref h_s) (C := RX10) (T := TX10) (N := 67) hx hb hw inAX10 hown hK hP 0 rfl rfl 6 (by decide) (hw _ q_1267) (fun _ h9 => h9) n318 dX10_undo_33 ?_
        refine lv_bipush (v := 104) hx hb dX10_undo_36 (by decide) ?_
        refine lv_iload_n hx hb dX10_undo_38 rfl (lv_at hl 0 rfl) ?_
        refine lv_iadd hx hb dX10_undo_39 ?_
        refine lv_topi (fun v319 ev319 => ?_)
        have bv319 : v319.toInt = 104 + u300.toInt := by rw [ev319]; exact add_k rfl rfl ⟨Int.le_refl _, Int.le_refl _⟩ k316 (by decide)
        have k320 : 104 ≤ v319.toInt ∧ v319.toInt ≤ 127 := add_r bv319 ⟨Int.le_refl _, Int.le_refl _⟩ k316 (by decide)
        refine lv_aload_n hx hb dX10_undo_40 rfl (lv_at hl 1 rfl) ?_
        have n321 : F1 39 = .ref h_undone := (get_ne eF1 (by decide) e_undone)
        have n322 : F7 39 = .ref h_undone := (get_ne eF7 (by decide) n321)
        refine get_f (D := D) (ci := 10) (v := .ref h_undone) (C := RX10) (T := TX10) (N := 67) hx hb hw inAX10 hown hK hP 0 rfl rfl 39 (by decide) (hw _ q_1300) (fun _ h9 => h9) n322 dX10_undo_41 ?_
        refine lv_bipush (v := 24) hx hb dX10_undo_44 (by decide) ?_
        refine lv_aload_n hx hb dX10_undo_46 rfl (lv_at hl 1 rfl) ?_
        refine get_f (D := D) (ci := 10) (v := .int 6) (C := RX10) (T := TX10) (N := 67) hx hb hw inAX10 hown hK hP 0 rfl rfl 41 (by decide) (hw _ q_1302) (fun _ h9 => h9) n299 dX10_undo_47 ?_
        refine lv_imul hx hb dX10_undo_50 ?_
        refine lv_ci (y := 144) (by decide +kernel) ?_
        refine lv_iload_n hx hb dX10_undo_51 rfl (lv_at hl 0 rfl) ?_
        refine lv_iadd hx hb dX10_undo_52 ?_
        refine lv_topi (fun v323 ev323 => ?_)
        have bv323 : v323.toInt = 144 + u300.toInt := by rw [ev323]; exact add_k rfl rfl ⟨Int.le_refl _, Int.le_refl _⟩ k316 (by decide)
        have k324 : 144 ≤ v323.toInt ∧ v323.toInt ≤ 167 := add_r bv323 ⟨Int.le_refl _, Int.le_refl _⟩ k316 (by decide)
        refine va_iald hx hb hK hP 2 0 rfl rfl (ix_k k324 (by decide) (by decide)) dX10_undo_53 ?_
        refine lv_topi (fun v325 ev325 => ?_)
        have r326 : IMP (145 ≤ v323.toInt → v323.toInt ≤ 148 → 0 ≤ v325.toInt ∧ v325.toInt ≤ 11) := IMP.mk (fun q1 q2 => by rw [ev325]; exact s_undone_145.at _ q1 q2)
        have r327 : IMP (154 ≤ v323.toInt → v323.toInt ≤ 154 → 0 ≤ v325.toInt ∧ v325.toInt ≤ 5) := IMP.mk (fun q1 q2 => by rw [ev325]; exact s_undone_154.at _ q1 q2)
        obtain ⟨g328, eg328⟩ : ∃ z : Nat → Int32, upd w301 v319.toNatClampNeg v325 = z := ⟨_, rfl⟩
        have r329 : KW 0 g328 := by rw [← eg328]; exact i303.up (Int.le_trans (by decide) k320.1) (Or.inl (lt_dec k320.2 (by decide)))
        have r330 : SG 0 0 0 40 g328 := by rw [← eg328]; exact i304.up (Int.le_trans (by decide) k320.1) (Or.inr (Or.inl (dec_lt k320.1 (by decide))))
        have r331 : SG 105 108 0 11 g328 := by rw [← eg328]; exact i305.upI (Int.le_trans (by decide) k320.1) (fun q1 q2 => ⟨Int.le_trans (by decide) (r326.h (by omega) (by omega)).1, Int.le_trans (r326.h (by omega) (by omega)).2 (by decide)⟩)
        have r332 : SG 114 114 0 5 g328 := by rw [← eg328]; exact i306.upI (Int.le_trans (by decide) k320.1) (fun q1 q2 => ⟨Int.le_trans (by decide) (r327.h (by omega) (by omega)).1, Int.le_trans (r327.h (by omega) (by omega)).2 (by decide)⟩)
        have r333 : SG 130 133 0 11 g328 := by rw [← eg328]; exact i307.up (Int.le_trans (by decide) k320.1) (Or.inl (lt_dec k320.2 (by decide)))
        have r334 : SG 139 139 0 5 g328 := by rw [← eg328]; exact i308.up (Int.le_trans (by decide) k320.1) (Or.inl (lt_dec k320.2 (by decide)))
        have r335 : SG 153 153 0 44 g328 := by rw [← eg328]; exact i309.up (Int.le_trans (by decide) k320.1) (Or.inl (lt_dec k320.2 (by decide)))
        have r336 : SG 44 55 0 9 g328 := by rw [← eg328]; exact i310.up (Int.le_trans (by decide) k320.1) (Or.inr (Or.inl (dec_lt k320.1 (by decide))))
        have r337 : SG 5 5 0 12 g328 := by rw [← eg328]; exact i311.up (Int.le_trans (by decide) k320.1) (Or.inr (Or.inl (dec_lt k320.1 (by decide))))
        have r338 : SG 6 6 0 12 g328 := by rw [← eg328]; exact i312.up (Int.le_trans (by decide) k320.1) (Or.inr (Or.inl (dec_lt k320.1 (by decide))))
        have r339 : SG 7 7 0 6 g328 := by rw [← eg328]; exact i313.up (Int.le_trans (by decide) k320.1) (Or.inr (Or.inl (dec_lt k320.1 (by decide))))
        refine iast_g hx hb hK hP hD hS 1 0 rfl rfl (ix_k k320 (by decide) (by decide)) eg328 dX10_undo_54 (fun H locs hP hD hS => ?_)
        have hP : va_P D vwCl [(h0, .inr (10, vL 67 F7)), (h_s, .inl (cI, 335, .inl g328)), (h_undone, .inl (cI, 192, .inl f_undone))] H := hP
        have hD : va_D A [(h0, .inr (10, vL 67 F7)), (h_s, .inl (cI, 335, .inl g328)), (h_undone, .inl (cI, 192, .inl f_undone))] := hD
        obtain ⟨v340, ev340⟩ : ∃ z : Int32, z = u300 + 1 := ⟨_, rfl⟩
        have bv340 : v340.toInt = u300.toInt + 1 := by rw [ev340]; exact add_k rfl rfl k316 ⟨Int.le_refl _, Int.le_refl _⟩ (by decide)
        have k341 : 1 ≤ v340.toInt ∧ v340.toInt ≤ 24 := add_r bv340 k316 ⟨Int.le_refl _, Int.le_refl _⟩ (by decide)
        refine lv_iinc (v := v340) (lv' := [(1, .int v340), (0, .ref h0)]) hx hb dX10_undo_55 hl (k := 0) rfl (by rw [ev340]; rfl) (by decide) rfl (fun ls hl => ?_)
        refine lv_goto (tgt := 26) hx hb dX10_undo_58 (by decide) ?_
        exact ih (v340, g328) ⟨(ir_wk k341 (by decide) (by decide)), r329, r330, r331, r332, r333, r334, r335, r336, r337, r338, r339⟩ (by show (24 - v340.toInt).toNat < (24 - u300.toInt).toNat; omega) _ _ _ hP hD hS (lv_sub hl [0, 1] rfl)
    have dk296 : v5.toInt ≠ 6 := ne_i rfl rfl k296
    have k342 : 7 ≤ v5.toInt ∧ v5.toInt ≤ 7 := ⟨ne_lo dk296 k294.1 ⟨Int.le_refl _, Int.le_refl _⟩ (by decide), k294.2⟩
    have k343 : 8 ≤ x_undoMany.toInt ∧ x_undoMany.toInt ≤ 8 := ⟨lin_lo (lin_m bv5) k342.1 (by decide), k295.2⟩
    have k344 : v5 = 7 := Int32.toInt_inj.mp (show v5.toInt = 7 by omega)
    have dk344 : v5.toInt = 7 := eq_i rfl rfl k344
    have n345 : F7 41 = .int 7 := by rw [(get_eq eF7)]; exact congrArg Value.int k344
    refine lv_iconst (v := 0) hx hb dX10_undo_24 (by decide) ?_
    refine lv_istore_n (lv' := [(1, .int 0), (0, .ref h0)]) hx hb dX10_undo_25 rfl hl (by decide) rfl (fun ls hl => ?_)
    refine mloop (α := (Int32) × (Nat → Int32)) (nL := 2) (D := D) (A := A) (H0 := s.heap) (fun a => (24 - a.1.toInt).toNat) (fun a => IR 0 24 a.1 ∧ KW 0 a.2 ∧ SG 0 0 0 40 a.2 ∧ SG 105 108 0 11 a.2 ∧ SG 114 114 0 5 a.2 ∧ SG 130 133 0 11 a.2 ∧ SG 139 139 0 5 a.2 ∧ SG 153 153 0 44 a.2 ∧ SG 44 55 0 9 a.2 ∧ SG 5 5 0 12 a.2 ∧ SG 6 6 0 12 a.2 ∧ SG 7 7 0 6 a.2) (fun a => [(h0, .inr (10, vL 67 F7)), (h_s, .inl (cI, 335, .inl a.2)), (h_undone, .inl (cI, 192, .inl f_undone))]) (fun a => [(1, .int a.1), (0, .ref h0)]) (fun H locs ls => W p l e ({ frames := 0, cells := 0, slots := 0, locals := 0 } : Room) s m [.ref h0].toArray below meth c H locs 0 0 (MQ below (va_Qi (fun (r : Int32) (u : va_W) => ∃ (Gh : Nat → Value) (y_undoMany : Int32) (g_s : Nat → Int32), SAME [0, 41] Fh Gh ∧ Gh 0 = .int 0 ∧ Gh 41 = .int y_undoMany ∧ IR 0 7 y_undoMany ∧ SG 153 153 0 44 g_s ∧ SG 0 0 0 40 g_s ∧ SG 5 5 0 12 g_s ∧ SG 6 6 0 12 g_s ∧ SG 7 7 0 6 g_s ∧ SG 44 55 0 9 g_s ∧ KW 0 g_s ∧ SG 105 108 0 11 g_s ∧ SG 114 114 0 5 g_s ∧ SG 130 133 0 11 g_s ∧ SG 139 139 0 5 g_s ∧ IR (-1) 7 r ∧ u = [(h0, .inr (10, vL 67 Gh)), (h_s, .inl (cI, 335, .inl g_s)), (h_undone, .inl (cI, 192, .inl f_undone))]) (PO D A) A) [.ref h0].toArray s 0 0 A) (F0 m 26 ls [])) ?_ (0, f_s) ⟨(show 0 ≤ (0 : Int32).toInt ∧ (0 : Int32).toInt ≤ 24 by decide), s_s_K0, s_s_0, s_s_105, s_s_114, s_s_130, s_s_139, s_s_153, s_s_44, s_s_5, s_s_6, s_s_7⟩ _ _ _ hP hD hS hl
    rintro ⟨u346, w347⟩ ⟨i348, i349, i350, i351, i352, i353, i354, i355, i356, i357, i358, i359⟩ ih H locs ls hP hD hS hl
    have i348 : 0 ≤ u346.toInt ∧ u346.toInt ≤ 24 := i348
    have hP : va_P D vwCl [(h0, .inr (10, vL 67 F7)), (h_s, .inl (cI, 335, .inl w347)), (h_undone, .inl (cI, 192, .inl f_undone))] H := hP
    have hD : va_D A [(h0, .inr (10, vL 67 F7)), (h_s, .inl (cI, 335, .inl w347)), (h_undone, .inl (cI, 192, .inl f_undone))] := hD
    have hl : lv_has ls 2 [(1, .int u346), (0, .ref h0)] := hl
    refine lv_iload_n hx hb dX10_undo_26 rfl (lv_at hl 0 rfl) ?_
    refine lv_bipush (v := 24) hx hb dX10_undo_27 (by decide) ?_
    refine lv_icmp_ge (tgt := 61) hx hb dX10_undo_29 (by decide) (fun c360 => ?_) (fun c360 => ?_)
    · have dc360 : 24 ≤ u346.toInt := le_i (a := 24) (b := u346.toInt) rfl rfl c360
      have k361 : 24 ≤ u346.toInt ∧ u346.toInt ≤ 24 := ⟨Int.le_trans (Int.le_refl _) dc360, i348.2⟩
      refine lv_aload_n hx hb dX10_undo_61 rfl (lv_at hl 1 rfl) ?_
      refine get_f (D := D) (ci := 10) (v := .int 7) (C := RX10) (T := TX10) (N := 67) hx hb hw inAX10 hown hK hP 0 rfl rfl 41 (by decide) (hw _ q_1302) (fun _ h9 => h9) n345 dX10_undo_62 ?_
      exact ret_i (v := 7) hx hb hr hlocks hS hP hD dX10_undo_65 rfl (Nat.le_of_ble_eq_true rfl) (Nat.le_of_ble_eq_true rfl) ⟨F7, v5, w347, (SAME.up eF7 (SAME.up eF1 SAME.rf (by decide)) (by decide)), (get_ne eF7 (by decide) (get_eq eF1)), (get_eq eF7), (ir_wk k342 (by decide) (by decide)), i355, i350, i357, i358, i359, i356, i349, i351, i352, i353, i354, (show (-1) ≤ (7 : Int32).toInt ∧ (7 : Int32).toInt ≤ 7 by decide), rfl⟩
    · have dc360 : u346.toInt < 24 := nle_i (a := 24) (b := u346.toInt) rfl rfl c360
      have k362 : 0 ≤ u346.toInt ∧ u346.toInt ≤ 23 := ⟨i348.1, up_lt dc360 (Int.le_refl _) (by decide)⟩
      refine lv_aload_n hx hb dX10_undo_32 rfl (lv_at hl 1 rfl) ?_
      have n363 : F1 6 = .ref h_s := (get_ne eF1 (by decide) e_s)
      have n364 : F7 6 = .ref h_s := (get_ne eF7 (by decide) n363)
      refine get_f (D := D) (ci := 10) (v := .ref h_s) (C := RX10) (T := TX10) (N := 67) hx hb hw inAX10 hown hK hP 0 rfl rfl 6 (by decide) (hw _ q_1267) (fun _ h9 => h9) n364 dX10_undo_33 ?_
      refine lv_bipush (v := 104) hx hb dX10_undo_36 (by decide) ?_
      refine lv_iload_n hx hb dX10_undo_38 rfl (lv_at hl 0 rfl) ?_
      refine lv_iadd hx hb dX10_undo_39 ?_
      refine lv_topi (fun v365 ev365 => ?_)
      have bv365 : v365.toInt = 104 + u346.toInt := by rw [ev365]; exact add_k rfl rfl ⟨Int.le_refl _, Int.le_refl _⟩ k362 (by decide)
      have k366 : 104 ≤ v365.toInt ∧ v365.toInt ≤ 127 := add_r bv365 ⟨Int.le_refl _, Int.le_refl _⟩ k362 (by decide)
      refine lv_aload_n hx hb dX10_undo_40 rfl (lv_at hl 1 rfl) ?_
      have n367 : F1 39 = .ref h_undone := (get_ne eF1 (by decide) e_undone)
      have n368 : F7 39 = .ref h_undone := (get_ne eF7 (by decide) n367)
      refine get_f (D := D) (ci := 10) (v := .ref h_undone) (C := RX10) (T := TX10) (N := 67) hx hb hw inAX10 hown hK hP 0 rfl rfl 39 (by decide) (hw _ q_1300) (fun _ h9 => h9) n368 dX10_undo_41 ?_
      refine lv_bipush (v := 24) hx hb dX10_undo_44 (by decide) ?_
      refine lv_aload_n hx hb dX10_undo_46 rfl (lv_at hl 1 rfl) ?_
      refine get_f (D := D) (ci := 10) (v := .int 7) (C := RX10) (T := TX10) (N := 67) hx hb hw inAX10 hown hK hP 0 rfl rfl 41 (by decide) (hw _ q_1302) (fun _ h9 => h9) n345 dX10_undo_47 ?_
      refine lv_imul hx hb dX10_undo_50 ?_
      refine lv_ci (y := 168) (by decide +kernel) ?_
      refine lv_iload_n hx hb dX10_undo_51 rfl (lv_at hl 0 rfl) ?_
      refine lv_iadd hx hb dX10_undo_52 ?_
      refine lv_topi (fun v369 ev369 => ?_)
      have bv369 : v369.toInt = 168 + u346.toInt := by rw [ev369]; exact add_k rfl rfl ⟨Int.le_refl _, Int.le_refl _⟩ k362 (by decide)
      have k370 : 168 ≤ v369.toInt ∧ v369.toInt ≤ 191 := add_r bv369 ⟨Int.le_refl _, Int.le_refl _⟩ k362 (by decide)
      refine va_iald hx hb hK hP 2 0 rfl rfl (ix_k k370 (by decide) (by decide)) dX10_undo_53 ?_
      refine lv_topi (fun v371 ev371 => ?_)
      have r372 : IMP (169 ≤ v369.toInt → v369.toInt ≤ 172 → 0 ≤ v371.toInt ∧ v371.toInt ≤ 11) := IMP.mk (fun q1 q2 => by rw [ev371]; exact s_undone_169.at _ q1 q2)
      have r373 : IMP (178 ≤ v369.toInt → v369.toInt ≤ 178 → 0 ≤ v371.toInt ∧ v371.toInt ≤ 5) := IMP.mk (fun q1 q2 => by rw [ev371]; exact s_undone_178.at _ q1 q2)
      obtain ⟨g374, eg374⟩ : ∃ z : Nat → Int32, upd w347 v365.toNatClampNeg v371 = z := ⟨_, rfl⟩
      have r375 : KW 0 g374 := by rw [← eg374]; exact i349.up (Int.le_trans (by decide) k366.1) (Or.inl (lt_dec k366.2 (by decide)))
      have r376 : SG 0 0 0 40 g374 := by rw [← eg374]; exact i350.up (Int.le_trans (by decide) k366.1) (Or.inr (Or.inl (dec_lt k366.1 (by decide))))
      have r377 : SG 105 108 0 11 g374 := by rw [← eg374]; exact i351.upI (Int.le_trans (by decide) k366.1) (fun q1 q2 => ⟨Int.le_trans (by decide) (r372.h (by omega) (by omega)).1, Int.le_trans (r372.h (by omega) (by omega)).2 (by decide)⟩)
      have r378 : SG 114 114 0 5 g374 := by rw [← eg374]; exact i352.upI (Int.le_trans (by decide) k366.1) (fun q1 q2 => ⟨Int.le_trans (by decide) (r373.h (by omega) (by omega)).1, Int.le_trans (r373.h (by omega) (by omega)).2 (by decide)⟩)
      have r379 : SG 130 133 0 11 g374 := by rw [← eg374]; exact i353.up (Int.le_trans (by decide) k366.1) (Or.inl (lt_dec k366.2 (by decide)))
      have r380 : SG 139 139 0 5 g374 := by rw [← eg374]; exact i354.up (Int.le_trans (by decide) k366.1) (Or.inl (lt_dec k366.2 (by decide)))
      have r381 : SG 153 153 0 44 g374 := by rw [← eg374]; exact i355.up (Int.le_trans (by decide) k366.1) (Or.inl (lt_dec k366.2 (by decide)))
      have r382 : SG 44 55 0 9 g374 := by rw [← eg374]; exact i356.up (Int.le_trans (by decide) k366.1) (Or.inr (Or.inl (dec_lt k366.1 (by decide))))
      have r383 : SG 5 5 0 12 g374 := by rw [← eg374]; exact i357.up (Int.le_trans (by decide) k366.1) (Or.inr (Or.inl (dec_lt k366.1 (by decide))))
      have r384 : SG 6 6 0 12 g374 := by rw [← eg374]; exact i358.up (Int.le_trans (by decide) k366.1) (Or.inr (Or.inl (dec_lt k366.1 (by decide))))
      have r385 : SG 7 7 0 6 g374 := by rw [← eg374]; exact i359.up (Int.le_trans (by decide) k366.1) (Or.inr (Or.inl (dec_lt k366.1 (by decide))))
      refine iast_g hx hb hK hP hD hS 1 0 rfl rfl (ix_k k366 (by decide) (by decide)) eg374 dX10_undo_54 (fun H locs hP hD hS => ?_)
      have hP : va_P D vwCl [(h0, .inr (10, vL 67 F7)), (h_s, .inl (cI, 335, .inl g374)), (h_undone, .inl (cI, 192, .inl f_undone))] H := hP
      have hD : va_D A [(h0, .inr (10, vL 67 F7)), (h_s, .inl (cI, 335, .inl g374)), (h_undone, .inl (cI, 192, .inl f_undone))] := hD
      obtain ⟨v386, ev386⟩ : ∃ z : Int32, z = u346 + 1 := ⟨_, rfl⟩
      have bv386 : v386.toInt = u346.toInt + 1 := by rw [ev386]; exact add_k rfl rfl k362 ⟨Int.le_refl _, Int.le_refl _⟩ (by decide)
      have k387 : 1 ≤ v386.toInt ∧ v386.toInt ≤ 24 := add_r bv386 k362 ⟨Int.le_refl _, Int.le_refl _⟩ (by decide)
      refine lv_iinc (v := v386) (lv' := [(1, .int v386), (0, .ref h0)]) hx hb dX10_undo_55 hl (k := 0) rfl (by rw [ev386]; rfl) (by decide) rfl (fun ls hl => ?_)
      refine lv_goto (tgt := 26) hx hb dX10_undo_58 (by decide) ?_
      exact ih (v386, g374) ⟨(ir_wk k387 (by decide) (by decide)), r375, r376, r377, r378, r379, r380, r381, r382, r383, r384, r385⟩ (by show (24 - v386.toInt).toNat < (24 - u346.toInt).toNat; omega) _ _ _ hP hD hS (lv_sub hl [0, 1] rfl)
  · have dc3 : x_undoMany.toInt = 0 := eq_i (a := x_undoMany.toInt) (b := 0) rfl rfl c3
    have k388 : 0 ≤ x_undoMany.toInt ∧ x_undoMany.toInt ≤ 0 := ⟨i_x_undoMany.1, Int.le_trans (Int.le_of_eq dc3) (Int.le_refl _)⟩
    refine lv_iconst (v := (-1)) hx hb dX10_undo_12 (by decide) ?_
    exact ret_i (v := (-1)) hx hb hr hlocks hS hP hD dX10_undo_13 rfl (Nat.le_of_ble_eq_true rfl) (Nat.le_of_ble_eq_true rfl) ⟨F1, x_undoMany, f_s, (SAME.up eF1 SAME.rf (by decide)), (get_eq eF1), n2, (ir_wk k388 (by decide) (by decide)), s_s_153, s_s_0, s_s_5, s_s_6, s_s_7, s_s_44, s_s_K0, s_s_105, s_s_114, s_s_130, s_s_139, (show (-1) ≤ ((-1) : Int32).toInt ∧ ((-1) : Int32).toInt ≤ 7 by decide), rfl⟩
set_option maxHeartbeats 4000000 in
set_option maxRecDepth 100000 in
theorem m_X10_tries (l : Launch) (D : va_G) (cI cJ cB cP cM cZ : ClassId) (h0 : Nat) (h_s : Nat) (h_before : Nat) (Fh : Nat → Value) (f_s : Nat → Int32) (f_before : Nat → Int32) (sz : Nat) (e_s : Fh 6 = .ref h_s) (e_before : Fh 40 = .ref h_before) (s_s_K0 : KW 0 f_s) (s_s_0 : SG 0 0 0 40 f_s) (s_s_105 : SG 105 108 0 11 f_s) (s_s_114 : SG 114 114 0 5 f_s) (s_s_130 : SG 130 133 0 11 f_s) (s_s_139 : SG 139 139 0 5 f_s) (s_s_153 : SG 153 153 0 44 f_s) (s_s_44 : SG 44 55 0 9 f_s) (s_s_5 : SG 5 5 0 12 f_s) (s_s_6 : SG 6 6 0 12 f_s) (s_s_7 : SG 7 7 0 6 f_s) (s_before_1 : SG 1 4 0 11 f_before) (s_before_10 : SG 10 10 0 5 f_before) : CV l yX10_tries cX10_tries 2 none { frames := 0, cells := 0, slots := 0, locals := 0 } (GG D cI cJ cB cP cM cZ) D [(h0, .inr (10, vL 67 Fh)), (h_s, .inl (cI, 335, .inl f_s)), (h_before, .inl (cI, 24, .inl f_before))] sz [.ref h0] (fun (u : va_W) => ∃ (g_before : Nat → Int32), SG 1 4 0 11 g_before ∧ SG 10 10 0 5 g_before ∧ u = [(h0, .inr (10, vL 67 Fh)), (h_s, .inl (cI, 335, .inl f_s)), (h_before, .inl (cI, 24, .inl g_before))]) := by
  refine CV_mk (by decide) (Nat.le_of_ble_eq_true rfl) ?_
  intro p e s m below meth c A ls E hAe hG hsz hP hD hA hS hl
  obtain ⟨hx, hb, hr, hw, hown, hlocks, hml, hnm⟩ := E
  have hK := hG.1
  have hl : lv_has ls 2 [(0, .ref h0)] := hl
  refine lv_iconst (v := 0) hx hb dX10_tries_0 (by decide) ?_
  refine lv_istore_n (lv' := [(1, .int 0), (0, .ref h0)]) hx hb dX10_tries_1 rfl hl (by decide) rfl (fun ls hl => ?_)
  refine mloop (α := (Int32) × (Nat → Int32)) (nL := 2) (D := D) (A := A) (H0 := s.heap) (fun a => (24 - a.1.toInt).toNat) (fun a => IR 0 24 a.1 ∧ SG 1 4 0 11 a.2 ∧ SG 10 10 0 5 a.2) (fun a => [(h0, .inr (10, vL 67 Fh)), (h_s, .inl (cI, 335, .inl f_s)), (h_before, .inl (cI, 24, .inl a.2))]) (fun a => [(1, .int a.1), (0, .ref h0)]) (fun H locs ls => W p l e ({ frames := 0, cells := 0, slots := 0, locals := 0 } : Room) s m [.ref h0].toArray below meth c H locs 0 0 (MQ below (va_Qv (fun (u : va_W) => ∃ (g_before : Nat → Int32), SG 1 4 0 11 g_before ∧ SG 10 10 0 5 g_before ∧ u = [(h0, .inr (10, vL 67 Fh)), (h_s, .inl (cI, 335, .inl f_s)), (h_before, .inl (cI, 24, .inl g_before))]) (PO D A) A) [.ref h0].toArray s 0 0 A) (F0 m 2 ls [])) ?_ (0, f_before) ⟨(show 0 ≤ (0 : Int32).toInt ∧ (0 : Int32).toInt ≤ 24 by decide), s_before_1, s_before_10⟩ _ _ _ hP hD hS hl
  rintro ⟨u1, w2⟩ ⟨i3, i4, i5⟩ ih H locs ls hP hD hS hl
  have i3 : 0 ≤ u1.toInt ∧ u1.toInt ≤ 24 := i3
  have hP : va_P D vwCl [(h0, .inr (10, vL 67 Fh)), (h_s, .inl (cI, 335, .inl f_s)), (h_before, .inl (cI, 24, .inl w2))] H := hP
  have hD : va_D A [(h0, .inr (10, vL 67 Fh)), (h_s, .inl (cI, 335, .inl f_s)), (h_before, .inl (cI, 24, .inl w2))] := hD
  have hl : lv_has ls 2 [(1, .int u1), (0, .ref h0)] := hl
  refine lv_iload_n hx hb dX10_tries_2 rfl (lv_at hl 0 rfl) ?_
  refine lv_bipush (v := 24) hx hb dX10_tries_3 (by decide) ?_
  refine lv_icmp_ge (tgt := 29) hx hb dX10_tries_5 (by decide) (fun c6 => ?_) (fun c6 => ?_)
  · have dc6 : 24 ≤ u1.toInt := le_i (a := 24) (b := u1.toInt) rfl rfl c6
    have k7 : 24 ≤ u1.toInt ∧ u1.toInt ≤ 24 := ⟨Int.le_trans (Int.le_refl _) dc6, i3.2⟩
    exact ret_v hx hb hr hlocks hS hP hD dX10_tries_29 (Nat.le_of_ble_eq_true rfl) (Nat.le_of_ble_eq_true rfl) ⟨w2, i4, i5, rfl⟩
  · have dc6 : u1.toInt < 24 := nle_i (a := 24) (b := u1.toInt) rfl rfl c6
    have k8 : 0 ≤ u1.toInt ∧ u1.toInt ≤ 23 := ⟨i3.1, up_lt dc6 (Int.le_refl _) (by decide)⟩
    refine lv_aload_n hx hb dX10_tries_8 rfl (lv_at hl 1 rfl) ?_
    refine get_f (D := D) (ci := 10) (v := .ref h_before) (C := RX10) (T := TX10) (N := 67) hx hb hw inAX10 hown hK hP 0 rfl rfl 40 (by decide) (hw _ q_1301) (fun _ h9 => h9) e_before dX10_tries_9 ?_
    refine lv_iload_n hx hb dX10_tries_12 rfl (lv_at hl 0 rfl) ?_
    refine lv_aload_n hx hb dX10_tries_13 rfl (lv_at hl 1 rfl) ?_
    refine get_f (D := D) (ci := 10) (v := .ref h_s) (C := RX10) (T := TX10) (N := 67) hx hb hw inAX10 hown hK hP 0 rfl rfl 6 (by decide) (hw _ q_1267) (fun _ h9 => h9) e_s dX10_tries_14 ?_
    refine lv_bipush (v := 104) hx hb dX10_tries_17 (by decide) ?_
    refine lv_iload_n hx hb dX10_tries_19 rfl (lv_at hl 0 rfl) ?_
    refine lv_iadd hx hb dX10_tries_20 ?_
    refine lv_topi (fun v9 ev9 => ?_)
    have bv9 : v9.toInt = 104 + u1.toInt := by rw [ev9]; exact add_k rfl rfl ⟨Int.le_refl _, Int.le_refl _⟩ k8 (by decide)
    have k10 : 104 ≤ v9.toInt ∧ v9.toInt ≤ 127 := add_r bv9 ⟨Int.le_refl _, Int.le_refl _⟩ k8 (by decide)
    refine va_iald hx hb hK hP 1 0 rfl rfl (ix_k k10 (by decide) (by decide)) dX10_tries_21 ?_
    refine lv_topi (fun v11 ev11 => ?_)
    have r12 : IMP (105 ≤ v9.toInt → v9.toInt ≤ 108 → 0 ≤ v11.toInt ∧ v11.toInt ≤ 11) := IMP.mk (fun q1 q2 => by rw [ev11]; exact s_s_105.at _ q1 q2)
    have r13 : IMP (114 ≤ v9.toInt → v9.toInt ≤ 114 → 0 ≤ v11.toInt ∧ v11.toInt ≤ 5) := IMP.mk (fun q1 q2 => by rw [ev11]; exact s_s_114.at _ q1 q2)
    obtain ⟨g14, eg14⟩ : ∃ z : Nat → Int32, upd w2 u1.toNatClampNeg v11 = z := ⟨_, rfl⟩
    have r15 : SG 1 4 0 11 g14 := by rw [← eg14]; exact i4.upI (Int.le_trans (by decide) k8.1) (fun q1 q2 => ⟨Int.le_trans (by decide) (r12.h (by omega) (by omega)).1, Int.le_trans (r12.h (by omega) (by omega)).2 (by decide)⟩)
    have r16 : SG 10 10 0 5 g14 := by rw [← eg14]; exact i5.upI (Int.le_trans (by decide) k8.1) (fun q1 q2 => ⟨Int.le_trans (by decide) (r13.h (by omega) (by omega)).1, Int.le_trans (r13.h (by omega) (by omega)).2 (by decide)⟩)
    refine iast_g hx hb hK hP hD hS 2 0 rfl rfl (ix_k k8 (by decide) (by decide)) eg14 dX10_tries_22 (fun H locs hP hD hS => ?_)
    have hP : va_P D vwCl [(h0, .inr (10, vL 67 Fh)), (h_s, .inl (cI, 335, .inl f_s)), (h_before, .inl (cI, 24, .inl g14))] H := hP
    have hD : va_D A [(h0, .inr (10, vL 67 Fh)), (h_s, .inl (cI, 335, .inl f_s)), (h_before, .inl (cI, 24, .inl g14))] := hD
    obtain ⟨v17, ev17⟩ : ∃ z : Int32, z = u1 + 1 := ⟨_, rfl⟩
    have bv17 : v17.toInt = u1.toInt + 1 := by rw [ev17]; exact add_k rfl rfl k8 ⟨Int.le_refl _, Int.le_refl _⟩ (by decide)
    have k18 : 1 ≤ v17.toInt ∧ v17.toInt ≤ 24 := add_r bv17 k8 ⟨Int.le_refl _, Int.le_refl _⟩ (by decide)
    refine lv_iinc (v := v17) (lv' := [(1, .int v17), (0, .ref h0)]) hx hb dX10_tries_23 hl (k := 0) rfl (by rw [ev17]; rfl) (by decide) rfl (fun ls hl => ?_)
    refine lv_goto (tgt := 2) hx hb dX10_tries_26 (by decide) ?_
    exact ih (v17, g14) ⟨(ir_wk k18 (by decide) (by decide)), r15, r16⟩ (by show (24 - v17.toInt).toNat < (24 - u1.toInt).toNat; omega) _ _ _ hP hD hS (lv_sub hl [0, 1] rfl)
set_option maxHeartbeats 4000000 in
set_option maxRecDepth 100000 in
theorem m_X10_back (l : Launch) (D : va_G) (cI cJ cB cP cM cZ : ClassId) (h0 : Nat) (h_s : Nat) (h_before : Nat) (Fh : Nat → Value) (f_s : Nat → Int32) (f_before : Nat → Int32) (sz : Nat) (e_s : Fh 6 = .ref h_s) (e_before : Fh 40 = .ref h_before) (s_s_K0 : KW 0 f_s) (s_s_0 : SG 0 0 0 40 f_s) (s_s_105 : SG 105 108 0 11 f_s) (s_s_114 : SG 114 114 0 5 f_s) (s_s_130 : SG 130 133 0 11 f_s) (s_s_139 : SG 139 139 0 5 f_s) (s_s_153 : SG 153 153 0 44 f_s) (s_s_44 : SG 44 55 0 9 f_s) (s_s_5 : SG 5 5 0 12 f_s) (s_s_6 : SG 6 6 0 12 f_s) (s_s_7 : SG 7 7 0 6 f_s) (s_before_1 : SG 1 4 0 11 f_before) (s_before_10 : SG 10 10 0 5 f_before) : CV l yX10_back cX10_back 2 none { frames := 0, cells := 0, slots := 0, locals := 0 } (GG D cI cJ cB cP cM cZ) D [(h0, .inr (10, vL 67 Fh)), (h_s, .inl (cI, 335, .inl f_s)), (h_before, .inl (cI, 24, .inl f_before))] sz [.ref h0] (fun (u : va_W) => ∃ (g_s : Nat → Int32), SG 153 153 0 44 g_s ∧ SG 0 0 0 40 g_s ∧ SG 5 5 0 12 g_s ∧ SG 6 6 0 12 g_s ∧ SG 7 7 0 6 g_s ∧ SG 44 55 0 9 g_s ∧ KW 0 g_s ∧ SG 105 108 0 11 g_s ∧ SG 114 114 0 5 g_s ∧ SG 130 133 0 11 g_s ∧ SG 139 139 0 5 g_s ∧ u = [(h0, .inr (10, vL 67 Fh)), (h_s, .inl (cI, 335, .inl g_s)), (h_before, .inl (cI, 24, .inl f_before))]) := by
  refine CV_mk (by decide) (Nat.le_of_ble_eq_true rfl) ?_
  intro p e s m below meth c A ls E hAe hG hsz hP hD hA hS hl
  obtain ⟨hx, hb, hr, hw, hown, hlocks, hml, hnm⟩ := E
  have hK := hG.1
  have hl : lv_has ls 2 [(0, .ref h0)] := hl
  refine lv_iconst (v := 0) hx hb dX10_back_0 (by decide) ?_
  refine lv_istore_n (lv' := [(1, .int 0), (0, .ref h0)]) hx hb dX10_back_1 rfl hl (by decide) rfl (fun ls hl => ?_)
  refine mloop (α := (Int32) × (Nat → Int32)) (nL := 2) (D := D) (A := A) (H0 := s.heap) (fun a => (24 - a.1.toInt).toNat) (fun a => IR 0 24 a.1 ∧ KW 0 a.2 ∧ SG 0 0 0 40 a.2 ∧ SG 105 108 0 11 a.2 ∧ SG 114 114 0 5 a.2 ∧ SG 130 133 0 11 a.2 ∧ SG 139 139 0 5 a.2 ∧ SG 153 153 0 44 a.2 ∧ SG 44 55 0 9 a.2 ∧ SG 5 5 0 12 a.2 ∧ SG 6 6 0 12 a.2 ∧ SG 7 7 0 6 a.2) (fun a => [(h0, .inr (10, vL 67 Fh)), (h_s, .inl (cI, 335, .inl a.2)), (h_before, .inl (cI, 24, .inl f_before))]) (fun a => [(1, .int a.1), (0, .ref h0)]) (fun H locs ls => W p l e ({ frames := 0, cells := 0, slots := 0, locals := 0 } : Room) s m [.ref h0].toArray below meth c H locs 0 0 (MQ below (va_Qv (fun (u : va_W) => ∃ (g_s : Nat → Int32), SG 153 153 0 44 g_s ∧ SG 0 0 0 40 g_s ∧ SG 5 5 0 12 g_s ∧ SG 6 6 0 12 g_s ∧ SG 7 7 0 6 g_s ∧ SG 44 55 0 9 g_s ∧ KW 0 g_s ∧ SG 105 108 0 11 g_s ∧ SG 114 114 0 5 g_s ∧ SG 130 133 0 11 g_s ∧ SG 139 139 0 5 g_s ∧ u = [(h0, .inr (10, vL 67 Fh)), (h_s, .inl (cI, 335, .inl g_s)), (h_before, .inl (cI, 24, .inl f_before))]) (PO D A) A) [.ref h0].toArray s 0 0 A) (F0 m 2 ls [])) ?_ (0, f_s) ⟨(show 0 ≤ (0 : Int32).toInt ∧ (0 : Int32).toInt ≤ 24 by decide), s_s_K0, s_s_0, s_s_105, s_s_114, s_s_130, s_s_139, s_s_153, s_s_44, s_s_5, s_s_6, s_s_7⟩ _ _ _ hP hD hS hl
  rintro ⟨u1, w2⟩ ⟨i3, i4, i5, i6, i7, i8, i9, i10, i11, i12, i13, i14⟩ ih H locs ls hP hD hS hl
  have i3 : 0 ≤ u1.toInt ∧ u1.toInt ≤ 24 := i3
  have hP : va_P D vwCl [(h0, .inr (10, vL 67 Fh)), (h_s, .inl (cI, 335, .inl w2)), (h_before, .inl (cI, 24, .inl f_before))] H := hP
  have hD : va_D A [(h0, .inr (10, vL 67 Fh)), (h_s, .inl (cI, 335, .inl w2)), (h_before, .inl (cI, 24, .inl f_before))] := hD
  have hl : lv_has ls 2 [(1, .int u1), (0, .ref h0)] := hl
  refine lv_iload_n hx hb dX10_back_2 rfl (lv_at hl 0 rfl) ?_
  refine lv_bipush (v := 24) hx hb dX10_back_3 (by decide) ?_
  refine lv_icmp_ge (tgt := 29) hx hb dX10_back_5 (by decide) (fun c15 => ?_) (fun c15 => ?_)
  · have dc15 : 24 ≤ u1.toInt := le_i (a := 24) (b := u1.toInt) rfl rfl c15
    have k16 : 24 ≤ u1.toInt ∧ u1.toInt ≤ 24 := ⟨Int.le_trans (Int.le_refl _) dc15, i3.2⟩
    exact ret_v hx hb hr hlocks hS hP hD dX10_back_29 (Nat.le_of_ble_eq_true rfl) (Nat.le_of_ble_eq_true rfl) ⟨w2, i10, i5, i12, i13, i14, i11, i4, i6, i7, i8, i9, rfl⟩
  · have dc15 : u1.toInt < 24 := nle_i (a := 24) (b := u1.toInt) rfl rfl c15
    have k17 : 0 ≤ u1.toInt ∧ u1.toInt ≤ 23 := ⟨i3.1, up_lt dc15 (Int.le_refl _) (by decide)⟩
    refine lv_aload_n hx hb dX10_back_8 rfl (lv_at hl 1 rfl) ?_
    refine get_f (D := D) (ci := 10) (v := .ref h_s) (C := RX10) (T := TX10) (N := 67) hx hb hw inAX10 hown hK hP 0 rfl rfl 6 (by decide) (hw _ q_1267) (fun _ h9 => h9) e_s dX10_back_9 ?_
    refine lv_bipush (v := 104) hx hb dX10_back_12 (by decide) ?_
    refine lv_iload_n hx hb dX10_back_14 rfl (lv_at hl 0 rfl) ?_
    refine lv_iadd hx hb dX10_back_15 ?_
    refine lv_topi (fun v18 ev18 => ?_)
    have bv18 : v18.toInt = 104 + u1.toInt := by rw [ev18]; exact add_k rfl rfl ⟨Int.le_refl _, Int.le_refl _⟩ k17 (by decide)
    have k19 : 104 ≤ v18.toInt ∧ v18.toInt ≤ 127 := add_r bv18 ⟨Int.le_refl _, Int.le_refl _⟩ k17 (by decide)
    refine lv_aload_n hx hb dX10_back_16 rfl (lv_at hl 1 rfl) ?_
    refine get_f (D := D) (ci := 10) (v := .ref h_before) (C := RX10) (T := TX10) (N := 67) hx hb hw inAX10 hown hK hP 0 rfl rfl 40 (by decide) (hw _ q_1301) (fun _ h9 => h9) e_before dX10_back_17 ?_
    refine lv_iload_n hx hb dX10_back_20 rfl (lv_at hl 0 rfl) ?_
    refine va_iald hx hb hK hP 2 0 rfl rfl (ix_k k17 (by decide) (by decide)) dX10_back_21 ?_
    refine lv_topi (fun v20 ev20 => ?_)
    have r21 : IMP (1 ≤ u1.toInt → u1.toInt ≤ 4 → 0 ≤ v20.toInt ∧ v20.toInt ≤ 11) := IMP.mk (fun q1 q2 => by rw [ev20]; exact s_before_1.at _ q1 q2)
    have r22 : IMP (10 ≤ u1.toInt → u1.toInt ≤ 10 → 0 ≤ v20.toInt ∧ v20.toInt ≤ 5) := IMP.mk (fun q1 q2 => by rw [ev20]; exact s_before_10.at _ q1 q2)
    obtain ⟨g23, eg23⟩ : ∃ z : Nat → Int32, upd w2 v18.toNatClampNeg v20 = z := ⟨_, rfl⟩
    have r24 : KW 0 g23 := by rw [← eg23]; exact i4.up (Int.le_trans (by decide) k19.1) (Or.inl (lt_dec k19.2 (by decide)))
    have r25 : SG 0 0 0 40 g23 := by rw [← eg23]; exact i5.up (Int.le_trans (by decide) k19.1) (Or.inr (Or.inl (dec_lt k19.1 (by decide))))
    have r26 : SG 105 108 0 11 g23 := by rw [← eg23]; exact i6.upI (Int.le_trans (by decide) k19.1) (fun q1 q2 => ⟨Int.le_trans (by decide) (r21.h (by omega) (by omega)).1, Int.le_trans (r21.h (by omega) (by omega)).2 (by decide)⟩)
    have r27 : SG 114 114 0 5 g23 := by rw [← eg23]; exact i7.upI (Int.le_trans (by decide) k19.1) (fun q1 q2 => ⟨Int.le_trans (by decide) (r22.h (by omega) (by omega)).1, Int.le_trans (r22.h (by omega) (by omega)).2 (by decide)⟩)
    have r28 : SG 130 133 0 11 g23 := by rw [← eg23]; exact i8.up (Int.le_trans (by decide) k19.1) (Or.inl (lt_dec k19.2 (by decide)))
    have r29 : SG 139 139 0 5 g23 := by rw [← eg23]; exact i9.up (Int.le_trans (by decide) k19.1) (Or.inl (lt_dec k19.2 (by decide)))
    have r30 : SG 153 153 0 44 g23 := by rw [← eg23]; exact i10.up (Int.le_trans (by decide) k19.1) (Or.inl (lt_dec k19.2 (by decide)))
    have r31 : SG 44 55 0 9 g23 := by rw [← eg23]; exact i11.up (Int.le_trans (by decide) k19.1) (Or.inr (Or.inl (dec_lt k19.1 (by decide))))
    have r32 : SG 5 5 0 12 g23 := by rw [← eg23]; exact i12.up (Int.le_trans (by decide) k19.1) (Or.inr (Or.inl (dec_lt k19.1 (by decide))))
    have r33 : SG 6 6 0 12 g23 := by rw [← eg23]; exact i13.up (Int.le_trans (by decide) k19.1) (Or.inr (Or.inl (dec_lt k19.1 (by decide))))
    have r34 : SG 7 7 0 6 g23 := by rw [← eg23]; exact i14.up (Int.le_trans (by decide) k19.1) (Or.inr (Or.inl (dec_lt k19.1 (by decide))))
    refine iast_g hx hb hK hP hD hS 1 0 rfl rfl (ix_k k19 (by decide) (by decide)) eg23 dX10_back_22 (fun H locs hP hD hS => ?_)
    have hP : va_P D vwCl [(h0, .inr (10, vL 67 Fh)), (h_s, .inl (cI, 335, .inl g23)), (h_before, .inl (cI, 24, .inl f_before))] H := hP
    have hD : va_D A [(h0, .inr (10, vL 67 Fh)), (h_s, .inl (cI, 335, .inl g23)), (h_before, .inl (cI, 24, .inl f_before))] := hD
    obtain ⟨v35, ev35⟩ : ∃ z : Int32, z = u1 + 1 := ⟨_, rfl⟩
    have bv35 : v35.toInt = u1.toInt + 1 := by rw [ev35]; exact add_k rfl rfl k17 ⟨Int.le_refl _, Int.le_refl _⟩ (by decide)
    have k36 : 1 ≤ v35.toInt ∧ v35.toInt ≤ 24 := add_r bv35 k17 ⟨Int.le_refl _, Int.le_refl _⟩ (by decide)
    refine lv_iinc (v := v35) (lv' := [(1, .int v35), (0, .ref h0)]) hx hb dX10_back_23 hl (k := 0) rfl (by rw [ev35]; rfl) (by decide) rfl (fun ls hl => ?_)
    refine lv_goto (tgt := 2) hx hb dX10_back_26 (by decide) ?_
    exact ih (v35, g23) ⟨(ir_wk k36 (by decide) (by decide)), r24, r25, r26, r27, r28, r29, r30, r31, r32, r33, r34⟩ (by show (24 - v35.toInt).toNat < (24 - u1.toInt).toNat; omega) _ _ _ hP hD hS (lv_sub hl [0, 1] rfl)
set_option maxHeartbeats 4000000 in
set_option maxRecDepth 100000 in
theorem m_X10_becomes (l : Launch) (D : va_G) (cI cJ cB cP cM cZ : ClassId) (h0 : Nat) (h_s : Nat) (h_undone : Nat) (Fh : Nat → Value) (x_undoMany : Int32) (f_s : Nat → Int32) (f_undone : Nat → Int32) (p0 : Int32) (p1 : Int32) (sz : Nat) (e_s : Fh 6 = .ref h_s) (e_undone : Fh 39 = .ref h_undone) (e_undoMany : Fh 41 = .int x_undoMany) (i_x_undoMany : IR 0 8 x_undoMany) (s_s_K0 : KW 0 f_s) (s_s_0 : SG 0 0 0 40 f_s) (s_s_105 : SG 105 108 0 11 f_s) (s_s_114 : SG 114 114 0 5 f_s) (s_s_130 : SG 130 133 0 11 f_s) (s_s_139 : SG 139 139 0 5 f_s) (s_s_153 : SG 153 153 0 44 f_s) (s_s_44 : SG 44 55 0 9 f_s) (s_s_5 : SG 5 5 0 12 f_s) (s_s_6 : SG 6 6 0 12 f_s) (s_s_7 : SG 7 7 0 6 f_s) (s_undone_1 : SG 1 4 0 11 f_undone) (s_undone_10 : SG 10 10 0 5 f_undone) (s_undone_106 : SG 106 106 0 5 f_undone) (s_undone_121 : SG 121 124 0 11 f_undone) (s_undone_130 : SG 130 130 0 5 f_undone) (s_undone_145 : SG 145 148 0 11 f_undone) (s_undone_154 : SG 154 154 0 5 f_undone) (s_undone_169 : SG 169 172 0 11 f_undone) (s_undone_178 : SG 178 178 0 5 f_undone) (s_undone_25 : SG 25 28 0 11 f_undone) (s_undone_34 : SG 34 34 0 5 f_undone) (s_undone_49 : SG 49 52 0 11 f_undone) (s_undone_58 : SG 58 58 0 5 f_undone) (s_undone_73 : SG 73 76 0 11 f_undone) (s_undone_82 : SG 82 82 0 5 f_undone) (s_undone_97 : SG 97 100 0 11 f_undone) (i_p0 : IR 0 334 p0) (z_0 : p0.toInt = 113 ∨ p0.toInt = 115 ∨ (109 ≤ p0.toInt ∧ p0.toInt ≤ 112) ∨ (116 ≤ p0.toInt ∧ p0.toInt ≤ 127) ∨ (p0.toInt = 114 ∧ 0 ≤ p1.toInt ∧ p1.toInt ≤ 5)) : CI l yX10_becomes cX10_becomes 3 (some .boolean) { frames := 1, cells := 0, slots := 0, locals := 21 } (GG D cI cJ cB cP cM cZ) D [(h0, .inr (10, vL 67 Fh)), (h_s, .inl (cI, 335, .inl f_s)), (h_undone, .inl (cI, 192, .inl f_undone))] sz [.ref h0, .int p0, .int p1] (fun (r : Int32) (u : va_W) => ∃ (Gh : Nat → Value) (y_undoMany : Int32) (g_s : Nat → Int32) (g_undone : Nat → Int32), SAME [41] Fh Gh ∧ Gh 41 = .int y_undoMany ∧ IR 0 8 y_undoMany ∧ SG 153 153 0 44 g_s ∧ SG 0 0 0 40 g_s ∧ SG 5 5 0 12 g_s ∧ SG 6 6 0 12 g_s ∧ SG 7 7 0 6 g_s ∧ SG 44 55 0 9 g_s ∧ KW 0 g_s ∧ SG 105 108 0 11 g_s ∧ SG 114 114 0 5 g_s ∧ SG 130 133 0 11 g_s ∧ SG 139 139 0 5 g_s ∧ SG 1 4 0 11 g_undone ∧ SG 10 10 0 5 g_undone ∧ SG 25 28 0 11 g_undone ∧ SG 34 34 0 5 g_undone ∧ SG 49 52 0 11 g_undone ∧ SG 58 58 0 5 g_undone ∧ SG 73 76 0 11 g_undone ∧ SG 82 82 0 5 g_undone ∧ SG 97 100 0 11 g_undone ∧ SG 106 106 0 5 g_undone ∧ SG 121 124 0 11 g_undone ∧ SG 130 130 0 5 g_undone ∧ SG 145 148 0 11 g_undone ∧ SG 154 154 0 5 g_undone ∧ SG 169 172 0 11 g_undone ∧ SG 178 178 0 5 g_undone ∧ IR 0 1 r ∧ u = [(h0, .inr (10, vL 67 Gh)), (h_s, .inl (cI, 335, .inl g_s)), (h_undone, .inl (cI, 192, .inl g_undone))]) := by
  refine CI_mk (by decide) (Nat.le_of_ble_eq_true rfl) ?_
  intro p e s m below meth c A ls E hAe hG hsz hP hD hA hS hl
  obtain ⟨hx, hb, hr, hw, hown, hlocks, hml, hnm⟩ := E
  have hK := hG.1
  have i_x_undoMany : 0 ≤ x_undoMany.toInt ∧ x_undoMany.toInt ≤ 8 := i_x_undoMany
  have i_p0 : 0 ≤ p0.toInt ∧ p0.toInt ≤ 334 := i_p0
  have hl : lv_has ls 3 [(0, .ref h0), (1, .int p0), (2, .int p1)] := hl
  refine lv_aload_n hx hb dX10_becomes_0 rfl (lv_at hl 0 rfl) ?_
  refine get_f (D := D) (ci := 10) (v := .ref h_s) (C := RX10) (T := TX10) (N := 67) hx hb hw inAX10 hown hK hP 0 rfl rfl 6 (by decide) (hw _ q_1267) (fun _ h9 => h9) e_s dX10_becomes_1 ?_
  refine lv_iload_n hx hb dX10_becomes_4 rfl (lv_at hl 1 rfl) ?_
  refine va_iald hx hb hK hP 1 0 rfl rfl (ix_k i_p0 (by decide) (by decide)) dX10_becomes_5 ?_
  refine lv_topi (fun v1 ev1 => ?_)
  have r2 : IMP (0 ≤ p0.toInt → p0.toInt ≤ 0 → 0 ≤ v1.toInt ∧ v1.toInt ≤ 40) := IMP.mk (fun q1 q2 => by rw [ev1]; exact s_s_0.at _ q1 q2)
  have r3 : IMP (105 ≤ p0.toInt → p0.toInt ≤ 108 → 0 ≤ v1.toInt ∧ v1.toInt ≤ 11) := IMP.mk (fun q1 q2 => by rw [ev1]; exact s_s_105.at _ q1 q2)
  have r4 : IMP (114 ≤ p0.toInt → p0.toInt ≤ 114 → 0 ≤ v1.toInt ∧ v1.toInt ≤ 5) := IMP.mk (fun q1 q2 => by rw [ev1]; exact s_s_114.at _ q1 q2)
  have r5 : IMP (130 ≤ p0.toInt → p0.toInt ≤ 133 → 0 ≤ v1.toInt ∧ v1.toInt ≤ 11) := IMP.mk (fun q1 q2 => by rw [ev1]; exact s_s_130.at _ q1 q2)
  have r6 : IMP (139 ≤ p0.toInt → p0.toInt ≤ 139 → 0 ≤ v1.toInt ∧ v1.toInt ≤ 5) := IMP.mk (fun q1 q2 => by rw [ev1]; exact s_s_139.at _ q1 q2)
  have r7 : IMP (153 ≤ p0.toInt → p0.toInt ≤ 153 → 0 ≤ v1.toInt ∧ v1.toInt ≤ 44) := IMP.mk (fun q1 q2 => by rw [ev1]; exact s_s_153.at _ q1 q2)
  have r8 : IMP (44 ≤ p0.toInt → p0.toInt ≤ 55 → 0 ≤ v1.toInt ∧ v1.toInt ≤ 9) := IMP.mk (fun q1 q2 => by rw [ev1]; exact s_s_44.at _ q1 q2)
  have r9 : IMP (5 ≤ p0.toInt → p0.toInt ≤ 5 → 0 ≤ v1.toInt ∧ v1.toInt ≤ 12) := IMP.mk (fun q1 q2 => by rw [ev1]; exact s_s_5.at _ q1 q2)
  have r10 : IMP (6 ≤ p0.toInt → p0.toInt ≤ 6 → 0 ≤ v1.toInt ∧ v1.toInt ≤ 12) := IMP.mk (fun q1 q2 => by rw [ev1]; exact s_s_6.at _ q1 q2)
  have r11 : IMP (7 ≤ p0.toInt → p0.toInt ≤ 7 → 0 ≤ v1.toInt ∧ v1.toInt ≤ 6) := IMP.mk (fun q1 q2 => by rw [ev1]; exact s_s_7.at _ q1 q2)
  refine lv_iload_n hx hb dX10_becomes_6 rfl (lv_at hl 2 rfl) ?_
  refine lv_icmp_ne (tgt := 12) hx hb dX10_becomes_7 (by decide) (fun c12 => ?_) (fun c12 => ?_)
  · have dc12 : v1.toInt ≠ p1.toInt := ne_i (a := v1.toInt) (b := p1.toInt) rfl rfl c12
    refine lv_aload_n hx hb dX10_becomes_12 rfl (lv_at hl 0 rfl) ?_
    refine call_Vv (wr := []) (As := []) (rest := []) hx hb hml hown hw (m_X10_keeps l D cI cJ cB cP cM cZ h0 h_s h_undone Fh x_undoMany f_s f_undone _ e_s e_undone e_undoMany i_x_undoMany s_s_K0 s_s_0 s_s_105 s_s_114 s_s_130 s_s_139 s_s_153 s_s_44 s_s_5 s_s_6 s_s_7 s_undone_1 s_undone_10 s_undone_106 s_undone_121 s_undone_130 s_undone_145 s_undone_154 s_undone_169 s_undone_178 s_undone_25 s_undone_34 s_undone_49 s_undone_58 s_undone_73 s_undone_82 s_undone_97) wV_X10_371_X10_keeps dX10_becomes_13 hK hP hD hS hA [0, 1, 2] [] rfl rfl (by decide) (by decide) (by decide) 0 10 rfl rfl GG.fb hG.at hl.1 rfl (Nat.le_of_ble_eq_true rfl) ⟨(Nat.le_of_ble_eq_true rfl), (Nat.le_of_ble_eq_true rfl)⟩ ⟨(Nat.le_of_ble_eq_true rfl), (Nat.le_of_ble_eq_true rfl)⟩ (fun u H locs hp hP hD hS => ?_)
    obtain ⟨F14, y15, g16, t17, t18, t19, t20, t21, t22, t23, t24, t25, t26, t27, t28, t29, t30, t31, t32, t33, t34, t35, rfl⟩ := hp
    have hP : va_P D vwCl [(h0, .inr (10, vL 67 F14)), (h_s, .inl (cI, 335, .inl f_s)), (h_undone, .inl (cI, 192, .inl g16))] H := hP
    have hD : va_D A [(h0, .inr (10, vL 67 F14)), (h_s, .inl (cI, 335, .inl f_s)), (h_undone, .inl (cI, 192, .inl g16))] := hD
    refine W.widen (k := 0) (n := 0) (Nat.le_of_ble_eq_true rfl) (Nat.le_of_ble_eq_true rfl) ?_
    refine lv_aload_n hx hb dX10_becomes_16 rfl (lv_at hl 0 rfl) ?_
    have n37 : F14 6 = .ref h_s := (SAME.at t17 (by decide) e_s)
    refine get_f (D := D) (ci := 10) (v := .ref h_s) (C := RX10) (T := TX10) (N := 67) hx hb hw inAX10 hown hK hP 0 rfl rfl 6 (by decide) (hw _ q_1267) (fun _ h9 => h9) n37 dX10_becomes_17 ?_
    refine lv_iload_n hx hb dX10_becomes_20 rfl (lv_at hl 1 rfl) ?_
    refine lv_iload_n hx hb dX10_becomes_21 rfl (lv_at hl 2 rfl) ?_
    obtain ⟨g38, eg38⟩ : ∃ z : Nat → Int32, upd f_s p0.toNatClampNeg p1 = z := ⟨_, rfl⟩
    have r39 : KW 0 g38 := by rw [← eg38]; exact s_s_K0.up (by omega) (by omega)
    have r40 : SG 0 0 0 40 g38 := by rw [← eg38]; exact s_s_0.up (Int.le_trans (by decide) i_p0.1) (by omega)
    have r41 : SG 105 108 0 11 g38 := by rw [← eg38]; exact s_s_105.up (Int.le_trans (by decide) i_p0.1) (by omega)
    have r42 : SG 114 114 0 5 g38 := by rw [← eg38]; exact s_s_114.up (Int.le_trans (by decide) i_p0.1) (by omega)
    have r43 : SG 130 133 0 11 g38 := by rw [← eg38]; exact s_s_130.up (Int.le_trans (by decide) i_p0.1) (by omega)
    have r44 : SG 139 139 0 5 g38 := by rw [← eg38]; exact s_s_139.up (Int.le_trans (by decide) i_p0.1) (by omega)
    have r45 : SG 153 153 0 44 g38 := by rw [← eg38]; exact s_s_153.up (Int.le_trans (by decide) i_p0.1) (by omega)
    have r46 : SG 44 55 0 9 g38 := by rw [← eg38]; exact s_s_44.up (Int.le_trans (by decide) i_p0.1) (by omega)
    have r47 : SG 5 5 0 12 g38 := by rw [← eg38]; exact s_s_5.up (Int.le_trans (by decide) i_p0.1) (by omega)
    have r48 : SG 6 6 0 12 g38 := by rw [← eg38]; exact s_s_6.up (Int.le_trans (by decide) i_p0.1) (by omega)
    have r49 : SG 7 7 0 6 g38 := by rw [← eg38]; exact s_s_7.up (Int.le_trans (by decide) i_p0.1) (by omega)
    refine iast_g hx hb hK hP hD hS 1 0 rfl rfl (ix_k i_p0 (by decide) (by decide)) eg38 dX10_becomes_22 (fun H locs hP hD hS => ?_)
    have hP : va_P D vwCl [(h0, .inr (10, vL 67 F14)), (h_s, .inl (cI, 335, .inl g38)), (h_undone, .inl (cI, 192, .inl g16))] H := hP
    have hD : va_D A [(h0, .inr (10, vL 67 F14)), (h_s, .inl (cI, 335, .inl g38)), (h_undone, .inl (cI, 192, .inl g16))] := hD
    refine lv_iconst (v := 1) hx hb dX10_becomes_23 (by decide) ?_
    exact ret_i (v := 1) hx hb hr hlocks hS hP hD dX10_becomes_24 rfl (Nat.le_of_ble_eq_true rfl) (Nat.le_of_ble_eq_true rfl) ⟨F14, y15, g38, g16, (SAME.tr SAME.rf t17 (by decide)), t18, (ir_wk t19 (by decide) (by decide)), r45, r40, r47, r48, r49, r46, r39, r41, r42, r43, r44, t20, t21, t22, t23, t24, t25, t26, t27, t28, t29, t30, t31, t32, t33, t34, t35, (show 0 ≤ (1 : Int32).toInt ∧ (1 : Int32).toInt ≤ 1 by decide), rfl⟩
  · have dc12 : v1.toInt = p1.toInt := eq_i (a := v1.toInt) (b := p1.toInt) rfl rfl c12
    refine lv_iconst (v := 0) hx hb dX10_becomes_10 (by decide) ?_
    exact ret_i (v := 0) hx hb hr hlocks hS hP hD dX10_becomes_11 rfl (Nat.le_of_ble_eq_true rfl) (Nat.le_of_ble_eq_true rfl) ⟨Fh, x_undoMany, f_s, f_undone, SAME.rf, e_undoMany, i_x_undoMany, s_s_153, s_s_0, s_s_5, s_s_6, s_s_7, s_s_44, s_s_K0, s_s_105, s_s_114, s_s_130, s_s_139, s_undone_1, s_undone_10, s_undone_25, s_undone_34, s_undone_49, s_undone_58, s_undone_73, s_undone_82, s_undone_97, s_undone_106, s_undone_121, s_undone_130, s_undone_145, s_undone_154, s_undone_169, s_undone_178, (show 0 ≤ (0 : Int32).toInt ∧ (0 : Int32).toInt ≤ 1 by decide), rfl⟩
set_option maxHeartbeats 4000000 in
set_option maxRecDepth 100000 in
theorem m_X10_jump (l : Launch) (D : va_G) (cI cJ cB cP cM cZ : ClassId) (h0 : Nat) (h_s : Nat) (h_undone : Nat) (Fh : Nat → Value) (x_undoMany : Int32) (f_s : Nat → Int32) (f_undone : Nat → Int32) (p0 : Int32) (p1 : Int32) (sz : Nat) (e_s : Fh 6 = .ref h_s) (e_undone : Fh 39 = .ref h_undone) (e_undoMany : Fh 41 = .int x_undoMany) (i_x_undoMany : IR 0 8 x_undoMany) (s_s_K0 : KW 0 f_s) (s_s_0 : SG 0 0 0 40 f_s) (s_s_105 : SG 105 108 0 11 f_s) (s_s_114 : SG 114 114 0 5 f_s) (s_s_130 : SG 130 133 0 11 f_s) (s_s_139 : SG 139 139 0 5 f_s) (s_s_153 : SG 153 153 0 44 f_s) (s_s_44 : SG 44 55 0 9 f_s) (s_s_5 : SG 5 5 0 12 f_s) (s_s_6 : SG 6 6 0 12 f_s) (s_s_7 : SG 7 7 0 6 f_s) (s_undone_1 : SG 1 4 0 11 f_undone) (s_undone_10 : SG 10 10 0 5 f_undone) (s_undone_106 : SG 106 106 0 5 f_undone) (s_undone_121 : SG 121 124 0 11 f_undone) (s_undone_130 : SG 130 130 0 5 f_undone) (s_undone_145 : SG 145 148 0 11 f_undone) (s_undone_154 : SG 154 154 0 5 f_undone) (s_undone_169 : SG 169 172 0 11 f_undone) (s_undone_178 : SG 178 178 0 5 f_undone) (s_undone_25 : SG 25 28 0 11 f_undone) (s_undone_34 : SG 34 34 0 5 f_undone) (s_undone_49 : SG 49 52 0 11 f_undone) (s_undone_58 : SG 58 58 0 5 f_undone) (s_undone_73 : SG 73 76 0 11 f_undone) (s_undone_82 : SG 82 82 0 5 f_undone) (s_undone_97 : SG 97 100 0 11 f_undone) : CI l yX10_jump cX10_jump 3 (some .boolean) { frames := 2, cells := 0, slots := 0, locals := 43 } (GG D cI cJ cB cP cM cZ) D [(h0, .inr (10, vL 67 Fh)), (h_s, .inl (cI, 335, .inl f_s)), (h_undone, .inl (cI, 192, .inl f_undone))] sz [.ref h0, .int p0, .int p1] (fun (r : Int32) (u : va_W) => ∃ (Gh : Nat → Value) (y_undoMany : Int32) (g_s : Nat → Int32) (g_undone : Nat → Int32), SAME [0, 41] Fh Gh ∧ Gh 0 = .int 0 ∧ Gh 41 = .int y_undoMany ∧ IR 0 8 y_undoMany ∧ SG 153 153 0 44 g_s ∧ SG 0 0 0 40 g_s ∧ SG 5 5 0 12 g_s ∧ SG 6 6 0 12 g_s ∧ SG 7 7 0 6 g_s ∧ SG 44 55 0 9 g_s ∧ KW 0 g_s ∧ SG 105 108 0 11 g_s ∧ SG 114 114 0 5 g_s ∧ SG 130 133 0 11 g_s ∧ SG 139 139 0 5 g_s ∧ SG 1 4 0 11 g_undone ∧ SG 10 10 0 5 g_undone ∧ SG 25 28 0 11 g_undone ∧ SG 34 34 0 5 g_undone ∧ SG 49 52 0 11 g_undone ∧ SG 58 58 0 5 g_undone ∧ SG 73 76 0 11 g_undone ∧ SG 82 82 0 5 g_undone ∧ SG 97 100 0 11 g_undone ∧ SG 106 106 0 5 g_undone ∧ SG 121 124 0 11 g_undone ∧ SG 130 130 0 5 g_undone ∧ SG 145 148 0 11 g_undone ∧ SG 154 154 0 5 g_undone ∧ SG 169 172 0 11 g_undone ∧ SG 178 178 0 5 g_undone ∧ IR 0 1 r ∧ u = [(h0, .inr (10, vL 67 Gh)), (h_s, .inl (cI, 335, .inl g_s)), (h_undone, .inl (cI, 192, .inl g_undone))]) := by
  refine CI_mk (by decide) (Nat.le_of_ble_eq_true rfl) ?_
  intro p e s m below meth c A ls E hAe hG hsz hP hD hA hS hl
  obtain ⟨hx, hb, hr, hw, hown, hlocks, hml, hnm⟩ := E
  have hK := hG.1
  have i_x_undoMany : 0 ≤ x_undoMany.toInt ∧ x_undoMany.toInt ≤ 8 := i_x_undoMany
  have hl : lv_has ls 3 [(0, .ref h0), (1, .int p0), (2, .int p1)] := hl
  refine lv_aload_n hx hb dX10_jump_0 rfl (lv_at hl 0 rfl) ?_
  refine lv_iconst (v := 0) hx hb dX10_jump_1 (by decide) ?_
  refine put_f (D := D) (ci := 10) (v := .int 0) (ty := .int) (C := RX10) (T := TX10) (N := 67) hx hb hw inAX10 tyX10 tyX10_ok nmX10 hown hK hP hD hS 0 rfl rfl 0 (by decide) (hw _ q_1261) (fun _ h9 => h9) rfl (by decide +kernel) rfl rfl dX10_jump_2 (fun H locs F1 eF1 hP hD hS => ?_)
  have hP : va_P D vwCl [(h0, .inr (10, vL 67 F1)), (h_s, .inl (cI, 335, .inl f_s)), (h_undone, .inl (cI, 192, .inl f_undone))] H := hP
  have hD : va_D A [(h0, .inr (10, vL 67 F1)), (h_s, .inl (cI, 335, .inl f_s)), (h_undone, .inl (cI, 192, .inl f_undone))] := hD
  refine lv_aload_n hx hb dX10_jump_5 rfl (lv_at hl 0 rfl) ?_
  have n2 : F1 6 = .ref h_s := (get_ne eF1 (by decide) e_s)
  refine call_Vi (wr := [(h_undone, .inl (cI, 192, .inl f_undone))]) (As := []) (rest := []) hx hb hml hown hw (m_X10_hasCrew l D cI cJ cB cP cM cZ h0 h_s F1 f_s _ n2 s_s_K0 s_s_0 s_s_105 s_s_114 s_s_130 s_s_139 s_s_153 s_s_44 s_s_5 s_s_6 s_s_7) wV_X10_281_X10_hasCrew dX10_jump_6 hK hP hD hS hA [0, 1] [2] rfl rfl (by decide) (by decide) (by decide) 0 10 rfl rfl GG.fb hG.at hl.1 rfl (Nat.le_of_ble_eq_true rfl) ⟨(Nat.le_of_ble_eq_true rfl), (Nat.le_of_ble_eq_true rfl)⟩ ⟨(Nat.le_of_ble_eq_true rfl), (Nat.le_of_ble_eq_true rfl)⟩ (fun r3 u H locs hp hP hD hS => ?_)
  rcases hp with ⟨rfl, rfl⟩ | ⟨rfl, rfl⟩
  · have hP : va_P D vwCl [(h_undone, .inl (cI, 192, .inl f_undone)), (h0, .inr (10, vL 67 F1)), (h_s, .inl (cI, 335, .inl f_s))] H := hP
    have hD : va_D A [(h_undone, .inl (cI, 192, .inl f_undone)), (h0, .inr (10, vL 67 F1)), (h_s, .inl (cI, 335, .inl f_s))] := hD
    refine W.widen (k := 0) (n := 0) (Nat.le_of_ble_eq_true rfl) (Nat.le_of_ble_eq_true rfl) ?_
    refine lv_if_eq (tgt := 53) hx hb dX10_jump_9 (by decide) (fun _ => ?_) (fun g => absurd (by decide) g)
    refine lv_iconst (v := 0) hx hb dX10_jump_53 (by decide) ?_
    exact ret_i (v := 0) hx hb hr hlocks hS (hP.sub (ws' := [(h0, .inr (10, vL 67 F1)), (h_s, .inl (cI, 335, .inl f_s)), (h_undone, .inl (cI, 192, .inl f_undone))]) [1, 2, 0] rfl) (hD.sub (ws' := [(h0, .inr (10, vL 67 F1)), (h_s, .inl (cI, 335, .inl f_s)), (h_undone, .inl (cI, 192, .inl f_undone))]) [1, 2, 0] (by decide) rfl) dX10_jump_54 rfl (Nat.le_of_ble_eq_true rfl) (Nat.le_of_ble_eq_true rfl) ⟨F1, x_undoMany, f_s, f_undone, (SAME.up eF1 SAME.rf (by decide)), (get_eq eF1), (get_ne eF1 (by decide) e_undoMany), i_x_undoMany, s_s_153, s_s_0, s_s_5, s_s_6, s_s_7, s_s_44, s_s_K0, s_s_105, s_s_114, s_s_130, s_s_139, s_undone_1, s_undone_10, s_undone_25, s_undone_34, s_undone_49, s_undone_58, s_undone_73, s_undone_82, s_undone_97, s_undone_106, s_undone_121, s_undone_130, s_undone_145, s_undone_154, s_undone_169, s_undone_178, (show 0 ≤ (0 : Int32).toInt ∧ (0 : Int32).toInt ≤ 1 by decide), rfl⟩
  · have hP : va_P D vwCl [(h_undone, .inl (cI, 192, .inl f_undone)), (h0, .inr (10, vL 67 F1)), (h_s, .inl (cI, 335, .inl f_s))] H := hP
    have hD : va_D A [(h_undone, .inl (cI, 192, .inl f_undone)), (h0, .inr (10, vL 67 F1)), (h_s, .inl (cI, 335, .inl f_s))] := hD
    refine W.widen (k := 0) (n := 0) (Nat.le_of_ble_eq_true rfl) (Nat.le_of_ble_eq_true rfl) ?_
    refine lv_if_eq (tgt := 53) hx hb dX10_jump_9 (by decide) (fun g => absurd g (by decide)) (fun _ => ?_)
    refine lv_iload_n hx hb dX10_jump_12 rfl (lv_at hl 1 rfl) ?_
    refine lv_iconst (v := 0) hx hb dX10_jump_13 (by decide) ?_
    refine lv_iconst (v := 3) hx hb dX10_jump_14 (by decide) ?_
    refine call_Si (wr := [(h_undone, .inl (cI, 192, .inl f_undone)), (h0, .inr (10, vL 67 F1)), (h_s, .inl (cI, 335, .inl f_s))]) (As := [.int p0, .int 0, .int 3]) (rest := []) hx hb hml hown hw (m_X10_isIn l D cI cJ cB cP cM cZ p0 0 3 _ ) wS_X10_211_X10_isIn dX10_jump_15 hP hD hS hA [] [0, 1, 2] rfl rfl (by decide) (by decide) (by decide) GG.fb hG.at hl.1 rfl (Nat.le_of_ble_eq_true rfl) ⟨(Nat.le_of_ble_eq_true rfl), (Nat.le_of_ble_eq_true rfl)⟩ ⟨(Nat.le_of_ble_eq_true rfl), (Nat.le_of_ble_eq_true rfl)⟩ (fun r5 u H locs hp hP hD hS => ?_)
    have zl0 : (0 : Int32).toInt = 0 := by decide
    have zl3 : (3 : Int32).toInt = 3 := by decide
    rcases hp with ⟨t6, rfl, rfl⟩ | ⟨t7, t8, rfl, rfl⟩ | ⟨t9, t10, rfl, rfl⟩
    · have hP : va_P D vwCl [(h_undone, .inl (cI, 192, .inl f_undone)), (h0, .inr (10, vL 67 F1)), (h_s, .inl (cI, 335, .inl f_s))] H := hP
      have hD : va_D A [(h_undone, .inl (cI, 192, .inl f_undone)), (h0, .inr (10, vL 67 F1)), (h_s, .inl (cI, 335, .inl f_s))] := hD
      refine W.widen (k := 0) (n := 0) (Nat.le_of_ble_eq_true rfl) (Nat.le_of_ble_eq_true rfl) ?_
      have k12 : (-2147483648) ≤ p0.toInt ∧ p0.toInt ≤ (-1) := ⟨(ir_any _).1, up_lt t6 (Int.le_refl _) (by decide)⟩
      refine lv_if_eq (tgt := 53) hx hb dX10_jump_18 (by decide) (fun _ => ?_) (fun g => absurd (by decide) g)
      refine lv_iconst (v := 0) hx hb dX10_jump_53 (by decide) ?_
      exact ret_i (v := 0) hx hb hr hlocks hS (hP.sub (ws' := [(h0, .inr (10, vL 67 F1)), (h_s, .inl (cI, 335, .inl f_s)), (h_undone, .inl (cI, 192, .inl f_undone))]) [1, 2, 0] rfl) (hD.sub (ws' := [(h0, .inr (10, vL 67 F1)), (h_s, .inl (cI, 335, .inl f_s)), (h_undone, .inl (cI, 192, .inl f_undone))]) [1, 2, 0] (by decide) rfl) dX10_jump_54 rfl (Nat.le_of_ble_eq_true rfl) (Nat.le_of_ble_eq_true rfl) ⟨F1, x_undoMany, f_s, f_undone, (SAME.up eF1 SAME.rf (by decide)), (get_eq eF1), (get_ne eF1 (by decide) e_undoMany), i_x_undoMany, s_s_153, s_s_0, s_s_5, s_s_6, s_s_7, s_s_44, s_s_K0, s_s_105, s_s_114, s_s_130, s_s_139, s_undone_1, s_undone_10, s_undone_25, s_undone_34, s_undone_49, s_undone_58, s_undone_73, s_undone_82, s_undone_97, s_undone_106, s_undone_121, s_undone_130, s_undone_145, s_undone_154, s_undone_169, s_undone_178, (show 0 ≤ (0 : Int32).toInt ∧ (0 : Int32).toInt ≤ 1 by decide), rfl⟩
    · have hP : va_P D vwCl [(h_undone, .inl (cI, 192, .inl f_undone)), (h0, .inr (10, vL 67 F1)), (h_s, .inl (cI, 335, .inl f_s))] H := hP
      have hD : va_D A [(h_undone, .inl (cI, 192, .inl f_undone)), (h0, .inr (10, vL 67 F1)), (h_s, .inl (cI, 335, .inl f_s))] := hD
      refine W.widen (k := 0) (n := 0) (Nat.le_of_ble_eq_true rfl) (Nat.le_of_ble_eq_true rfl) ?_
      have k13 : 0 ≤ p0.toInt ∧ p0.toInt ≤ 2147483647 := ⟨Int.le_trans (Int.le_refl _) t7, (ir_any _).2⟩
      have k14 : 4 ≤ p0.toInt ∧ p0.toInt ≤ 2147483647 := ⟨lo_lt t8 (Int.le_refl _) (by decide), k13.2⟩
      refine lv_if_eq (tgt := 53) hx hb dX10_jump_18 (by decide) (fun _ => ?_) (fun g => absurd (by decide) g)
      refine lv_iconst (v := 0) hx hb dX10_jump_53 (by decide) ?_
      exact ret_i (v := 0) hx hb hr hlocks hS (hP.sub (ws' := [(h0, .inr (10, vL 67 F1)), (h_s, .inl (cI, 335, .inl f_s)), (h_undone, .inl (cI, 192, .inl f_undone))]) [1, 2, 0] rfl) (hD.sub (ws' := [(h0, .inr (10, vL 67 F1)), (h_s, .inl (cI, 335, .inl f_s)), (h_undone, .inl (cI, 192, .inl f_undone))]) [1, 2, 0] (by decide) rfl) dX10_jump_54 rfl (Nat.le_of_ble_eq_true rfl) (Nat.le_of_ble_eq_true rfl) ⟨F1, x_undoMany, f_s, f_undone, (SAME.up eF1 SAME.rf (by decide)), (get_eq eF1), (get_ne eF1 (by decide) e_undoMany), i_x_undoMany, s_s_153, s_s_0, s_s_5, s_s_6, s_s_7, s_s_44, s_s_K0, s_s_105, s_s_114, s_s_130, s_s_139, s_undone_1, s_undone_10, s_undone_25, s_undone_34, s_undone_49, s_undone_58, s_undone_73, s_undone_82, s_undone_97, s_undone_106, s_undone_121, s_undone_130, s_undone_145, s_undone_154, s_undone_169, s_undone_178, (show 0 ≤ (0 : Int32).toInt ∧ (0 : Int32).toInt ≤ 1 by decide), rfl⟩
    · have hP : va_P D vwCl [(h_undone, .inl (cI, 192, .inl f_undone)), (h0, .inr (10, vL 67 F1)), (h_s, .inl (cI, 335, .inl f_s))] H := hP
      have hD : va_D A [(h_undone, .inl (cI, 192, .inl f_undone)), (h0, .inr (10, vL 67 F1)), (h_s, .inl (cI, 335, .inl f_s))] := hD
      refine W.widen (k := 0) (n := 0) (Nat.le_of_ble_eq_true rfl) (Nat.le_of_ble_eq_true rfl) ?_
      have k15 : 0 ≤ p0.toInt ∧ p0.toInt ≤ 2147483647 := ⟨Int.le_trans (Int.le_refl _) t9, (ir_any _).2⟩
      have k16 : 0 ≤ p0.toInt ∧ p0.toInt ≤ 3 := ⟨k15.1, Int.le_trans t10 (Int.le_refl _)⟩
      refine lv_if_eq (tgt := 53) hx hb dX10_jump_18 (by decide) (fun g => absurd g (by decide)) (fun _ => ?_)
      refine lv_iload_n hx hb dX10_jump_21 rfl (lv_at hl 2 rfl) ?_
      refine lv_iconst (v := 0) hx hb dX10_jump_22 (by decide) ?_
      refine lv_aload_n hx hb dX10_jump_23 rfl (lv_at hl 0 rfl) ?_
      refine get_f (D := D) (ci := 10) (v := .ref h_s) (C := RX10) (T := TX10) (N := 67) hx hb hw inAX10 hown hK hP 1 rfl rfl 6 (by decide) (hw _ q_1267) (fun _ h9 => h9) n2 dX10_jump_24 ?_
      refine lv_iconst (v := 0) hx hb dX10_jump_27 (by decide) ?_
      refine iald_n hx hb hK hP 2 0 rfl rfl 0 rfl (Nat.le_of_ble_eq_true rfl) (Nat.le_of_ble_eq_true rfl) rfl dX10_jump_28 ?_
      refine lv_topi (fun v17 ev17 => ?_)
      have k18 : 0 ≤ v17.toInt ∧ v17.toInt ≤ 40 := by rw [ev17]; exact s_s_0.atN 0 (by decide) (by decide)
      refine lv_iconst (v := 1) hx hb dX10_jump_29 (by decide) ?_
      refine lv_isub hx hb dX10_jump_30 ?_
      refine lv_topi (fun v19 ev19 => ?_)
      have bv19 : v19.toInt = v17.toInt - 1 := by rw [ev19]; exact sub_k rfl rfl k18 ⟨Int.le_refl _, Int.le_refl _⟩ (by decide)
      have k20 : (-1) ≤ v19.toInt ∧ v19.toInt ≤ 39 := sub_r bv19 k18 ⟨Int.le_refl _, Int.le_refl _⟩ (by decide)
      refine call_Si (wr := [(h_undone, .inl (cI, 192, .inl f_undone)), (h0, .inr (10, vL 67 F1)), (h_s, .inl (cI, 335, .inl f_s))]) (As := [.int p1, .int 0, .int v19]) (rest := []) hx hb hml hown hw (m_X10_isIn l D cI cJ cB cP cM cZ p1 0 v19 _ ) wS_X10_211_X10_isIn dX10_jump_31 hP hD hS hA [] [0, 1, 2] rfl rfl (by decide) (by decide) (by decide) GG.fb hG.at hl.1 rfl (Nat.le_of_ble_eq_true rfl) ⟨(Nat.le_of_ble_eq_true rfl), (Nat.le_of_ble_eq_true rfl)⟩ ⟨(Nat.le_of_ble_eq_true rfl), (Nat.le_of_ble_eq_true rfl)⟩ (fun r21 u H locs hp hP hD hS => ?_)
      rcases hp with ⟨t22, rfl, rfl⟩ | ⟨t23, t24, rfl, rfl⟩ | ⟨t25, t26, rfl, rfl⟩
      · have hP : va_P D vwCl [(h_undone, .inl (cI, 192, .inl f_undone)), (h0, .inr (10, vL 67 F1)), (h_s, .inl (cI, 335, .inl f_s))] H := hP
        have hD : va_D A [(h_undone, .inl (cI, 192, .inl f_undone)), (h0, .inr (10, vL 67 F1)), (h_s, .inl (cI, 335, .inl f_s))] := hD
        refine W.widen (k := 0) (n := 0) (Nat.le_of_ble_eq_true rfl) (Nat.le_of_ble_eq_true rfl) ?_
        have k28 : (-2147483648) ≤ p1.toInt ∧ p1.toInt ≤ (-1) := ⟨(ir_any _).1, up_lt t22 (Int.le_refl _) (by decide)⟩
        refine lv_if_eq (tgt := 53) hx hb dX10_jump_34 (by decide) (fun _ => ?_) (fun g => absurd (by decide) g)
        refine lv_iconst (v := 0) hx hb dX10_jump_53 (by decide) ?_
        exact ret_i (v := 0) hx hb hr hlocks hS (hP.sub (ws' := [(h0, .inr (10, vL 67 F1)), (h_s, .inl (cI, 335, .inl f_s)), (h_undone, .inl (cI, 192, .inl f_undone))]) [1, 2, 0] rfl) (hD.sub (ws' := [(h0, .inr (10, vL 67 F1)), (h_s, .inl (cI, 335, .inl f_s)), (h_undone, .inl (cI, 192, .inl f_undone))]) [1, 2, 0] (by decide) rfl) dX10_jump_54 rfl (Nat.le_of_ble_eq_true rfl) (Nat.le_of_ble_eq_true rfl) ⟨F1, x_undoMany, f_s, f_undone, (SAME.up eF1 SAME.rf (by decide)), (get_eq eF1), (get_ne eF1 (by decide) e_undoMany), i_x_undoMany, s_s_153, s_s_0, s_s_5, s_s_6, s_s_7, s_s_44, s_s_K0, s_s_105, s_s_114, s_s_130, s_s_139, s_undone_1, s_undone_10, s_undone_25, s_undone_34, s_undone_49, s_undone_58, s_undone_73, s_undone_82, s_undone_97, s_undone_106, s_undone_121, s_undone_130, s_undone_145, s_undone_154, s_undone_169, s_undone_178, (show 0 ≤ (0 : Int32).toInt ∧ (0 : Int32).toInt ≤ 1 by decide), rfl⟩
      · have hP : va_P D vwCl [(h_undone, .inl (cI, 192, .inl f_undone)), (h0, .inr (10, vL 67 F1)), (h_s, .inl (cI, 335, .inl f_s))] H := hP
        have hD : va_D A [(h_undone, .inl (cI, 192, .inl f_undone)), (h0, .inr (10, vL 67 F1)), (h_s, .inl (cI, 335, .inl f_s))] := hD
        refine W.widen (k := 0) (n := 0) (Nat.le_of_ble_eq_true rfl) (Nat.le_of_ble_eq_true rfl) ?_
        have k29 : 0 ≤ p1.toInt ∧ p1.toInt ≤ 2147483647 := ⟨Int.le_trans (Int.le_refl _) t23, (ir_any _).2⟩
        refine lv_if_eq (tgt := 53) hx hb dX10_jump_34 (by decide) (fun _ => ?_) (fun g => absurd (by decide) g)
        refine lv_iconst (v := 0) hx hb dX10_jump_53 (by decide) ?_
        exact ret_i (v := 0) hx hb hr hlocks hS (hP.sub (ws' := [(h0, .inr (10, vL 67 F1)), (h_s, .inl (cI, 335, .inl f_s)), (h_undone, .inl (cI, 192, .inl f_undone))]) [1, 2, 0] rfl) (hD.sub (ws' := [(h0, .inr (10, vL 67 F1)), (h_s, .inl (cI, 335, .inl f_s)), (h_undone, .inl (cI, 192, .inl f_undone))]) [1, 2, 0] (by decide) rfl) dX10_jump_54 rfl (Nat.le_of_ble_eq_true rfl) (Nat.le_of_ble_eq_true rfl) ⟨F1, x_undoMany, f_s, f_undone, (SAME.up eF1 SAME.rf (by decide)), (get_eq eF1), (get_ne eF1 (by decide) e_undoMany), i_x_undoMany, s_s_153, s_s_0, s_s_5, s_s_6, s_s_7, s_s_44, s_s_K0, s_s_105, s_s_114, s_s_130, s_s_139, s_undone_1, s_undone_10, s_undone_25, s_undone_34, s_undone_49, s_undone_58, s_undone_73, s_undone_82, s_undone_97, s_undone_106, s_undone_121, s_undone_130, s_undone_145, s_undone_154, s_undone_169, s_undone_178, (show 0 ≤ (0 : Int32).toInt ∧ (0 : Int32).toInt ≤ 1 by decide), rfl⟩
      · have hP : va_P D vwCl [(h_undone, .inl (cI, 192, .inl f_undone)), (h0, .inr (10, vL 67 F1)), (h_s, .inl (cI, 335, .inl f_s))] H := hP
        have hD : va_D A [(h_undone, .inl (cI, 192, .inl f_undone)), (h0, .inr (10, vL 67 F1)), (h_s, .inl (cI, 335, .inl f_s))] := hD
        refine W.widen (k := 0) (n := 0) (Nat.le_of_ble_eq_true rfl) (Nat.le_of_ble_eq_true rfl) ?_
        have k30 : 0 ≤ p1.toInt ∧ p1.toInt ≤ 2147483647 := ⟨Int.le_trans (Int.le_refl _) t25, (ir_any _).2⟩
        have k31 : 0 ≤ p1.toInt ∧ p1.toInt ≤ 39 := ⟨k30.1, Int.le_trans t26 k20.2⟩
        have k32 : 0 ≤ v19.toInt ∧ v19.toInt ≤ 39 := ⟨Int.le_trans k30.1 t26, k20.2⟩
        have k33 : 1 ≤ v17.toInt ∧ v17.toInt ≤ 40 := ⟨lin_lo (lin_m bv19) k32.1 (by decide), k18.2⟩
        refine lv_if_eq (tgt := 53) hx hb dX10_jump_34 (by decide) (fun g => absurd g (by decide)) (fun _ => ?_)
        refine lv_aload_n hx hb dX10_jump_37 rfl (lv_at hl 0 rfl) ?_
        refine lv_bipush (v := 109) hx hb dX10_jump_38 (by decide) ?_
        refine lv_iload_n hx hb dX10_jump_40 rfl (lv_at hl 1 rfl) ?_
        refine lv_iadd hx hb dX10_jump_41 ?_
        refine lv_topi (fun v34 ev34 => ?_)
        have bv34 : v34.toInt = 109 + p0.toInt := by rw [ev34]; exact add_k rfl rfl ⟨Int.le_refl _, Int.le_refl _⟩ k16 (by decide)
        have k35 : 109 ≤ v34.toInt ∧ v34.toInt ≤ 112 := add_r bv34 ⟨Int.le_refl _, Int.le_refl _⟩ k16 (by decide)
        refine lv_iload_n hx hb dX10_jump_42 rfl (lv_at hl 2 rfl) ?_
        have n36 : F1 39 = .ref h_undone := (get_ne eF1 (by decide) e_undone)
        have n37 : F1 41 = .int x_undoMany := (get_ne eF1 (by decide) e_undoMany)
        refine call_Vi (wr := []) (As := [.int v34, .int p1]) (rest := []) hx hb hml hown hw (m_X10_becomes l D cI cJ cB cP cM cZ h0 h_s h_undone F1 x_undoMany f_s f_undone v34 p1 _ n2 n36 n37 i_x_undoMany s_s_K0 s_s_0 s_s_105 s_s_114 s_s_130 s_s_139 s_s_153 s_s_44 s_s_5 s_s_6 s_s_7 s_undone_1 s_undone_10 s_undone_106 s_undone_121 s_undone_130 s_undone_145 s_undone_154 s_undone_169 s_undone_178 s_undone_25 s_undone_34 s_undone_49 s_undone_58 s_undone_73 s_undone_82 s_undone_97 (ir_wk k35 (by decide) (by decide)) (by omega)) wV_X10_374_X10_becomes dX10_jump_43 hK hP hD hS hA [1, 2, 0] [] rfl rfl (by decide) (by decide) (by decide) 0 10 rfl rfl GG.fb hG.at hl.1 rfl (Nat.le_of_ble_eq_true rfl) ⟨(Nat.le_of_ble_eq_true rfl), (Nat.le_of_ble_eq_true rfl)⟩ ⟨(Nat.le_of_ble_eq_true rfl), (Nat.le_of_ble_eq_true rfl)⟩ (fun r38 u H locs hp hP hD hS => ?_)
        refine hp.elim (fun F39 h9z0 => h9z0.elim (fun y40 h9z1 => h9z1.elim (fun g41 h9z2 => h9z2.elim (fun g42 h9z3 => h9z3.elim (fun t43 h9z4 => h9z4.elim (fun t44 h9z5 => h9z5.elim (fun t45 h9z6 => h9z6.elim (fun t46 h9z7 => h9z7.elim (fun t47 h9z8 => h9z8.elim (fun t48 h9z9 => h9z9.elim (fun t49 h9z10 => h9z10.elim (fun t50 h9z11 => h9z11.elim (fun t51 h9z12 => h9z12.elim (fun t52 h9z13 => h9z13.elim (fun t53 h9z14 => h9z14.elim (fun t54 h9z15 => h9z15.elim (fun t55 h9z16 => h9z16.elim (fun t56 h9z17 => h9z17.elim (fun t57 h9z18 => h9z18.elim (fun t58 h9z19 => h9z19.elim (fun t59 h9z20 => h9z20.elim (fun t60 h9z21 => h9z21.elim (fun t61 h9z22 => h9z22.elim (fun t62 h9z23 => h9z23.elim (fun t63 h9z24 => h9z24.elim (fun t64 h9z25 => h9z25.elim (fun t65 h9z26 => h9z26.elim (fun t66 h9z27 => h9z27.elim (fun t67 h9z28 => h9z28.elim (fun t68 h9z29 => h9z29.elim (fun t69 h9z30 => h9z30.elim (fun t70 h9z31 => h9z31.elim (fun t71 h9z32 => h9z32.elim (fun t72 h9z33 => h9z33.elim (fun t73 h9z34 => ?_)))))))))))))))))))))))))))))))))))
        clear h9z0 h9z1 h9z2 h9z3 h9z4 h9z5 h9z6 h9z7 h9z8 h9z9 h9z10 h9z11 h9z12 h9z13 h9z14 h9z15 h9z16 h9z17 h9z18 h9z19 h9z20 h9z21 h9z22 h9z23 h9z24 h9z25 h9z26 h9z27 h9z28 h9z29 h9z30 h9z31 h9z32 h9z33
        subst h9z34
        have hP : va_P D vwCl [(h0, .inr (10, vL 67 F39)), (h_s, .inl (cI, 335, .inl g41)), (h_undone, .inl (cI, 192, .inl g42))] H := hP
        have hD : va_D A [(h0, .inr (10, vL 67 F39)), (h_s, .inl (cI, 335, .inl g41)), (h_undone, .inl (cI, 192, .inl g42))] := hD
        refine W.widen (k := 0) (n := 0) (Nat.le_of_ble_eq_true rfl) (Nat.le_of_ble_eq_true rfl) ?_
        refine lv_if_eq (tgt := 53) hx hb dX10_jump_46 (by decide) (fun c75 => ?_) (fun c75 => ?_)
        · have dc75 : r38.toInt = 0 := eq_i (a := r38.toInt) (b := 0) rfl rfl c75
          have k76 : 0 ≤ r38.toInt ∧ r38.toInt ≤ 0 := ⟨t73.1, Int.le_trans (Int.le_of_eq dc75) (Int.le_refl _)⟩
          refine lv_iconst (v := 0) hx hb dX10_jump_53 (by decide) ?_
          exact ret_i (v := 0) hx hb hr hlocks hS hP hD dX10_jump_54 rfl (Nat.le_of_ble_eq_true rfl) (Nat.le_of_ble_eq_true rfl) ⟨F39, y40, g41, g42, (SAME.tr (SAME.up eF1 SAME.rf (by decide)) t43 (by decide)), (SAME.at t43 (by decide) (get_eq eF1)), t44, t45, t46, t47, t48, t49, t50, t51, t52, t53, t54, t55, t56, t57, t58, t59, t60, t61, t62, t63, t64, t65, t66, t67, t68, t69, t70, t71, t72, (show 0 ≤ (0 : Int32).toInt ∧ (0 : Int32).toInt ≤ 1 by decide), rfl⟩
        · have dc75 : r38.toInt ≠ 0 := ne_i (a := r38.toInt) (b := 0) rfl rfl c75
          have k77 : 1 ≤ r38.toInt ∧ r38.toInt ≤ 1 := ⟨ne_lo dc75 t73.1 ⟨Int.le_refl _, Int.le_refl _⟩ (by decide), t73.2⟩
          refine lv_iconst (v := 1) hx hb dX10_jump_49 (by decide) ?_
          refine lv_goto (tgt := 54) hx hb dX10_jump_50 (by decide) ?_
          exact ret_i (v := 1) hx hb hr hlocks hS hP hD dX10_jump_54 rfl (Nat.le_of_ble_eq_true rfl) (Nat.le_of_ble_eq_true rfl) ⟨F39, y40, g41, g42, (SAME.tr (SAME.up eF1 SAME.rf (by decide)) t43 (by decide)), (SAME.at t43 (by decide) (get_eq eF1)), t44, t45, t46, t47, t48, t49, t50, t51, t52, t53, t54, t55, t56, t57, t58, t59, t60, t61, t62, t63, t64, t65, t66, t67, t68, t69, t70, t71, t72, (show 0 ≤ (1 : Int32).toInt ∧ (1 : Int32).toInt ≤ 1 by decide), rfl⟩
set_option maxHeartbeats 4000000 in
set_option maxRecDepth 100000 in
theorem m_X10_high (l : Launch) (D : va_G) (cI cJ cB cP cM cZ : ClassId) (h0 : Nat) (h_s : Nat) (h_undone : Nat) (Fh : Nat → Value) (x_undoMany : Int32) (f_s : Nat → Int32) (f_undone : Nat → Int32) (p0 : Int32) (p1 : Int32) (sz : Nat) (e_s : Fh 6 = .ref h_s) (e_undone : Fh 39 = .ref h_undone) (e_undoMany : Fh 41 = .int x_undoMany) (i_x_undoMany : IR 0 8 x_undoMany) (s_s_K0 : KW 0 f_s) (s_s_0 : SG 0 0 0 40 f_s) (s_s_105 : SG 105 108 0 11 f_s) (s_s_114 : SG 114 114 0 5 f_s) (s_s_130 : SG 130 133 0 11 f_s) (s_s_139 : SG 139 139 0 5 f_s) (s_s_153 : SG 153 153 0 44 f_s) (s_s_44 : SG 44 55 0 9 f_s) (s_s_5 : SG 5 5 0 12 f_s) (s_s_6 : SG 6 6 0 12 f_s) (s_s_7 : SG 7 7 0 6 f_s) (s_undone_1 : SG 1 4 0 11 f_undone) (s_undone_10 : SG 10 10 0 5 f_undone) (s_undone_106 : SG 106 106 0 5 f_undone) (s_undone_121 : SG 121 124 0 11 f_undone) (s_undone_130 : SG 130 130 0 5 f_undone) (s_undone_145 : SG 145 148 0 11 f_undone) (s_undone_154 : SG 154 154 0 5 f_undone) (s_undone_169 : SG 169 172 0 11 f_undone) (s_undone_178 : SG 178 178 0 5 f_undone) (s_undone_25 : SG 25 28 0 11 f_undone) (s_undone_34 : SG 34 34 0 5 f_undone) (s_undone_49 : SG 49 52 0 11 f_undone) (s_undone_58 : SG 58 58 0 5 f_undone) (s_undone_73 : SG 73 76 0 11 f_undone) (s_undone_82 : SG 82 82 0 5 f_undone) (s_undone_97 : SG 97 100 0 11 f_undone) : CI l yX10_high cX10_high 3 (some .boolean) { frames := 2, cells := 0, slots := 0, locals := 43 } (GG D cI cJ cB cP cM cZ) D [(h0, .inr (10, vL 67 Fh)), (h_s, .inl (cI, 335, .inl f_s)), (h_undone, .inl (cI, 192, .inl f_undone))] sz [.ref h0, .int p0, .int p1] (fun (r : Int32) (u : va_W) => ∃ (Gh : Nat → Value) (y_undoMany : Int32) (g_s : Nat → Int32) (g_undone : Nat → Int32), SAME [0, 41] Fh Gh ∧ Gh 0 = .int 0 ∧ Gh 41 = .int y_undoMany ∧ IR 0 8 y_undoMany ∧ SG 153 153 0 44 g_s ∧ SG 0 0 0 40 g_s ∧ SG 5 5 0 12 g_s ∧ SG 6 6 0 12 g_s ∧ SG 7 7 0 6 g_s ∧ SG 44 55 0 9 g_s ∧ KW 0 g_s ∧ SG 105 108 0 11 g_s ∧ SG 114 114 0 5 g_s ∧ SG 130 133 0 11 g_s ∧ SG 139 139 0 5 g_s ∧ SG 1 4 0 11 g_undone ∧ SG 10 10 0 5 g_undone ∧ SG 25 28 0 11 g_undone ∧ SG 34 34 0 5 g_undone ∧ SG 49 52 0 11 g_undone ∧ SG 58 58 0 5 g_undone ∧ SG 73 76 0 11 g_undone ∧ SG 82 82 0 5 g_undone ∧ SG 97 100 0 11 g_undone ∧ SG 106 106 0 5 g_undone ∧ SG 121 124 0 11 g_undone ∧ SG 130 130 0 5 g_undone ∧ SG 145 148 0 11 g_undone ∧ SG 154 154 0 5 g_undone ∧ SG 169 172 0 11 g_undone ∧ SG 178 178 0 5 g_undone ∧ IR 0 1 r ∧ u = [(h0, .inr (10, vL 67 Gh)), (h_s, .inl (cI, 335, .inl g_s)), (h_undone, .inl (cI, 192, .inl g_undone))]) := by
  refine CI_mk (by decide) (Nat.le_of_ble_eq_true rfl) ?_
  intro p e s m below meth c A ls E hAe hG hsz hP hD hA hS hl
  obtain ⟨hx, hb, hr, hw, hown, hlocks, hml, hnm⟩ := E
  have hK := hG.1
  have i_x_undoMany : 0 ≤ x_undoMany.toInt ∧ x_undoMany.toInt ≤ 8 := i_x_undoMany
  have hl : lv_has ls 3 [(0, .ref h0), (1, .int p0), (2, .int p1)] := hl
  refine lv_aload_n hx hb dX10_high_0 rfl (lv_at hl 0 rfl) ?_
  refine lv_iconst (v := 0) hx hb dX10_high_1 (by decide) ?_
  refine put_f (D := D) (ci := 10) (v := .int 0) (ty := .int) (C := RX10) (T := TX10) (N := 67) hx hb hw inAX10 tyX10 tyX10_ok nmX10 hown hK hP hD hS 0 rfl rfl 0 (by decide) (hw _ q_1261) (fun _ h9 => h9) rfl (by decide +kernel) rfl rfl dX10_high_2 (fun H locs F1 eF1 hP hD hS => ?_)
  have hP : va_P D vwCl [(h0, .inr (10, vL 67 F1)), (h_s, .inl (cI, 335, .inl f_s)), (h_undone, .inl (cI, 192, .inl f_undone))] H := hP
  have hD : va_D A [(h0, .inr (10, vL 67 F1)), (h_s, .inl (cI, 335, .inl f_s)), (h_undone, .inl (cI, 192, .inl f_undone))] := hD
  refine lv_aload_n hx hb dX10_high_5 rfl (lv_at hl 0 rfl) ?_
  refine lv_iload_n hx hb dX10_high_6 rfl (lv_at hl 1 rfl) ?_
  have n2 : F1 6 = .ref h_s := (get_ne eF1 (by decide) e_s)
  refine call_Vi (wr := [(h_undone, .inl (cI, 192, .inl f_undone))]) (As := [.int p0]) (rest := []) hx hb hml hown hw (m_X10_isBend l D cI cJ cB cP cM cZ h0 h_s F1 f_s p0 _ n2 s_s_K0 s_s_0 s_s_105 s_s_114 s_s_130 s_s_139 s_s_153 s_s_44 s_s_5 s_s_6 s_s_7) wV_X10_292_X10_isBend dX10_high_7 hK hP hD hS hA [0, 1] [2] rfl rfl (by decide) (by decide) (by decide) 0 10 rfl rfl GG.fb hG.at hl.1 rfl (Nat.le_of_ble_eq_true rfl) ⟨(Nat.le_of_ble_eq_true rfl), (Nat.le_of_ble_eq_true rfl)⟩ ⟨(Nat.le_of_ble_eq_true rfl), (Nat.le_of_ble_eq_true rfl)⟩ (fun r3 u H locs hp hP hD hS => ?_)
  rcases hp with ⟨t4, rfl, rfl⟩ | ⟨t5, t6, rfl, rfl⟩ | ⟨t7, t8, rfl, rfl⟩
  · have hP : va_P D vwCl [(h_undone, .inl (cI, 192, .inl f_undone)), (h0, .inr (10, vL 67 F1)), (h_s, .inl (cI, 335, .inl f_s))] H := hP
    have hD : va_D A [(h_undone, .inl (cI, 192, .inl f_undone)), (h0, .inr (10, vL 67 F1)), (h_s, .inl (cI, 335, .inl f_s))] := hD
    refine W.widen (k := 0) (n := 0) (Nat.le_of_ble_eq_true rfl) (Nat.le_of_ble_eq_true rfl) ?_
    have k10 : (-2147483648) ≤ p0.toInt ∧ p0.toInt ≤ (-1) := ⟨(ir_any _).1, up_lt t4 (Int.le_refl _) (by decide)⟩
    refine lv_if_eq (tgt := 39) hx hb dX10_high_10 (by decide) (fun _ => ?_) (fun g => absurd (by decide) g)
    refine lv_iconst (v := 0) hx hb dX10_high_39 (by decide) ?_
    exact ret_i (v := 0) hx hb hr hlocks hS (hP.sub (ws' := [(h0, .inr (10, vL 67 F1)), (h_s, .inl (cI, 335, .inl f_s)), (h_undone, .inl (cI, 192, .inl f_undone))]) [1, 2, 0] rfl) (hD.sub (ws' := [(h0, .inr (10, vL 67 F1)), (h_s, .inl (cI, 335, .inl f_s)), (h_undone, .inl (cI, 192, .inl f_undone))]) [1, 2, 0] (by decide) rfl) dX10_high_40 rfl (Nat.le_of_ble_eq_true rfl) (Nat.le_of_ble_eq_true rfl) ⟨F1, x_undoMany, f_s, f_undone, (SAME.up eF1 SAME.rf (by decide)), (get_eq eF1), (get_ne eF1 (by decide) e_undoMany), i_x_undoMany, s_s_153, s_s_0, s_s_5, s_s_6, s_s_7, s_s_44, s_s_K0, s_s_105, s_s_114, s_s_130, s_s_139, s_undone_1, s_undone_10, s_undone_25, s_undone_34, s_undone_49, s_undone_58, s_undone_73, s_undone_82, s_undone_97, s_undone_106, s_undone_121, s_undone_130, s_undone_145, s_undone_154, s_undone_169, s_undone_178, (show 0 ≤ (0 : Int32).toInt ∧ (0 : Int32).toInt ≤ 1 by decide), rfl⟩
  · have hP : va_P D vwCl [(h_undone, .inl (cI, 192, .inl f_undone)), (h0, .inr (10, vL 67 F1)), (h_s, .inl (cI, 335, .inl f_s))] H := hP
    have hD : va_D A [(h_undone, .inl (cI, 192, .inl f_undone)), (h0, .inr (10, vL 67 F1)), (h_s, .inl (cI, 335, .inl f_s))] := hD
    refine W.widen (k := 0) (n := 0) (Nat.le_of_ble_eq_true rfl) (Nat.le_of_ble_eq_true rfl) ?_
    have k11 : 0 ≤ p0.toInt ∧ p0.toInt ≤ 2147483647 := ⟨Int.le_trans (Int.le_refl _) t5, (ir_any _).2⟩
    refine lv_if_eq (tgt := 39) hx hb dX10_high_10 (by decide) (fun _ => ?_) (fun g => absurd (by decide) g)
    refine lv_iconst (v := 0) hx hb dX10_high_39 (by decide) ?_
    exact ret_i (v := 0) hx hb hr hlocks hS (hP.sub (ws' := [(h0, .inr (10, vL 67 F1)), (h_s, .inl (cI, 335, .inl f_s)), (h_undone, .inl (cI, 192, .inl f_undone))]) [1, 2, 0] rfl) (hD.sub (ws' := [(h0, .inr (10, vL 67 F1)), (h_s, .inl (cI, 335, .inl f_s)), (h_undone, .inl (cI, 192, .inl f_undone))]) [1, 2, 0] (by decide) rfl) dX10_high_40 rfl (Nat.le_of_ble_eq_true rfl) (Nat.le_of_ble_eq_true rfl) ⟨F1, x_undoMany, f_s, f_undone, (SAME.up eF1 SAME.rf (by decide)), (get_eq eF1), (get_ne eF1 (by decide) e_undoMany), i_x_undoMany, s_s_153, s_s_0, s_s_5, s_s_6, s_s_7, s_s_44, s_s_K0, s_s_105, s_s_114, s_s_130, s_s_139, s_undone_1, s_undone_10, s_undone_25, s_undone_34, s_undone_49, s_undone_58, s_undone_73, s_undone_82, s_undone_97, s_undone_106, s_undone_121, s_undone_130, s_undone_145, s_undone_154, s_undone_169, s_undone_178, (show 0 ≤ (0 : Int32).toInt ∧ (0 : Int32).toInt ≤ 1 by decide), rfl⟩
  · have hP : va_P D vwCl [(h_undone, .inl (cI, 192, .inl f_undone)), (h0, .inr (10, vL 67 F1)), (h_s, .inl (cI, 335, .inl f_s))] H := hP
    have hD : va_D A [(h_undone, .inl (cI, 192, .inl f_undone)), (h0, .inr (10, vL 67 F1)), (h_s, .inl (cI, 335, .inl f_s))] := hD
    refine W.widen (k := 0) (n := 0) (Nat.le_of_ble_eq_true rfl) (Nat.le_of_ble_eq_true rfl) ?_
    have k12 : 0 ≤ p0.toInt ∧ p0.toInt ≤ 2147483647 := ⟨Int.le_trans (Int.le_refl _) t7, (ir_any _).2⟩
    have k13 : 0 ≤ p0.toInt ∧ p0.toInt ≤ 11 := ⟨k12.1, Int.le_trans t8 (Int.le_refl _)⟩
    refine lv_if_eq (tgt := 39) hx hb dX10_high_10 (by decide) (fun g => absurd g (by decide)) (fun _ => ?_)
    refine lv_iload_n hx hb dX10_high_13 rfl (lv_at hl 2 rfl) ?_
    refine lv_iconst (v := 0) hx hb dX10_high_14 (by decide) ?_
    refine lv_bipush (v := 9) hx hb dX10_high_15 (by decide) ?_
    refine call_Si (wr := [(h_undone, .inl (cI, 192, .inl f_undone)), (h0, .inr (10, vL 67 F1)), (h_s, .inl (cI, 335, .inl f_s))]) (As := [.int p1, .int 0, .int 9]) (rest := []) hx hb hml hown hw (m_X10_isIn l D cI cJ cB cP cM cZ p1 0 9 _ ) wS_X10_211_X10_isIn dX10_high_17 hP hD hS hA [] [0, 1, 2] rfl rfl (by decide) (by decide) (by decide) GG.fb hG.at hl.1 rfl (Nat.le_of_ble_eq_true rfl) ⟨(Nat.le_of_ble_eq_true rfl), (Nat.le_of_ble_eq_true rfl)⟩ ⟨(Nat.le_of_ble_eq_true rfl), (Nat.le_of_ble_eq_true rfl)⟩ (fun r14 u H locs hp hP hD hS => ?_)
    have zl0 : (0 : Int32).toInt = 0 := by decide
    have zl9 : (9 : Int32).toInt = 9 := by decide
    rcases hp with ⟨t15, rfl, rfl⟩ | ⟨t16, t17, rfl, rfl⟩ | ⟨t18, t19, rfl, rfl⟩
    · have hP : va_P D vwCl [(h_undone, .inl (cI, 192, .inl f_undone)), (h0, .inr (10, vL 67 F1)), (h_s, .inl (cI, 335, .inl f_s))] H := hP
      have hD : va_D A [(h_undone, .inl (cI, 192, .inl f_undone)), (h0, .inr (10, vL 67 F1)), (h_s, .inl (cI, 335, .inl f_s))] := hD
      refine W.widen (k := 0) (n := 0) (Nat.le_of_ble_eq_true rfl) (Nat.le_of_ble_eq_true rfl) ?_
      have k21 : (-2147483648) ≤ p1.toInt ∧ p1.toInt ≤ (-1) := ⟨(ir_any _).1, up_lt t15 (Int.le_refl _) (by decide)⟩
      refine lv_if_eq (tgt := 39) hx hb dX10_high_20 (by decide) (fun _ => ?_) (fun g => absurd (by decide) g)
      refine lv_iconst (v := 0) hx hb dX10_high_39 (by decide) ?_
      exact ret_i (v := 0) hx hb hr hlocks hS (hP.sub (ws' := [(h0, .inr (10, vL 67 F1)), (h_s, .inl (cI, 335, .inl f_s)), (h_undone, .inl (cI, 192, .inl f_undone))]) [1, 2, 0] rfl) (hD.sub (ws' := [(h0, .inr (10, vL 67 F1)), (h_s, .inl (cI, 335, .inl f_s)), (h_undone, .inl (cI, 192, .inl f_undone))]) [1, 2, 0] (by decide) rfl) dX10_high_40 rfl (Nat.le_of_ble_eq_true rfl) (Nat.le_of_ble_eq_true rfl) ⟨F1, x_undoMany, f_s, f_undone, (SAME.up eF1 SAME.rf (by decide)), (get_eq eF1), (get_ne eF1 (by decide) e_undoMany), i_x_undoMany, s_s_153, s_s_0, s_s_5, s_s_6, s_s_7, s_s_44, s_s_K0, s_s_105, s_s_114, s_s_130, s_s_139, s_undone_1, s_undone_10, s_undone_25, s_undone_34, s_undone_49, s_undone_58, s_undone_73, s_undone_82, s_undone_97, s_undone_106, s_undone_121, s_undone_130, s_undone_145, s_undone_154, s_undone_169, s_undone_178, (show 0 ≤ (0 : Int32).toInt ∧ (0 : Int32).toInt ≤ 1 by decide), rfl⟩
    · have hP : va_P D vwCl [(h_undone, .inl (cI, 192, .inl f_undone)), (h0, .inr (10, vL 67 F1)), (h_s, .inl (cI, 335, .inl f_s))] H := hP
      have hD : va_D A [(h_undone, .inl (cI, 192, .inl f_undone)), (h0, .inr (10, vL 67 F1)), (h_s, .inl (cI, 335, .inl f_s))] := hD
      refine W.widen (k := 0) (n := 0) (Nat.le_of_ble_eq_true rfl) (Nat.le_of_ble_eq_true rfl) ?_
      have k22 : 0 ≤ p1.toInt ∧ p1.toInt ≤ 2147483647 := ⟨Int.le_trans (Int.le_refl _) t16, (ir_any _).2⟩
      have k23 : 10 ≤ p1.toInt ∧ p1.toInt ≤ 2147483647 := ⟨lo_lt t17 (Int.le_refl _) (by decide), k22.2⟩
      refine lv_if_eq (tgt := 39) hx hb dX10_high_20 (by decide) (fun _ => ?_) (fun g => absurd (by decide) g)
      refine lv_iconst (v := 0) hx hb dX10_high_39 (by decide) ?_
      exact ret_i (v := 0) hx hb hr hlocks hS (hP.sub (ws' := [(h0, .inr (10, vL 67 F1)), (h_s, .inl (cI, 335, .inl f_s)), (h_undone, .inl (cI, 192, .inl f_undone))]) [1, 2, 0] rfl) (hD.sub (ws' := [(h0, .inr (10, vL 67 F1)), (h_s, .inl (cI, 335, .inl f_s)), (h_undone, .inl (cI, 192, .inl f_undone))]) [1, 2, 0] (by decide) rfl) dX10_high_40 rfl (Nat.le_of_ble_eq_true rfl) (Nat.le_of_ble_eq_true rfl) ⟨F1, x_undoMany, f_s, f_undone, (SAME.up eF1 SAME.rf (by decide)), (get_eq eF1), (get_ne eF1 (by decide) e_undoMany), i_x_undoMany, s_s_153, s_s_0, s_s_5, s_s_6, s_s_7, s_s_44, s_s_K0, s_s_105, s_s_114, s_s_130, s_s_139, s_undone_1, s_undone_10, s_undone_25, s_undone_34, s_undone_49, s_undone_58, s_undone_73, s_undone_82, s_undone_97, s_undone_106, s_undone_121, s_undone_130, s_undone_145, s_undone_154, s_undone_169, s_undone_178, (show 0 ≤ (0 : Int32).toInt ∧ (0 : Int32).toInt ≤ 1 by decide), rfl⟩
    · have hP : va_P D vwCl [(h_undone, .inl (cI, 192, .inl f_undone)), (h0, .inr (10, vL 67 F1)), (h_s, .inl (cI, 335, .inl f_s))] H := hP
      have hD : va_D A [(h_undone, .inl (cI, 192, .inl f_undone)), (h0, .inr (10, vL 67 F1)), (h_s, .inl (cI, 335, .inl f_s))] := hD
      refine W.widen (k := 0) (n := 0) (Nat.le_of_ble_eq_true rfl) (Nat.le_of_ble_eq_true rfl) ?_
      have k24 : 0 ≤ p1.toInt ∧ p1.toInt ≤ 2147483647 := ⟨Int.le_trans (Int.le_refl _) t18, (ir_any _).2⟩
      have k25 : 0 ≤ p1.toInt ∧ p1.toInt ≤ 9 := ⟨k24.1, Int.le_trans t19 (Int.le_refl _)⟩
      refine lv_if_eq (tgt := 39) hx hb dX10_high_20 (by decide) (fun g => absurd g (by decide)) (fun _ => ?_)
      refine lv_aload_n hx hb dX10_high_23 rfl (lv_at hl 0 rfl) ?_
      refine lv_bipush (v := 116) hx hb dX10_high_24 (by decide) ?_
      refine lv_iload_n hx hb dX10_high_26 rfl (lv_at hl 1 rfl) ?_
      refine lv_iadd hx hb dX10_high_27 ?_
      refine lv_topi (fun v26 ev26 => ?_)
      have bv26 : v26.toInt = 116 + p0.toInt := by rw [ev26]; exact add_k rfl rfl ⟨Int.le_refl _, Int.le_refl _⟩ k13 (by decide)
      have k27 : 116 ≤ v26.toInt ∧ v26.toInt ≤ 127 := add_r bv26 ⟨Int.le_refl _, Int.le_refl _⟩ k13 (by decide)
      refine lv_iload_n hx hb dX10_high_28 rfl (lv_at hl 2 rfl) ?_
      have n28 : F1 39 = .ref h_undone := (get_ne eF1 (by decide) e_undone)
      have n29 : F1 41 = .int x_undoMany := (get_ne eF1 (by decide) e_undoMany)
      refine call_Vi (wr := []) (As := [.int v26, .int p1]) (rest := []) hx hb hml hown hw (m_X10_becomes l D cI cJ cB cP cM cZ h0 h_s h_undone F1 x_undoMany f_s f_undone v26 p1 _ n2 n28 n29 i_x_undoMany s_s_K0 s_s_0 s_s_105 s_s_114 s_s_130 s_s_139 s_s_153 s_s_44 s_s_5 s_s_6 s_s_7 s_undone_1 s_undone_10 s_undone_106 s_undone_121 s_undone_130 s_undone_145 s_undone_154 s_undone_169 s_undone_178 s_undone_25 s_undone_34 s_undone_49 s_undone_58 s_undone_73 s_undone_82 s_undone_97 (ir_wk k27 (by decide) (by decide)) (by omega)) wV_X10_374_X10_becomes dX10_high_29 hK hP hD hS hA [1, 2, 0] [] rfl rfl (by decide) (by decide) (by decide) 0 10 rfl rfl GG.fb hG.at hl.1 rfl (Nat.le_of_ble_eq_true rfl) ⟨(Nat.le_of_ble_eq_true rfl), (Nat.le_of_ble_eq_true rfl)⟩ ⟨(Nat.le_of_ble_eq_true rfl), (Nat.le_of_ble_eq_true rfl)⟩ (fun r30 u H locs hp hP hD hS => ?_)
      refine hp.elim (fun F31 h9z0 => h9z0.elim (fun y32 h9z1 => h9z1.elim (fun g33 h9z2 => h9z2.elim (fun g34 h9z3 => h9z3.elim (fun t35 h9z4 => h9z4.elim (fun t36 h9z5 => h9z5.elim (fun t37 h9z6 => h9z6.elim (fun t38 h9z7 => h9z7.elim (fun t39 h9z8 => h9z8.elim (fun t40 h9z9 => h9z9.elim (fun t41 h9z10 => h9z10.elim (fun t42 h9z11 => h9z11.elim (fun t43 h9z12 => h9z12.elim (fun t44 h9z13 => h9z13.elim (fun t45 h9z14 => h9z14.elim (fun t46 h9z15 => h9z15.elim (fun t47 h9z16 => h9z16.elim (fun t48 h9z17 => h9z17.elim (fun t49 h9z18 => h9z18.elim (fun t50 h9z19 => h9z19.elim (fun t51 h9z20 => h9z20.elim (fun t52 h9z21 => h9z21.elim (fun t53 h9z22 => h9z22.elim (fun t54 h9z23 => h9z23.elim (fun t55 h9z24 => h9z24.elim (fun t56 h9z25 => h9z25.elim (fun t57 h9z26 => h9z26.elim (fun t58 h9z27 => h9z27.elim (fun t59 h9z28 => h9z28.elim (fun t60 h9z29 => h9z29.elim (fun t61 h9z30 => h9z30.elim (fun t62 h9z31 => h9z31.elim (fun t63 h9z32 => h9z32.elim (fun t64 h9z33 => h9z33.elim (fun t65 h9z34 => ?_)))))))))))))))))))))))))))))))))))
      clear h9z0 h9z1 h9z2 h9z3 h9z4 h9z5 h9z6 h9z7 h9z8 h9z9 h9z10 h9z11 h9z12 h9z13 h9z14 h9z15 h9z16 h9z17 h9z18 h9z19 h9z20 h9z21 h9z22 h9z23 h9z24 h9z25 h9z26 h9z27 h9z28 h9z29 h9z30 h9z31 h9z32 h9z33
      subst h9z34
      have hP : va_P D vwCl [(h0, .inr (10, vL 67 F31)), (h_s, .inl (cI, 335, .inl g33)), (h_undone, .inl (cI, 192, .inl g34))] H := hP
      have hD : va_D A [(h0, .inr (10, vL 67 F31)), (h_s, .inl (cI, 335, .inl g33)), (h_undone, .inl (cI, 192, .inl g34))] := hD
      refine W.widen (k := 0) (n := 0) (Nat.le_of_ble_eq_true rfl) (Nat.le_of_ble_eq_true rfl) ?_
      refine lv_if_eq (tgt := 39) hx hb dX10_high_32 (by decide) (fun c67 => ?_) (fun c67 => ?_)
      · have dc67 : r30.toInt = 0 := eq_i (a := r30.toInt) (b := 0) rfl rfl c67
        have k68 : 0 ≤ r30.toInt ∧ r30.toInt ≤ 0 := ⟨t65.1, Int.le_trans (Int.le_of_eq dc67) (Int.le_refl _)⟩
        refine lv_iconst (v := 0) hx hb dX10_high_39 (by decide) ?_
        exact ret_i (v := 0) hx hb hr hlocks hS hP hD dX10_high_40 rfl (Nat.le_of_ble_eq_true rfl) (Nat.le_of_ble_eq_true rfl) ⟨F31, y32, g33, g34, (SAME.tr (SAME.up eF1 SAME.rf (by decide)) t35 (by decide)), (SAME.at t35 (by decide) (get_eq eF1)), t36, t37, t38, t39, t40, t41, t42, t43, t44, t45, t46, t47, t48, t49, t50, t51, t52, t53, t54, t55, t56, t57, t58, t59, t60, t61, t62, t63, t64, (show 0 ≤ (0 : Int32).toInt ∧ (0 : Int32).toInt ≤ 1 by decide), rfl⟩
      · have dc67 : r30.toInt ≠ 0 := ne_i (a := r30.toInt) (b := 0) rfl rfl c67
        have k69 : 1 ≤ r30.toInt ∧ r30.toInt ≤ 1 := ⟨ne_lo dc67 t65.1 ⟨Int.le_refl _, Int.le_refl _⟩ (by decide), t65.2⟩
        refine lv_iconst (v := 1) hx hb dX10_high_35 (by decide) ?_
        refine lv_goto (tgt := 40) hx hb dX10_high_36 (by decide) ?_
        exact ret_i (v := 1) hx hb hr hlocks hS hP hD dX10_high_40 rfl (Nat.le_of_ble_eq_true rfl) (Nat.le_of_ble_eq_true rfl) ⟨F31, y32, g33, g34, (SAME.tr (SAME.up eF1 SAME.rf (by decide)) t35 (by decide)), (SAME.at t35 (by decide) (get_eq eF1)), t36, t37, t38, t39, t40, t41, t42, t43, t44, t45, t46, t47, t48, t49, t50, t51, t52, t53, t54, t55, t56, t57, t58, t59, t60, t61, t62, t63, t64, (show 0 ≤ (1 : Int32).toInt ∧ (1 : Int32).toInt ≤ 1 by decide), rfl⟩
set_option maxHeartbeats 4000000 in
set_option maxRecDepth 100000 in
theorem m_X10_set (l : Launch) (D : va_G) (cI cJ cB cP cM cZ : ClassId) (h0 : Nat) (h_s : Nat) (h_undone : Nat) (Fh : Nat → Value) (x_undoMany : Int32) (f_s : Nat → Int32) (f_undone : Nat → Int32) (p0 : Int32) (p1 : Int32) (sz : Nat) (e_s : Fh 6 = .ref h_s) (e_undone : Fh 39 = .ref h_undone) (e_undoMany : Fh 41 = .int x_undoMany) (i_x_undoMany : IR 0 8 x_undoMany) (s_s_K0 : KW 0 f_s) (s_s_0 : SG 0 0 0 40 f_s) (s_s_105 : SG 105 108 0 11 f_s) (s_s_114 : SG 114 114 0 5 f_s) (s_s_130 : SG 130 133 0 11 f_s) (s_s_139 : SG 139 139 0 5 f_s) (s_s_153 : SG 153 153 0 44 f_s) (s_s_44 : SG 44 55 0 9 f_s) (s_s_5 : SG 5 5 0 12 f_s) (s_s_6 : SG 6 6 0 12 f_s) (s_s_7 : SG 7 7 0 6 f_s) (s_undone_1 : SG 1 4 0 11 f_undone) (s_undone_10 : SG 10 10 0 5 f_undone) (s_undone_106 : SG 106 106 0 5 f_undone) (s_undone_121 : SG 121 124 0 11 f_undone) (s_undone_130 : SG 130 130 0 5 f_undone) (s_undone_145 : SG 145 148 0 11 f_undone) (s_undone_154 : SG 154 154 0 5 f_undone) (s_undone_169 : SG 169 172 0 11 f_undone) (s_undone_178 : SG 178 178 0 5 f_undone) (s_undone_25 : SG 25 28 0 11 f_undone) (s_undone_34 : SG 34 34 0 5 f_undone) (s_undone_49 : SG 49 52 0 11 f_undone) (s_undone_58 : SG 58 58 0 5 f_undone) (s_undone_73 : SG 73 76 0 11 f_undone) (s_undone_82 : SG 82 82 0 5 f_undone) (s_undone_97 : SG 97 100 0 11 f_undone) : CI l yX10_set cX10_set 3 (some .boolean) { frames := 2, cells := 0, slots := 0, locals := 43 } (GG D cI cJ cB cP cM cZ) D [(h0, .inr (10, vL 67 Fh)), (h_s, .inl (cI, 335, .inl f_s)), (h_undone, .inl (cI, 192, .inl f_undone))] sz [.ref h0, .int p0, .int p1] (fun (r : Int32) (u : va_W) => ∃ (Gh : Nat → Value) (y_undoMany : Int32) (g_s : Nat → Int32) (g_undone : Nat → Int32), SAME [0, 41] Fh Gh ∧ Gh 0 = .int 0 ∧ Gh 41 = .int y_undoMany ∧ IR 0 8 y_undoMany ∧ SG 153 153 0 44 g_s ∧ SG 0 0 0 40 g_s ∧ SG 5 5 0 12 g_s ∧ SG 6 6 0 12 g_s ∧ SG 7 7 0 6 g_s ∧ SG 44 55 0 9 g_s ∧ KW 0 g_s ∧ SG 105 108 0 11 g_s ∧ SG 114 114 0 5 g_s ∧ SG 130 133 0 11 g_s ∧ SG 139 139 0 5 g_s ∧ SG 1 4 0 11 g_undone ∧ SG 10 10 0 5 g_undone ∧ SG 25 28 0 11 g_undone ∧ SG 34 34 0 5 g_undone ∧ SG 49 52 0 11 g_undone ∧ SG 58 58 0 5 g_undone ∧ SG 73 76 0 11 g_undone ∧ SG 82 82 0 5 g_undone ∧ SG 97 100 0 11 g_undone ∧ SG 106 106 0 5 g_undone ∧ SG 121 124 0 11 g_undone ∧ SG 130 130 0 5 g_undone ∧ SG 145 148 0 11 g_undone ∧ SG 154 154 0 5 g_undone ∧ SG 169 172 0 11 g_undone ∧ SG 178 178 0 5 g_undone ∧ IR 0 1 r ∧ u = [(h0, .inr (10, vL 67 Gh)), (h_s, .inl (cI, 335, .inl g_s)), (h_undone, .inl (cI, 192, .inl g_undone))]) := by
  refine CI_mk (by decide) (Nat.le_of_ble_eq_true rfl) ?_
  intro p e s m below meth c A ls E hAe hG hsz hP hD hA hS hl
  obtain ⟨hx, hb, hr, hw, hown, hlocks, hml, hnm⟩ := E
  have hK := hG.1
  have i_x_undoMany : 0 ≤ x_undoMany.toInt ∧ x_undoMany.toInt ≤ 8 := i_x_undoMany
  have hl : lv_has ls 3 [(0, .ref h0), (1, .int p0), (2, .int p1)] := hl
  refine lv_aload_n hx hb dX10_set_0 rfl (lv_at hl 0 rfl) ?_
  refine lv_iconst (v := 0) hx hb dX10_set_1 (by decide) ?_
  refine put_f (D := D) (ci := 10) (v := .int 0) (ty := .int) (C := RX10) (T := TX10) (N := 67) hx hb hw inAX10 tyX10 tyX10_ok nmX10 hown hK hP hD hS 0 rfl rfl 0 (by decide) (hw _ q_1261) (fun _ h9 => h9) rfl (by decide +kernel) rfl rfl dX10_set_2 (fun H locs F1 eF1 hP hD hS => ?_)
  have hP : va_P D vwCl [(h0, .inr (10, vL 67 F1)), (h_s, .inl (cI, 335, .inl f_s)), (h_undone, .inl (cI, 192, .inl f_undone))] H := hP
  have hD : va_D A [(h0, .inr (10, vL 67 F1)), (h_s, .inl (cI, 335, .inl f_s)), (h_undone, .inl (cI, 192, .inl f_undone))] := hD
  refine lv_iload_n hx hb dX10_set_5 rfl (lv_at hl 1 rfl) ?_
  refine lv_if_ne (tgt := 35) hx hb dX10_set_6 (by decide) (fun c2 => ?_) (fun c2 => ?_)
  · have dc2 : p0.toInt ≠ 0 := ne_i (a := p0.toInt) (b := 0) rfl rfl c2
    refine lv_iload_n hx hb dX10_set_35 rfl (lv_at hl 1 rfl) ?_
    refine lv_iconst (v := 1) hx hb dX10_set_36 (by decide) ?_
    refine lv_icmp_ne (tgt := 64) hx hb dX10_set_37 (by decide) (fun c3 => ?_) (fun c3 => ?_)
    · have dc3 : p0.toInt ≠ 1 := ne_i (a := p0.toInt) (b := 1) rfl rfl c3
      refine lv_iload_n hx hb dX10_set_64 rfl (lv_at hl 1 rfl) ?_
      refine lv_iconst (v := 2) hx hb dX10_set_65 (by decide) ?_
      refine lv_icmp_ne (tgt := 93) hx hb dX10_set_66 (by decide) (fun c4 => ?_) (fun c4 => ?_)
      · have dc4 : p0.toInt ≠ 2 := ne_i (a := p0.toInt) (b := 2) rfl rfl c4
        refine lv_iconst (v := 0) hx hb dX10_set_93 (by decide) ?_
        exact ret_i (v := 0) hx hb hr hlocks hS hP hD dX10_set_94 rfl (Nat.le_of_ble_eq_true rfl) (Nat.le_of_ble_eq_true rfl) ⟨F1, x_undoMany, f_s, f_undone, (SAME.up eF1 SAME.rf (by decide)), (get_eq eF1), (get_ne eF1 (by decide) e_undoMany), i_x_undoMany, s_s_153, s_s_0, s_s_5, s_s_6, s_s_7, s_s_44, s_s_K0, s_s_105, s_s_114, s_s_130, s_s_139, s_undone_1, s_undone_10, s_undone_25, s_undone_34, s_undone_49, s_undone_58, s_undone_73, s_undone_82, s_undone_97, s_undone_106, s_undone_121, s_undone_130, s_undone_145, s_undone_154, s_undone_169, s_undone_178, (show 0 ≤ (0 : Int32).toInt ∧ (0 : Int32).toInt ≤ 1 by decide), rfl⟩
      · have dc4 : p0.toInt = 2 := eq_i (a := p0.toInt) (b := 2) rfl rfl c4
        have k5 : 2 ≤ p0.toInt ∧ p0.toInt ≤ 2 := ⟨Int.le_trans (Int.le_refl _) (Int.le_of_eq dc4.symm), Int.le_trans (Int.le_of_eq dc4) (Int.le_refl _)⟩
        refine lv_iload_n hx hb dX10_set_69 rfl (lv_at hl 2 rfl) ?_
        refine lv_iconst (v := 1) hx hb dX10_set_70 (by decide) ?_
        refine lv_bipush (v := 60) hx hb dX10_set_71 (by decide) ?_
        refine call_Si (wr := [(h0, .inr (10, vL 67 F1)), (h_s, .inl (cI, 335, .inl f_s)), (h_undone, .inl (cI, 192, .inl f_undone))]) (As := [.int p1, .int 1, .int 60]) (rest := []) hx hb hml hown hw (m_X10_isIn l D cI cJ cB cP cM cZ p1 1 60 _ ) wS_X10_211_X10_isIn dX10_set_73 hP hD hS hA [] [0, 1, 2] rfl rfl (by decide) (by decide) (by decide) GG.fb hG.at hl.1 rfl (Nat.le_of_ble_eq_true rfl) ⟨(Nat.le_of_ble_eq_true rfl), (Nat.le_of_ble_eq_true rfl)⟩ ⟨(Nat.le_of_ble_eq_true rfl), (Nat.le_of_ble_eq_true rfl)⟩ (fun r6 u H locs hp hP hD hS => ?_)
        have zl1 : (1 : Int32).toInt = 1 := by decide
        have zl60 : (60 : Int32).toInt = 60 := by decide
        rcases hp with ⟨t7, rfl, rfl⟩ | ⟨t8, t9, rfl, rfl⟩ | ⟨t10, t11, rfl, rfl⟩
        · have hP : va_P D vwCl [(h0, .inr (10, vL 67 F1)), (h_s, .inl (cI, 335, .inl f_s)), (h_undone, .inl (cI, 192, .inl f_undone))] H := hP
          have hD : va_D A [(h0, .inr (10, vL 67 F1)), (h_s, .inl (cI, 335, .inl f_s)), (h_undone, .inl (cI, 192, .inl f_undone))] := hD
          refine W.widen (k := 0) (n := 0) (Nat.le_of_ble_eq_true rfl) (Nat.le_of_ble_eq_true rfl) ?_
          have k13 : (-2147483648) ≤ p1.toInt ∧ p1.toInt ≤ 0 := ⟨(ir_any _).1, up_lt t7 (Int.le_refl _) (by decide)⟩
          refine lv_if_eq (tgt := 93) hx hb dX10_set_76 (by decide) (fun _ => ?_) (fun g => absurd (by decide) g)
          refine lv_iconst (v := 0) hx hb dX10_set_93 (by decide) ?_
          exact ret_i (v := 0) hx hb hr hlocks hS hP hD dX10_set_94 rfl (Nat.le_of_ble_eq_true rfl) (Nat.le_of_ble_eq_true rfl) ⟨F1, x_undoMany, f_s, f_undone, (SAME.up eF1 SAME.rf (by decide)), (get_eq eF1), (get_ne eF1 (by decide) e_undoMany), i_x_undoMany, s_s_153, s_s_0, s_s_5, s_s_6, s_s_7, s_s_44, s_s_K0, s_s_105, s_s_114, s_s_130, s_s_139, s_undone_1, s_undone_10, s_undone_25, s_undone_34, s_undone_49, s_undone_58, s_undone_73, s_undone_82, s_undone_97, s_undone_106, s_undone_121, s_undone_130, s_undone_145, s_undone_154, s_undone_169, s_undone_178, (show 0 ≤ (0 : Int32).toInt ∧ (0 : Int32).toInt ≤ 1 by decide), rfl⟩
        · have hP : va_P D vwCl [(h0, .inr (10, vL 67 F1)), (h_s, .inl (cI, 335, .inl f_s)), (h_undone, .inl (cI, 192, .inl f_undone))] H := hP
          have hD : va_D A [(h0, .inr (10, vL 67 F1)), (h_s, .inl (cI, 335, .inl f_s)), (h_undone, .inl (cI, 192, .inl f_undone))] := hD
          refine W.widen (k := 0) (n := 0) (Nat.le_of_ble_eq_true rfl) (Nat.le_of_ble_eq_true rfl) ?_
          have k14 : 1 ≤ p1.toInt ∧ p1.toInt ≤ 2147483647 := ⟨Int.le_trans (Int.le_refl _) t8, (ir_any _).2⟩
          have k15 : 61 ≤ p1.toInt ∧ p1.toInt ≤ 2147483647 := ⟨lo_lt t9 (Int.le_refl _) (by decide), k14.2⟩
          refine lv_if_eq (tgt := 93) hx hb dX10_set_76 (by decide) (fun _ => ?_) (fun g => absurd (by decide) g)
          refine lv_iconst (v := 0) hx hb dX10_set_93 (by decide) ?_
          exact ret_i (v := 0) hx hb hr hlocks hS hP hD dX10_set_94 rfl (Nat.le_of_ble_eq_true rfl) (Nat.le_of_ble_eq_true rfl) ⟨F1, x_undoMany, f_s, f_undone, (SAME.up eF1 SAME.rf (by decide)), (get_eq eF1), (get_ne eF1 (by decide) e_undoMany), i_x_undoMany, s_s_153, s_s_0, s_s_5, s_s_6, s_s_7, s_s_44, s_s_K0, s_s_105, s_s_114, s_s_130, s_s_139, s_undone_1, s_undone_10, s_undone_25, s_undone_34, s_undone_49, s_undone_58, s_undone_73, s_undone_82, s_undone_97, s_undone_106, s_undone_121, s_undone_130, s_undone_145, s_undone_154, s_undone_169, s_undone_178, (show 0 ≤ (0 : Int32).toInt ∧ (0 : Int32).toInt ≤ 1 by decide), rfl⟩
        · have hP : va_P D vwCl [(h0, .inr (10, vL 67 F1)), (h_s, .inl (cI, 335, .inl f_s)), (h_undone, .inl (cI, 192, .inl f_undone))] H := hP
          have hD : va_D A [(h0, .inr (10, vL 67 F1)), (h_s, .inl (cI, 335, .inl f_s)), (h_undone, .inl (cI, 192, .inl f_undone))] := hD
          refine W.widen (k := 0) (n := 0) (Nat.le_of_ble_eq_true rfl) (Nat.le_of_ble_eq_true rfl) ?_
          have k16 : 1 ≤ p1.toInt ∧ p1.toInt ≤ 2147483647 := ⟨Int.le_trans (Int.le_refl _) t10, (ir_any _).2⟩
          have k17 : 1 ≤ p1.toInt ∧ p1.toInt ≤ 60 := ⟨k16.1, Int.le_trans t11 (Int.le_refl _)⟩
          refine lv_if_eq (tgt := 93) hx hb dX10_set_76 (by decide) (fun g => absurd g (by decide)) (fun _ => ?_)
          refine lv_aload_n hx hb dX10_set_79 rfl (lv_at hl 0 rfl) ?_
          refine lv_bipush (v := 115) hx hb dX10_set_80 (by decide) ?_
          refine lv_iload_n hx hb dX10_set_82 rfl (lv_at hl 2 rfl) ?_
          have n18 : F1 6 = .ref h_s := (get_ne eF1 (by decide) e_s)
          have n19 : F1 39 = .ref h_undone := (get_ne eF1 (by decide) e_undone)
          have n20 : F1 41 = .int x_undoMany := (get_ne eF1 (by decide) e_undoMany)
          refine call_Vi (wr := []) (As := [.int 115, .int p1]) (rest := []) hx hb hml hown hw (m_X10_becomes l D cI cJ cB cP cM cZ h0 h_s h_undone F1 x_undoMany f_s f_undone 115 p1 _ n18 n19 n20 i_x_undoMany s_s_K0 s_s_0 s_s_105 s_s_114 s_s_130 s_s_139 s_s_153 s_s_44 s_s_5 s_s_6 s_s_7 s_undone_1 s_undone_10 s_undone_106 s_undone_121 s_undone_130 s_undone_145 s_undone_154 s_undone_169 s_undone_178 s_undone_25 s_undone_34 s_undone_49 s_undone_58 s_undone_73 s_undone_82 s_undone_97 (show 0 ≤ (115 : Int32).toInt ∧ (115 : Int32).toInt ≤ 334 by decide) (by have z0 : (115 : Int32).toInt = 115 := rfl; omega)) wV_X10_374_X10_becomes dX10_set_83 hK hP hD hS hA [0, 1, 2] [] rfl rfl (by decide) (by decide) (by decide) 0 10 rfl rfl GG.fb hG.at hl.1 rfl (Nat.le_of_ble_eq_true rfl) ⟨(Nat.le_of_ble_eq_true rfl), (Nat.le_of_ble_eq_true rfl)⟩ ⟨(Nat.le_of_ble_eq_true rfl), (Nat.le_of_ble_eq_true rfl)⟩ (fun r21 u H locs hp hP hD hS => ?_)
          have zl115 : (115 : Int32).toInt = 115 := by decide
          refine hp.elim (fun F22 h9z0 => h9z0.elim (fun y23 h9z1 => h9z1.elim (fun g24 h9z2 => h9z2.elim (fun g25 h9z3 => h9z3.elim (fun t26 h9z4 => h9z4.elim (fun t27 h9z5 => h9z5.elim (fun t28 h9z6 => h9z6.elim (fun t29 h9z7 => h9z7.elim (fun t30 h9z8 => h9z8.elim (fun t31 h9z9 => h9z9.elim (fun t32 h9z10 => h9z10.elim (fun t33 h9z11 => h9z11.elim (fun t34 h9z12 => h9z12.elim (fun t35 h9z13 => h9z13.elim (fun t36 h9z14 => h9z14.elim (fun t37 h9z15 => h9z15.elim (fun t38 h9z16 => h9z16.elim (fun t39 h9z17 => h9z17.elim (fun t40 h9z18 => h9z18.elim (fun t41 h9z19 => h9z19.elim (fun t42 h9z20 => h9z20.elim (fun t43 h9z21 => h9z21.elim (fun t44 h9z22 => h9z22.elim (fun t45 h9z23 => h9z23.elim (fun t46 h9z24 => h9z24.elim (fun t47 h9z25 => h9z25.elim (fun t48 h9z26 => h9z26.elim (fun t49 h9z27 => h9z27.elim (fun t50 h9z28 => h9z28.elim (fun t51 h9z29 => h9z29.elim (fun t52 h9z30 => h9z30.elim (fun t53 h9z31 => h9z31.elim (fun t54 h9z32 => h9z32.elim (fun t55 h9z33 => h9z33.elim (fun t56 h9z34 => ?_)))))))))))))))))))))))))))))))))))
          clear h9z0 h9z1 h9z2 h9z3 h9z4 h9z5 h9z6 h9z7 h9z8 h9z9 h9z10 h9z11 h9z12 h9z13 h9z14 h9z15 h9z16 h9z17 h9z18 h9z19 h9z20 h9z21 h9z22 h9z23 h9z24 h9z25 h9z26 h9z27 h9z28 h9z29 h9z30 h9z31 h9z32 h9z33
          subst h9z34
          have hP : va_P D vwCl [(h0, .inr (10, vL 67 F22)), (h_s, .inl (cI, 335, .inl g24)), (h_undone, .inl (cI, 192, .inl g25))] H := hP
          have hD : va_D A [(h0, .inr (10, vL 67 F22)), (h_s, .inl (cI, 335, .inl g24)), (h_undone, .inl (cI, 192, .inl g25))] := hD
          refine W.widen (k := 0) (n := 0) (Nat.le_of_ble_eq_true rfl) (Nat.le_of_ble_eq_true rfl) ?_
          refine lv_if_eq (tgt := 93) hx hb dX10_set_86 (by decide) (fun c58 => ?_) (fun c58 => ?_)
          · have dc58 : r21.toInt = 0 := eq_i (a := r21.toInt) (b := 0) rfl rfl c58
            have k59 : 0 ≤ r21.toInt ∧ r21.toInt ≤ 0 := ⟨t56.1, Int.le_trans (Int.le_of_eq dc58) (Int.le_refl _)⟩
            refine lv_iconst (v := 0) hx hb dX10_set_93 (by decide) ?_
            exact ret_i (v := 0) hx hb hr hlocks hS hP hD dX10_set_94 rfl (Nat.le_of_ble_eq_true rfl) (Nat.le_of_ble_eq_true rfl) ⟨F22, y23, g24, g25, (SAME.tr (SAME.up eF1 SAME.rf (by decide)) t26 (by decide)), (SAME.at t26 (by decide) (get_eq eF1)), t27, t28, t29, t30, t31, t32, t33, t34, t35, t36, t37, t38, t39, t40, t41, t42, t43, t44, t45, t46, t47, t48, t49, t50, t51, t52, t53, t54, t55, (show 0 ≤ (0 : Int32).toInt ∧ (0 : Int32).toInt ≤ 1 by decide), rfl⟩
          · have dc58 : r21.toInt ≠ 0 := ne_i (a := r21.toInt) (b := 0) rfl rfl c58
            have k60 : 1 ≤ r21.toInt ∧ r21.toInt ≤ 1 := ⟨ne_lo dc58 t56.1 ⟨Int.le_refl _, Int.le_refl _⟩ (by decide), t56.2⟩
            refine lv_iconst (v := 1) hx hb dX10_set_89 (by decide) ?_
            refine lv_goto (tgt := 94) hx hb dX10_set_90 (by decide) ?_
            exact ret_i (v := 1) hx hb hr hlocks hS hP hD dX10_set_94 rfl (Nat.le_of_ble_eq_true rfl) (Nat.le_of_ble_eq_true rfl) ⟨F22, y23, g24, g25, (SAME.tr (SAME.up eF1 SAME.rf (by decide)) t26 (by decide)), (SAME.at t26 (by decide) (get_eq eF1)), t27, t28, t29, t30, t31, t32, t33, t34, t35, t36, t37, t38, t39, t40, t41, t42, t43, t44, t45, t46, t47, t48, t49, t50, t51, t52, t53, t54, t55, (show 0 ≤ (1 : Int32).toInt ∧ (1 : Int32).toInt ≤ 1 by decide), rfl⟩
    · have dc3 : p0.toInt = 1 := eq_i (a := p0.toInt) (b := 1) rfl rfl c3
      have k61 : 1 ≤ p0.toInt ∧ p0.toInt ≤ 1 := ⟨Int.le_trans (Int.le_refl _) (Int.le_of_eq dc3.symm), Int.le_trans (Int.le_of_eq dc3) (Int.le_refl _)⟩
      refine lv_aload_n hx hb dX10_set_40 rfl (lv_at hl 0 rfl) ?_
      refine lv_iload_n hx hb dX10_set_41 rfl (lv_at hl 2 rfl) ?_
      have n62 : F1 6 = .ref h_s := (get_ne eF1 (by decide) e_s)
      refine call_Vi (wr := [(h_undone, .inl (cI, 192, .inl f_undone))]) (As := [.int p1]) (rest := []) hx hb hml hown hw (m_X10_isRunner l D cI cJ cB cP cM cZ h0 h_s F1 f_s p1 _ n62 s_s_K0 s_s_0 s_s_105 s_s_114 s_s_130 s_s_139 s_s_153 s_s_44 s_s_5 s_s_6 s_s_7) wV_X10_298_X10_isRunner dX10_set_42 hK hP hD hS hA [0, 1] [2] rfl rfl (by decide) (by decide) (by decide) 0 10 rfl rfl GG.fb hG.at hl.1 rfl (Nat.le_of_ble_eq_true rfl) ⟨(Nat.le_of_ble_eq_true rfl), (Nat.le_of_ble_eq_true rfl)⟩ ⟨(Nat.le_of_ble_eq_true rfl), (Nat.le_of_ble_eq_true rfl)⟩ (fun r63 u H locs hp hP hD hS => ?_)
      rcases hp with ⟨t64, rfl, rfl⟩ | ⟨t65, t66, rfl, rfl⟩ | ⟨t67, t68, rfl, rfl⟩
      · have hP : va_P D vwCl [(h_undone, .inl (cI, 192, .inl f_undone)), (h0, .inr (10, vL 67 F1)), (h_s, .inl (cI, 335, .inl f_s))] H := hP
        have hD : va_D A [(h_undone, .inl (cI, 192, .inl f_undone)), (h0, .inr (10, vL 67 F1)), (h_s, .inl (cI, 335, .inl f_s))] := hD
        refine W.widen (k := 0) (n := 0) (Nat.le_of_ble_eq_true rfl) (Nat.le_of_ble_eq_true rfl) ?_
        have k70 : (-2147483648) ≤ p1.toInt ∧ p1.toInt ≤ (-1) := ⟨(ir_any _).1, up_lt t64 (Int.le_refl _) (by decide)⟩
        refine lv_if_eq (tgt := 62) hx hb dX10_set_45 (by decide) (fun _ => ?_) (fun g => absurd (by decide) g)
        refine lv_iconst (v := 0) hx hb dX10_set_62 (by decide) ?_
        exact ret_i (v := 0) hx hb hr hlocks hS (hP.sub (ws' := [(h0, .inr (10, vL 67 F1)), (h_s, .inl (cI, 335, .inl f_s)), (h_undone, .inl (cI, 192, .inl f_undone))]) [1, 2, 0] rfl) (hD.sub (ws' := [(h0, .inr (10, vL 67 F1)), (h_s, .inl (cI, 335, .inl f_s)), (h_undone, .inl (cI, 192, .inl f_undone))]) [1, 2, 0] (by decide) rfl) dX10_set_63 rfl (Nat.le_of_ble_eq_true rfl) (Nat.le_of_ble_eq_true rfl) ⟨F1, x_undoMany, f_s, f_undone, (SAME.up eF1 SAME.rf (by decide)), (get_eq eF1), (get_ne eF1 (by decide) e_undoMany), i_x_undoMany, s_s_153, s_s_0, s_s_5, s_s_6, s_s_7, s_s_44, s_s_K0, s_s_105, s_s_114, s_s_130, s_s_139, s_undone_1, s_undone_10, s_undone_25, s_undone_34, s_undone_49, s_undone_58, s_undone_73, s_undone_82, s_undone_97, s_undone_106, s_undone_121, s_undone_130, s_undone_145, s_undone_154, s_undone_169, s_undone_178, (show 0 ≤ (0 : Int32).toInt ∧ (0 : Int32).toInt ≤ 1 by decide), rfl⟩
      · have hP : va_P D vwCl [(h_undone, .inl (cI, 192, .inl f_undone)), (h0, .inr (10, vL 67 F1)), (h_s, .inl (cI, 335, .inl f_s))] H := hP
        have hD : va_D A [(h_undone, .inl (cI, 192, .inl f_undone)), (h0, .inr (10, vL 67 F1)), (h_s, .inl (cI, 335, .inl f_s))] := hD
        refine W.widen (k := 0) (n := 0) (Nat.le_of_ble_eq_true rfl) (Nat.le_of_ble_eq_true rfl) ?_
        have k71 : 0 ≤ p1.toInt ∧ p1.toInt ≤ 2147483647 := ⟨Int.le_trans (Int.le_refl _) t65, (ir_any _).2⟩
        refine lv_if_eq (tgt := 62) hx hb dX10_set_45 (by decide) (fun _ => ?_) (fun g => absurd (by decide) g)
        refine lv_iconst (v := 0) hx hb dX10_set_62 (by decide) ?_
        exact ret_i (v := 0) hx hb hr hlocks hS (hP.sub (ws' := [(h0, .inr (10, vL 67 F1)), (h_s, .inl (cI, 335, .inl f_s)), (h_undone, .inl (cI, 192, .inl f_undone))]) [1, 2, 0] rfl) (hD.sub (ws' := [(h0, .inr (10, vL 67 F1)), (h_s, .inl (cI, 335, .inl f_s)), (h_undone, .inl (cI, 192, .inl f_undone))]) [1, 2, 0] (by decide) rfl) dX10_set_63 rfl (Nat.le_of_ble_eq_true rfl) (Nat.le_of_ble_eq_true rfl) ⟨F1, x_undoMany, f_s, f_undone, (SAME.up eF1 SAME.rf (by decide)), (get_eq eF1), (get_ne eF1 (by decide) e_undoMany), i_x_undoMany, s_s_153, s_s_0, s_s_5, s_s_6, s_s_7, s_s_44, s_s_K0, s_s_105, s_s_114, s_s_130, s_s_139, s_undone_1, s_undone_10, s_undone_25, s_undone_34, s_undone_49, s_undone_58, s_undone_73, s_undone_82, s_undone_97, s_undone_106, s_undone_121, s_undone_130, s_undone_145, s_undone_154, s_undone_169, s_undone_178, (show 0 ≤ (0 : Int32).toInt ∧ (0 : Int32).toInt ≤ 1 by decide), rfl⟩
      · have hP : va_P D vwCl [(h_undone, .inl (cI, 192, .inl f_undone)), (h0, .inr (10, vL 67 F1)), (h_s, .inl (cI, 335, .inl f_s))] H := hP
        have hD : va_D A [(h_undone, .inl (cI, 192, .inl f_undone)), (h0, .inr (10, vL 67 F1)), (h_s, .inl (cI, 335, .inl f_s))] := hD
        refine W.widen (k := 0) (n := 0) (Nat.le_of_ble_eq_true rfl) (Nat.le_of_ble_eq_true rfl) ?_
        have k72 : 0 ≤ p1.toInt ∧ p1.toInt ≤ 2147483647 := ⟨Int.le_trans (Int.le_refl _) t67, (ir_any _).2⟩
        have k73 : 0 ≤ p1.toInt ∧ p1.toInt ≤ 5 := ⟨k72.1, Int.le_trans t68 (Int.le_refl _)⟩
        refine lv_if_eq (tgt := 62) hx hb dX10_set_45 (by decide) (fun g => absurd g (by decide)) (fun _ => ?_)
        refine lv_aload_n hx hb dX10_set_48 rfl (lv_at hl 0 rfl) ?_
        refine lv_bipush (v := 114) hx hb dX10_set_49 (by decide) ?_
        refine lv_iload_n hx hb dX10_set_51 rfl (lv_at hl 2 rfl) ?_
        have n74 : F1 39 = .ref h_undone := (get_ne eF1 (by decide) e_undone)
        have n75 : F1 41 = .int x_undoMany := (get_ne eF1 (by decide) e_undoMany)
        refine call_Vi (wr := []) (As := [.int 114, .int p1]) (rest := []) hx hb hml hown hw (m_X10_becomes l D cI cJ cB cP cM cZ h0 h_s h_undone F1 x_undoMany f_s f_undone 114 p1 _ n62 n74 n75 i_x_undoMany s_s_K0 s_s_0 s_s_105 s_s_114 s_s_130 s_s_139 s_s_153 s_s_44 s_s_5 s_s_6 s_s_7 s_undone_1 s_undone_10 s_undone_106 s_undone_121 s_undone_130 s_undone_145 s_undone_154 s_undone_169 s_undone_178 s_undone_25 s_undone_34 s_undone_49 s_undone_58 s_undone_73 s_undone_82 s_undone_97 (show 0 ≤ (114 : Int32).toInt ∧ (114 : Int32).toInt ≤ 334 by decide) (by have z0 : (114 : Int32).toInt = 114 := rfl; omega)) wV_X10_374_X10_becomes dX10_set_52 hK hP hD hS hA [1, 2, 0] [] rfl rfl (by decide) (by decide) (by decide) 0 10 rfl rfl GG.fb hG.at hl.1 rfl (Nat.le_of_ble_eq_true rfl) ⟨(Nat.le_of_ble_eq_true rfl), (Nat.le_of_ble_eq_true rfl)⟩ ⟨(Nat.le_of_ble_eq_true rfl), (Nat.le_of_ble_eq_true rfl)⟩ (fun r76 u H locs hp hP hD hS => ?_)
        have zl114 : (114 : Int32).toInt = 114 := by decide
        refine hp.elim (fun F77 h9z0 => h9z0.elim (fun y78 h9z1 => h9z1.elim (fun g79 h9z2 => h9z2.elim (fun g80 h9z3 => h9z3.elim (fun t81 h9z4 => h9z4.elim (fun t82 h9z5 => h9z5.elim (fun t83 h9z6 => h9z6.elim (fun t84 h9z7 => h9z7.elim (fun t85 h9z8 => h9z8.elim (fun t86 h9z9 => h9z9.elim (fun t87 h9z10 => h9z10.elim (fun t88 h9z11 => h9z11.elim (fun t89 h9z12 => h9z12.elim (fun t90 h9z13 => h9z13.elim (fun t91 h9z14 => h9z14.elim (fun t92 h9z15 => h9z15.elim (fun t93 h9z16 => h9z16.elim (fun t94 h9z17 => h9z17.elim (fun t95 h9z18 => h9z18.elim (fun t96 h9z19 => h9z19.elim (fun t97 h9z20 => h9z20.elim (fun t98 h9z21 => h9z21.elim (fun t99 h9z22 => h9z22.elim (fun t100 h9z23 => h9z23.elim (fun t101 h9z24 => h9z24.elim (fun t102 h9z25 => h9z25.elim (fun t103 h9z26 => h9z26.elim (fun t104 h9z27 => h9z27.elim (fun t105 h9z28 => h9z28.elim (fun t106 h9z29 => h9z29.elim (fun t107 h9z30 => h9z30.elim (fun t108 h9z31 => h9z31.elim (fun t109 h9z32 => h9z32.elim (fun t110 h9z33 => h9z33.elim (fun t111 h9z34 => ?_)))))))))))))))))))))))))))))))))))
        clear h9z0 h9z1 h9z2 h9z3 h9z4 h9z5 h9z6 h9z7 h9z8 h9z9 h9z10 h9z11 h9z12 h9z13 h9z14 h9z15 h9z16 h9z17 h9z18 h9z19 h9z20 h9z21 h9z22 h9z23 h9z24 h9z25 h9z26 h9z27 h9z28 h9z29 h9z30 h9z31 h9z32 h9z33
        subst h9z34
        have hP : va_P D vwCl [(h0, .inr (10, vL 67 F77)), (h_s, .inl (cI, 335, .inl g79)), (h_undone, .inl (cI, 192, .inl g80))] H := hP
        have hD : va_D A [(h0, .inr (10, vL 67 F77)), (h_s, .inl (cI, 335, .inl g79)), (h_undone, .inl (cI, 192, .inl g80))] := hD
        refine W.widen (k := 0) (n := 0) (Nat.le_of_ble_eq_true rfl) (Nat.le_of_ble_eq_true rfl) ?_
        refine lv_if_eq (tgt := 62) hx hb dX10_set_55 (by decide) (fun c113 => ?_) (fun c113 => ?_)
        · have dc113 : r76.toInt = 0 := eq_i (a := r76.toInt) (b := 0) rfl rfl c113
          have k114 : 0 ≤ r76.toInt ∧ r76.toInt ≤ 0 := ⟨t111.1, Int.le_trans (Int.le_of_eq dc113) (Int.le_refl _)⟩
          refine lv_iconst (v := 0) hx hb dX10_set_62 (by decide) ?_
          exact ret_i (v := 0) hx hb hr hlocks hS hP hD dX10_set_63 rfl (Nat.le_of_ble_eq_true rfl) (Nat.le_of_ble_eq_true rfl) ⟨F77, y78, g79, g80, (SAME.tr (SAME.up eF1 SAME.rf (by decide)) t81 (by decide)), (SAME.at t81 (by decide) (get_eq eF1)), t82, t83, t84, t85, t86, t87, t88, t89, t90, t91, t92, t93, t94, t95, t96, t97, t98, t99, t100, t101, t102, t103, t104, t105, t106, t107, t108, t109, t110, (show 0 ≤ (0 : Int32).toInt ∧ (0 : Int32).toInt ≤ 1 by decide), rfl⟩
        · have dc113 : r76.toInt ≠ 0 := ne_i (a := r76.toInt) (b := 0) rfl rfl c113
          have k115 : 1 ≤ r76.toInt ∧ r76.toInt ≤ 1 := ⟨ne_lo dc113 t111.1 ⟨Int.le_refl _, Int.le_refl _⟩ (by decide), t111.2⟩
          refine lv_iconst (v := 1) hx hb dX10_set_58 (by decide) ?_
          refine lv_goto (tgt := 63) hx hb dX10_set_59 (by decide) ?_
          exact ret_i (v := 1) hx hb hr hlocks hS hP hD dX10_set_63 rfl (Nat.le_of_ble_eq_true rfl) (Nat.le_of_ble_eq_true rfl) ⟨F77, y78, g79, g80, (SAME.tr (SAME.up eF1 SAME.rf (by decide)) t81 (by decide)), (SAME.at t81 (by decide) (get_eq eF1)), t82, t83, t84, t85, t86, t87, t88, t89, t90, t91, t92, t93, t94, t95, t96, t97, t98, t99, t100, t101, t102, t103, t104, t105, t106, t107, t108, t109, t110, (show 0 ≤ (1 : Int32).toInt ∧ (1 : Int32).toInt ≤ 1 by decide), rfl⟩
  · have dc2 : p0.toInt = 0 := eq_i (a := p0.toInt) (b := 0) rfl rfl c2
    have k116 : 0 ≤ p0.toInt ∧ p0.toInt ≤ 0 := ⟨Int.le_trans (Int.le_refl _) (Int.le_of_eq dc2.symm), Int.le_trans (Int.le_of_eq dc2) (Int.le_refl _)⟩
    refine lv_iload_n hx hb dX10_set_9 rfl (lv_at hl 2 rfl) ?_
    refine lv_iconst (v := 0) hx hb dX10_set_10 (by decide) ?_
    refine lv_bipush (v := 99) hx hb dX10_set_11 (by decide) ?_
    refine call_Si (wr := [(h0, .inr (10, vL 67 F1)), (h_s, .inl (cI, 335, .inl f_s)), (h_undone, .inl (cI, 192, .inl f_undone))]) (As := [.int p1, .int 0, .int 99]) (rest := []) hx hb hml hown hw (m_X10_isIn l D cI cJ cB cP cM cZ p1 0 99 _ ) wS_X10_211_X10_isIn dX10_set_13 hP hD hS hA [] [0, 1, 2] rfl rfl (by decide) (by decide) (by decide) GG.fb hG.at hl.1 rfl (Nat.le_of_ble_eq_true rfl) ⟨(Nat.le_of_ble_eq_true rfl), (Nat.le_of_ble_eq_true rfl)⟩ ⟨(Nat.le_of_ble_eq_true rfl), (Nat.le_of_ble_eq_true rfl)⟩ (fun r117 u H locs hp hP hD hS => ?_)
    have zl0 : (0 : Int32).toInt = 0 := by decide
    have zl99 : (99 : Int32).toInt = 99 := by decide
    rcases hp with ⟨t118, rfl, rfl⟩ | ⟨t119, t120, rfl, rfl⟩ | ⟨t121, t122, rfl, rfl⟩
    · have hP : va_P D vwCl [(h0, .inr (10, vL 67 F1)), (h_s, .inl (cI, 335, .inl f_s)), (h_undone, .inl (cI, 192, .inl f_undone))] H := hP
      have hD : va_D A [(h0, .inr (10, vL 67 F1)), (h_s, .inl (cI, 335, .inl f_s)), (h_undone, .inl (cI, 192, .inl f_undone))] := hD
      refine W.widen (k := 0) (n := 0) (Nat.le_of_ble_eq_true rfl) (Nat.le_of_ble_eq_true rfl) ?_
      have k124 : (-2147483648) ≤ p1.toInt ∧ p1.toInt ≤ (-1) := ⟨(ir_any _).1, up_lt t118 (Int.le_refl _) (by decide)⟩
      refine lv_if_eq (tgt := 33) hx hb dX10_set_16 (by decide) (fun _ => ?_) (fun g => absurd (by decide) g)
      refine lv_iconst (v := 0) hx hb dX10_set_33 (by decide) ?_
      exact ret_i (v := 0) hx hb hr hlocks hS hP hD dX10_set_34 rfl (Nat.le_of_ble_eq_true rfl) (Nat.le_of_ble_eq_true rfl) ⟨F1, x_undoMany, f_s, f_undone, (SAME.up eF1 SAME.rf (by decide)), (get_eq eF1), (get_ne eF1 (by decide) e_undoMany), i_x_undoMany, s_s_153, s_s_0, s_s_5, s_s_6, s_s_7, s_s_44, s_s_K0, s_s_105, s_s_114, s_s_130, s_s_139, s_undone_1, s_undone_10, s_undone_25, s_undone_34, s_undone_49, s_undone_58, s_undone_73, s_undone_82, s_undone_97, s_undone_106, s_undone_121, s_undone_130, s_undone_145, s_undone_154, s_undone_169, s_undone_178, (show 0 ≤ (0 : Int32).toInt ∧ (0 : Int32).toInt ≤ 1 by decide), rfl⟩
    · have hP : va_P D vwCl [(h0, .inr (10, vL 67 F1)), (h_s, .inl (cI, 335, .inl f_s)), (h_undone, .inl (cI, 192, .inl f_undone))] H := hP
      have hD : va_D A [(h0, .inr (10, vL 67 F1)), (h_s, .inl (cI, 335, .inl f_s)), (h_undone, .inl (cI, 192, .inl f_undone))] := hD
      refine W.widen (k := 0) (n := 0) (Nat.le_of_ble_eq_true rfl) (Nat.le_of_ble_eq_true rfl) ?_
      have k125 : 0 ≤ p1.toInt ∧ p1.toInt ≤ 2147483647 := ⟨Int.le_trans (Int.le_refl _) t119, (ir_any _).2⟩
      have k126 : 100 ≤ p1.toInt ∧ p1.toInt ≤ 2147483647 := ⟨lo_lt t120 (Int.le_refl _) (by decide), k125.2⟩
      refine lv_if_eq (tgt := 33) hx hb dX10_set_16 (by decide) (fun _ => ?_) (fun g => absurd (by decide) g)
      refine lv_iconst (v := 0) hx hb dX10_set_33 (by decide) ?_
      exact ret_i (v := 0) hx hb hr hlocks hS hP hD dX10_set_34 rfl (Nat.le_of_ble_eq_true rfl) (Nat.le_of_ble_eq_true rfl) ⟨F1, x_undoMany, f_s, f_undone, (SAME.up eF1 SAME.rf (by decide)), (get_eq eF1), (get_ne eF1 (by decide) e_undoMany), i_x_undoMany, s_s_153, s_s_0, s_s_5, s_s_6, s_s_7, s_s_44, s_s_K0, s_s_105, s_s_114, s_s_130, s_s_139, s_undone_1, s_undone_10, s_undone_25, s_undone_34, s_undone_49, s_undone_58, s_undone_73, s_undone_82, s_undone_97, s_undone_106, s_undone_121, s_undone_130, s_undone_145, s_undone_154, s_undone_169, s_undone_178, (show 0 ≤ (0 : Int32).toInt ∧ (0 : Int32).toInt ≤ 1 by decide), rfl⟩
    · have hP : va_P D vwCl [(h0, .inr (10, vL 67 F1)), (h_s, .inl (cI, 335, .inl f_s)), (h_undone, .inl (cI, 192, .inl f_undone))] H := hP
      have hD : va_D A [(h0, .inr (10, vL 67 F1)), (h_s, .inl (cI, 335, .inl f_s)), (h_undone, .inl (cI, 192, .inl f_undone))] := hD
      refine W.widen (k := 0) (n := 0) (Nat.le_of_ble_eq_true rfl) (Nat.le_of_ble_eq_true rfl) ?_
      have k127 : 0 ≤ p1.toInt ∧ p1.toInt ≤ 2147483647 := ⟨Int.le_trans (Int.le_refl _) t121, (ir_any _).2⟩
      have k128 : 0 ≤ p1.toInt ∧ p1.toInt ≤ 99 := ⟨k127.1, Int.le_trans t122 (Int.le_refl _)⟩
      refine lv_if_eq (tgt := 33) hx hb dX10_set_16 (by decide) (fun g => absurd g (by decide)) (fun _ => ?_)
      refine lv_aload_n hx hb dX10_set_19 rfl (lv_at hl 0 rfl) ?_
      refine lv_bipush (v := 113) hx hb dX10_set_20 (by decide) ?_
      refine lv_iload_n hx hb dX10_set_22 rfl (lv_at hl 2 rfl) ?_
      have n129 : F1 6 = .ref h_s := (get_ne eF1 (by decide) e_s)
      have n130 : F1 39 = .ref h_undone := (get_ne eF1 (by decide) e_undone)
      have n131 : F1 41 = .int x_undoMany := (get_ne eF1 (by decide) e_undoMany)
      refine call_Vi (wr := []) (As := [.int 113, .int p1]) (rest := []) hx hb hml hown hw (m_X10_becomes l D cI cJ cB cP cM cZ h0 h_s h_undone F1 x_undoMany f_s f_undone 113 p1 _ n129 n130 n131 i_x_undoMany s_s_K0 s_s_0 s_s_105 s_s_114 s_s_130 s_s_139 s_s_153 s_s_44 s_s_5 s_s_6 s_s_7 s_undone_1 s_undone_10 s_undone_106 s_undone_121 s_undone_130 s_undone_145 s_undone_154 s_undone_169 s_undone_178 s_undone_25 s_undone_34 s_undone_49 s_undone_58 s_undone_73 s_undone_82 s_undone_97 (show 0 ≤ (113 : Int32).toInt ∧ (113 : Int32).toInt ≤ 334 by decide) (by have z0 : (113 : Int32).toInt = 113 := rfl; omega)) wV_X10_374_X10_becomes dX10_set_23 hK hP hD hS hA [0, 1, 2] [] rfl rfl (by decide) (by decide) (by decide) 0 10 rfl rfl GG.fb hG.at hl.1 rfl (Nat.le_of_ble_eq_true rfl) ⟨(Nat.le_of_ble_eq_true rfl), (Nat.le_of_ble_eq_true rfl)⟩ ⟨(Nat.le_of_ble_eq_true rfl), (Nat.le_of_ble_eq_true rfl)⟩ (fun r132 u H locs hp hP hD hS => ?_)
      have zl113 : (113 : Int32).toInt = 113 := by decide
      refine hp.elim (fun F133 h9z0 => h9z0.elim (fun y134 h9z1 => h9z1.elim (fun g135 h9z2 => h9z2.elim (fun g136 h9z3 => h9z3.elim (fun t137 h9z4 => h9z4.elim (fun t138 h9z5 => h9z5.elim (fun t139 h9z6 => h9z6.elim (fun t140 h9z7 => h9z7.elim (fun t141 h9z8 => h9z8.elim (fun t142 h9z9 => h9z9.elim (fun t143 h9z10 => h9z10.elim (fun t144 h9z11 => h9z11.elim (fun t145 h9z12 => h9z12.elim (fun t146 h9z13 => h9z13.elim (fun t147 h9z14 => h9z14.elim (fun t148 h9z15 => h9z15.elim (fun t149 h9z16 => h9z16.elim (fun t150 h9z17 => h9z17.elim (fun t151 h9z18 => h9z18.elim (fun t152 h9z19 => h9z19.elim (fun t153 h9z20 => h9z20.elim (fun t154 h9z21 => h9z21.elim (fun t155 h9z22 => h9z22.elim (fun t156 h9z23 => h9z23.elim (fun t157 h9z24 => h9z24.elim (fun t158 h9z25 => h9z25.elim (fun t159 h9z26 => h9z26.elim (fun t160 h9z27 => h9z27.elim (fun t161 h9z28 => h9z28.elim (fun t162 h9z29 => h9z29.elim (fun t163 h9z30 => h9z30.elim (fun t164 h9z31 => h9z31.elim (fun t165 h9z32 => h9z32.elim (fun t166 h9z33 => h9z33.elim (fun t167 h9z34 => ?_)))))))))))))))))))))))))))))))))))
      clear h9z0 h9z1 h9z2 h9z3 h9z4 h9z5 h9z6 h9z7 h9z8 h9z9 h9z10 h9z11 h9z12 h9z13 h9z14 h9z15 h9z16 h9z17 h9z18 h9z19 h9z20 h9z21 h9z22 h9z23 h9z24 h9z25 h9z26 h9z27 h9z28 h9z29 h9z30 h9z31 h9z32 h9z33
      subst h9z34
      have hP : va_P D vwCl [(h0, .inr (10, vL 67 F133)), (h_s, .inl (cI, 335, .inl g135)), (h_undone, .inl (cI, 192, .inl g136))] H := hP
      have hD : va_D A [(h0, .inr (10, vL 67 F133)), (h_s, .inl (cI, 335, .inl g135)), (h_undone, .inl (cI, 192, .inl g136))] := hD
      refine W.widen (k := 0) (n := 0) (Nat.le_of_ble_eq_true rfl) (Nat.le_of_ble_eq_true rfl) ?_
      refine lv_if_eq (tgt := 33) hx hb dX10_set_26 (by decide) (fun c169 => ?_) (fun c169 => ?_)
      · have dc169 : r132.toInt = 0 := eq_i (a := r132.toInt) (b := 0) rfl rfl c169
        have k170 : 0 ≤ r132.toInt ∧ r132.toInt ≤ 0 := ⟨t167.1, Int.le_trans (Int.le_of_eq dc169) (Int.le_refl _)⟩
        refine lv_iconst (v := 0) hx hb dX10_set_33 (by decide) ?_
        exact ret_i (v := 0) hx hb hr hlocks hS hP hD dX10_set_34 rfl (Nat.le_of_ble_eq_true rfl) (Nat.le_of_ble_eq_true rfl) ⟨F133, y134, g135, g136, (SAME.tr (SAME.up eF1 SAME.rf (by decide)) t137 (by decide)), (SAME.at t137 (by decide) (get_eq eF1)), t138, t139, t140, t141, t142, t143, t144, t145, t146, t147, t148, t149, t150, t151, t152, t153, t154, t155, t156, t157, t158, t159, t160, t161, t162, t163, t164, t165, t166, (show 0 ≤ (0 : Int32).toInt ∧ (0 : Int32).toInt ≤ 1 by decide), rfl⟩
      · have dc169 : r132.toInt ≠ 0 := ne_i (a := r132.toInt) (b := 0) rfl rfl c169
        have k171 : 1 ≤ r132.toInt ∧ r132.toInt ≤ 1 := ⟨ne_lo dc169 t167.1 ⟨Int.le_refl _, Int.le_refl _⟩ (by decide), t167.2⟩
        refine lv_iconst (v := 1) hx hb dX10_set_29 (by decide) ?_
        refine lv_goto (tgt := 34) hx hb dX10_set_30 (by decide) ?_
        exact ret_i (v := 1) hx hb hr hlocks hS hP hD dX10_set_34 rfl (Nat.le_of_ble_eq_true rfl) (Nat.le_of_ble_eq_true rfl) ⟨F133, y134, g135, g136, (SAME.tr (SAME.up eF1 SAME.rf (by decide)) t137 (by decide)), (SAME.at t137 (by decide) (get_eq eF1)), t138, t139, t140, t141, t142, t143, t144, t145, t146, t147, t148, t149, t150, t151, t152, t153, t154, t155, t156, t157, t158, t159, t160, t161, t162, t163, t164, t165, t166, (show 0 ≤ (1 : Int32).toInt ∧ (1 : Int32).toInt ≤ 1 by decide), rfl⟩
set_option maxHeartbeats 4000000 in
set_option maxRecDepth 100000 in
theorem m_X10_swap (l : Launch) (D : va_G) (cI cJ cB cP cM cZ : ClassId) (h0 : Nat) (h_s : Nat) (h_undone : Nat) (Fh : Nat → Value) (x_undoMany : Int32) (f_s : Nat → Int32) (f_undone : Nat → Int32) (p0 : Int32) (p1 : Int32) (sz : Nat) (e_s : Fh 6 = .ref h_s) (e_undone : Fh 39 = .ref h_undone) (e_undoMany : Fh 41 = .int x_undoMany) (i_x_undoMany : IR 0 8 x_undoMany) (s_s_K0 : KW 0 f_s) (s_s_0 : SG 0 0 0 40 f_s) (s_s_105 : SG 105 108 0 11 f_s) (s_s_114 : SG 114 114 0 5 f_s) (s_s_130 : SG 130 133 0 11 f_s) (s_s_139 : SG 139 139 0 5 f_s) (s_s_153 : SG 153 153 0 44 f_s) (s_s_44 : SG 44 55 0 9 f_s) (s_s_5 : SG 5 5 0 12 f_s) (s_s_6 : SG 6 6 0 12 f_s) (s_s_7 : SG 7 7 0 6 f_s) (s_undone_1 : SG 1 4 0 11 f_undone) (s_undone_10 : SG 10 10 0 5 f_undone) (s_undone_106 : SG 106 106 0 5 f_undone) (s_undone_121 : SG 121 124 0 11 f_undone) (s_undone_130 : SG 130 130 0 5 f_undone) (s_undone_145 : SG 145 148 0 11 f_undone) (s_undone_154 : SG 154 154 0 5 f_undone) (s_undone_169 : SG 169 172 0 11 f_undone) (s_undone_178 : SG 178 178 0 5 f_undone) (s_undone_25 : SG 25 28 0 11 f_undone) (s_undone_34 : SG 34 34 0 5 f_undone) (s_undone_49 : SG 49 52 0 11 f_undone) (s_undone_58 : SG 58 58 0 5 f_undone) (s_undone_73 : SG 73 76 0 11 f_undone) (s_undone_82 : SG 82 82 0 5 f_undone) (s_undone_97 : SG 97 100 0 11 f_undone) : CI l yX10_swap cX10_swap 5 (some .boolean) { frames := 1, cells := 0, slots := 0, locals := 22 } (GG D cI cJ cB cP cM cZ) D [(h0, .inr (10, vL 67 Fh)), (h_s, .inl (cI, 335, .inl f_s)), (h_undone, .inl (cI, 192, .inl f_undone))] sz [.ref h0, .int p0, .int p1] (fun (r : Int32) (u : va_W) => ∃ (Gh : Nat → Value) (y_undoMany : Int32) (g_s : Nat → Int32) (g_undone : Nat → Int32), SAME [0, 41] Fh Gh ∧ Gh 0 = .int 0 ∧ Gh 41 = .int y_undoMany ∧ IR 0 8 y_undoMany ∧ SG 153 153 0 44 g_s ∧ SG 0 0 0 40 g_s ∧ SG 5 5 0 12 g_s ∧ SG 6 6 0 12 g_s ∧ SG 7 7 0 6 g_s ∧ SG 44 55 0 9 g_s ∧ KW 0 g_s ∧ SG 105 108 0 11 g_s ∧ SG 114 114 0 5 g_s ∧ SG 130 133 0 11 g_s ∧ SG 139 139 0 5 g_s ∧ SG 1 4 0 11 g_undone ∧ SG 10 10 0 5 g_undone ∧ SG 25 28 0 11 g_undone ∧ SG 34 34 0 5 g_undone ∧ SG 49 52 0 11 g_undone ∧ SG 58 58 0 5 g_undone ∧ SG 73 76 0 11 g_undone ∧ SG 82 82 0 5 g_undone ∧ SG 97 100 0 11 g_undone ∧ SG 106 106 0 5 g_undone ∧ SG 121 124 0 11 g_undone ∧ SG 130 130 0 5 g_undone ∧ SG 145 148 0 11 g_undone ∧ SG 154 154 0 5 g_undone ∧ SG 169 172 0 11 g_undone ∧ SG 178 178 0 5 g_undone ∧ IR 0 1 r ∧ u = [(h0, .inr (10, vL 67 Gh)), (h_s, .inl (cI, 335, .inl g_s)), (h_undone, .inl (cI, 192, .inl g_undone))]) := by
  refine CI_mk (by decide) (Nat.le_of_ble_eq_true rfl) ?_
  intro p e s m below meth c A ls E hAe hG hsz hP hD hA hS hl
  obtain ⟨hx, hb, hr, hw, hown, hlocks, hml, hnm⟩ := E
  have hK := hG.1
  have i_x_undoMany : 0 ≤ x_undoMany.toInt ∧ x_undoMany.toInt ≤ 8 := i_x_undoMany
  have hl : lv_has ls 5 [(0, .ref h0), (1, .int p0), (2, .int p1)] := hl
  refine lv_aload_n hx hb dX10_swap_0 rfl (lv_at hl 0 rfl) ?_
  refine lv_iconst (v := 0) hx hb dX10_swap_1 (by decide) ?_
  refine put_f (D := D) (ci := 10) (v := .int 0) (ty := .int) (C := RX10) (T := TX10) (N := 67) hx hb hw inAX10 tyX10 tyX10_ok nmX10 hown hK hP hD hS 0 rfl rfl 0 (by decide) (hw _ q_1261) (fun _ h9 => h9) rfl (by decide +kernel) rfl rfl dX10_swap_2 (fun H locs F1 eF1 hP hD hS => ?_)
  have hP : va_P D vwCl [(h0, .inr (10, vL 67 F1)), (h_s, .inl (cI, 335, .inl f_s)), (h_undone, .inl (cI, 192, .inl f_undone))] H := hP
  have hD : va_D A [(h0, .inr (10, vL 67 F1)), (h_s, .inl (cI, 335, .inl f_s)), (h_undone, .inl (cI, 192, .inl f_undone))] := hD
  refine lv_aload_n hx hb dX10_swap_5 rfl (lv_at hl 0 rfl) ?_
  have n2 : F1 6 = .ref h_s := (get_ne eF1 (by decide) e_s)
  refine call_Vi (wr := [(h_undone, .inl (cI, 192, .inl f_undone))]) (As := []) (rest := []) hx hb hml hown hw (m_X10_hasCrew l D cI cJ cB cP cM cZ h0 h_s F1 f_s _ n2 s_s_K0 s_s_0 s_s_105 s_s_114 s_s_130 s_s_139 s_s_153 s_s_44 s_s_5 s_s_6 s_s_7) wV_X10_281_X10_hasCrew dX10_swap_6 hK hP hD hS hA [0, 1] [2] rfl rfl (by decide) (by decide) (by decide) 0 10 rfl rfl GG.fb hG.at hl.1 rfl (Nat.le_of_ble_eq_true rfl) ⟨(Nat.le_of_ble_eq_true rfl), (Nat.le_of_ble_eq_true rfl)⟩ ⟨(Nat.le_of_ble_eq_true rfl), (Nat.le_of_ble_eq_true rfl)⟩ (fun r3 u H locs hp hP hD hS => ?_)
  rcases hp with ⟨rfl, rfl⟩ | ⟨rfl, rfl⟩
  · have hP : va_P D vwCl [(h_undone, .inl (cI, 192, .inl f_undone)), (h0, .inr (10, vL 67 F1)), (h_s, .inl (cI, 335, .inl f_s))] H := hP
    have hD : va_D A [(h_undone, .inl (cI, 192, .inl f_undone)), (h0, .inr (10, vL 67 F1)), (h_s, .inl (cI, 335, .inl f_s))] := hD
    refine W.widen (k := 0) (n := 0) (Nat.le_of_ble_eq_true rfl) (Nat.le_of_ble_eq_true rfl) ?_
    refine lv_if_eq (tgt := 35) hx hb dX10_swap_9 (by decide) (fun _ => ?_) (fun g => absurd (by decide) g)
    refine lv_iconst (v := 0) hx hb dX10_swap_35 (by decide) ?_
    exact ret_i (v := 0) hx hb hr hlocks hS (hP.sub (ws' := [(h0, .inr (10, vL 67 F1)), (h_s, .inl (cI, 335, .inl f_s)), (h_undone, .inl (cI, 192, .inl f_undone))]) [1, 2, 0] rfl) (hD.sub (ws' := [(h0, .inr (10, vL 67 F1)), (h_s, .inl (cI, 335, .inl f_s)), (h_undone, .inl (cI, 192, .inl f_undone))]) [1, 2, 0] (by decide) rfl) dX10_swap_36 rfl (Nat.le_of_ble_eq_true rfl) (Nat.le_of_ble_eq_true rfl) ⟨F1, x_undoMany, f_s, f_undone, (SAME.up eF1 SAME.rf (by decide)), (get_eq eF1), (get_ne eF1 (by decide) e_undoMany), i_x_undoMany, s_s_153, s_s_0, s_s_5, s_s_6, s_s_7, s_s_44, s_s_K0, s_s_105, s_s_114, s_s_130, s_s_139, s_undone_1, s_undone_10, s_undone_25, s_undone_34, s_undone_49, s_undone_58, s_undone_73, s_undone_82, s_undone_97, s_undone_106, s_undone_121, s_undone_130, s_undone_145, s_undone_154, s_undone_169, s_undone_178, (show 0 ≤ (0 : Int32).toInt ∧ (0 : Int32).toInt ≤ 1 by decide), rfl⟩
  · have hP : va_P D vwCl [(h_undone, .inl (cI, 192, .inl f_undone)), (h0, .inr (10, vL 67 F1)), (h_s, .inl (cI, 335, .inl f_s))] H := hP
    have hD : va_D A [(h_undone, .inl (cI, 192, .inl f_undone)), (h0, .inr (10, vL 67 F1)), (h_s, .inl (cI, 335, .inl f_s))] := hD
    refine W.widen (k := 0) (n := 0) (Nat.le_of_ble_eq_true rfl) (Nat.le_of_ble_eq_true rfl) ?_
    refine lv_if_eq (tgt := 35) hx hb dX10_swap_9 (by decide) (fun g => absurd g (by decide)) (fun _ => ?_)
    refine lv_iload_n hx hb dX10_swap_12 rfl (lv_at hl 1 rfl) ?_
    refine lv_iconst (v := 0) hx hb dX10_swap_13 (by decide) ?_
    refine lv_iconst (v := 3) hx hb dX10_swap_14 (by decide) ?_
    refine call_Si (wr := [(h_undone, .inl (cI, 192, .inl f_undone)), (h0, .inr (10, vL 67 F1)), (h_s, .inl (cI, 335, .inl f_s))]) (As := [.int p0, .int 0, .int 3]) (rest := []) hx hb hml hown hw (m_X10_isIn l D cI cJ cB cP cM cZ p0 0 3 _ ) wS_X10_211_X10_isIn dX10_swap_15 hP hD hS hA [] [0, 1, 2] rfl rfl (by decide) (by decide) (by decide) GG.fb hG.at hl.1 rfl (Nat.le_of_ble_eq_true rfl) ⟨(Nat.le_of_ble_eq_true rfl), (Nat.le_of_ble_eq_true rfl)⟩ ⟨(Nat.le_of_ble_eq_true rfl), (Nat.le_of_ble_eq_true rfl)⟩ (fun r5 u H locs hp hP hD hS => ?_)
    have zl0 : (0 : Int32).toInt = 0 := by decide
    have zl3 : (3 : Int32).toInt = 3 := by decide
    rcases hp with ⟨t6, rfl, rfl⟩ | ⟨t7, t8, rfl, rfl⟩ | ⟨t9, t10, rfl, rfl⟩
    · have hP : va_P D vwCl [(h_undone, .inl (cI, 192, .inl f_undone)), (h0, .inr (10, vL 67 F1)), (h_s, .inl (cI, 335, .inl f_s))] H := hP
      have hD : va_D A [(h_undone, .inl (cI, 192, .inl f_undone)), (h0, .inr (10, vL 67 F1)), (h_s, .inl (cI, 335, .inl f_s))] := hD
      refine W.widen (k := 0) (n := 0) (Nat.le_of_ble_eq_true rfl) (Nat.le_of_ble_eq_true rfl) ?_
      have k12 : (-2147483648) ≤ p0.toInt ∧ p0.toInt ≤ (-1) := ⟨(ir_any _).1, up_lt t6 (Int.le_refl _) (by decide)⟩
      refine lv_if_eq (tgt := 35) hx hb dX10_swap_18 (by decide) (fun _ => ?_) (fun g => absurd (by decide) g)
      refine lv_iconst (v := 0) hx hb dX10_swap_35 (by decide) ?_
      exact ret_i (v := 0) hx hb hr hlocks hS (hP.sub (ws' := [(h0, .inr (10, vL 67 F1)), (h_s, .inl (cI, 335, .inl f_s)), (h_undone, .inl (cI, 192, .inl f_undone))]) [1, 2, 0] rfl) (hD.sub (ws' := [(h0, .inr (10, vL 67 F1)), (h_s, .inl (cI, 335, .inl f_s)), (h_undone, .inl (cI, 192, .inl f_undone))]) [1, 2, 0] (by decide) rfl) dX10_swap_36 rfl (Nat.le_of_ble_eq_true rfl) (Nat.le_of_ble_eq_true rfl) ⟨F1, x_undoMany, f_s, f_undone, (SAME.up eF1 SAME.rf (by decide)), (get_eq eF1), (get_ne eF1 (by decide) e_undoMany), i_x_undoMany, s_s_153, s_s_0, s_s_5, s_s_6, s_s_7, s_s_44, s_s_K0, s_s_105, s_s_114, s_s_130, s_s_139, s_undone_1, s_undone_10, s_undone_25, s_undone_34, s_undone_49, s_undone_58, s_undone_73, s_undone_82, s_undone_97, s_undone_106, s_undone_121, s_undone_130, s_undone_145, s_undone_154, s_undone_169, s_undone_178, (show 0 ≤ (0 : Int32).toInt ∧ (0 : Int32).toInt ≤ 1 by decide), rfl⟩
    · have hP : va_P D vwCl [(h_undone, .inl (cI, 192, .inl f_undone)), (h0, .inr (10, vL 67 F1)), (h_s, .inl (cI, 335, .inl f_s))] H := hP
      have hD : va_D A [(h_undone, .inl (cI, 192, .inl f_undone)), (h0, .inr (10, vL 67 F1)), (h_s, .inl (cI, 335, .inl f_s))] := hD
      refine W.widen (k := 0) (n := 0) (Nat.le_of_ble_eq_true rfl) (Nat.le_of_ble_eq_true rfl) ?_
      have k13 : 0 ≤ p0.toInt ∧ p0.toInt ≤ 2147483647 := ⟨Int.le_trans (Int.le_refl _) t7, (ir_any _).2⟩
      have k14 : 4 ≤ p0.toInt ∧ p0.toInt ≤ 2147483647 := ⟨lo_lt t8 (Int.le_refl _) (by decide), k13.2⟩
      refine lv_if_eq (tgt := 35) hx hb dX10_swap_18 (by decide) (fun _ => ?_) (fun g => absurd (by decide) g)
      refine lv_iconst (v := 0) hx hb dX10_swap_35 (by decide) ?_
      exact ret_i (v := 0) hx hb hr hlocks hS (hP.sub (ws' := [(h0, .inr (10, vL 67 F1)), (h_s, .inl (cI, 335, .inl f_s)), (h_undone, .inl (cI, 192, .inl f_undone))]) [1, 2, 0] rfl) (hD.sub (ws' := [(h0, .inr (10, vL 67 F1)), (h_s, .inl (cI, 335, .inl f_s)), (h_undone, .inl (cI, 192, .inl f_undone))]) [1, 2, 0] (by decide) rfl) dX10_swap_36 rfl (Nat.le_of_ble_eq_true rfl) (Nat.le_of_ble_eq_true rfl) ⟨F1, x_undoMany, f_s, f_undone, (SAME.up eF1 SAME.rf (by decide)), (get_eq eF1), (get_ne eF1 (by decide) e_undoMany), i_x_undoMany, s_s_153, s_s_0, s_s_5, s_s_6, s_s_7, s_s_44, s_s_K0, s_s_105, s_s_114, s_s_130, s_s_139, s_undone_1, s_undone_10, s_undone_25, s_undone_34, s_undone_49, s_undone_58, s_undone_73, s_undone_82, s_undone_97, s_undone_106, s_undone_121, s_undone_130, s_undone_145, s_undone_154, s_undone_169, s_undone_178, (show 0 ≤ (0 : Int32).toInt ∧ (0 : Int32).toInt ≤ 1 by decide), rfl⟩
    · have hP : va_P D vwCl [(h_undone, .inl (cI, 192, .inl f_undone)), (h0, .inr (10, vL 67 F1)), (h_s, .inl (cI, 335, .inl f_s))] H := hP
      have hD : va_D A [(h_undone, .inl (cI, 192, .inl f_undone)), (h0, .inr (10, vL 67 F1)), (h_s, .inl (cI, 335, .inl f_s))] := hD
      refine W.widen (k := 0) (n := 0) (Nat.le_of_ble_eq_true rfl) (Nat.le_of_ble_eq_true rfl) ?_
      have k15 : 0 ≤ p0.toInt ∧ p0.toInt ≤ 2147483647 := ⟨Int.le_trans (Int.le_refl _) t9, (ir_any _).2⟩
      have k16 : 0 ≤ p0.toInt ∧ p0.toInt ≤ 3 := ⟨k15.1, Int.le_trans t10 (Int.le_refl _)⟩
      refine lv_if_eq (tgt := 35) hx hb dX10_swap_18 (by decide) (fun g => absurd g (by decide)) (fun _ => ?_)
      refine lv_iload_n hx hb dX10_swap_21 rfl (lv_at hl 2 rfl) ?_
      refine lv_iconst (v := 0) hx hb dX10_swap_22 (by decide) ?_
      refine lv_iconst (v := 3) hx hb dX10_swap_23 (by decide) ?_
      refine call_Si (wr := [(h_undone, .inl (cI, 192, .inl f_undone)), (h0, .inr (10, vL 67 F1)), (h_s, .inl (cI, 335, .inl f_s))]) (As := [.int p1, .int 0, .int 3]) (rest := []) hx hb hml hown hw (m_X10_isIn l D cI cJ cB cP cM cZ p1 0 3 _ ) wS_X10_211_X10_isIn dX10_swap_24 hP hD hS hA [] [0, 1, 2] rfl rfl (by decide) (by decide) (by decide) GG.fb hG.at hl.1 rfl (Nat.le_of_ble_eq_true rfl) ⟨(Nat.le_of_ble_eq_true rfl), (Nat.le_of_ble_eq_true rfl)⟩ ⟨(Nat.le_of_ble_eq_true rfl), (Nat.le_of_ble_eq_true rfl)⟩ (fun r17 u H locs hp hP hD hS => ?_)
      rcases hp with ⟨t18, rfl, rfl⟩ | ⟨t19, t20, rfl, rfl⟩ | ⟨t21, t22, rfl, rfl⟩
      · have hP : va_P D vwCl [(h_undone, .inl (cI, 192, .inl f_undone)), (h0, .inr (10, vL 67 F1)), (h_s, .inl (cI, 335, .inl f_s))] H := hP
        have hD : va_D A [(h_undone, .inl (cI, 192, .inl f_undone)), (h0, .inr (10, vL 67 F1)), (h_s, .inl (cI, 335, .inl f_s))] := hD
        refine W.widen (k := 0) (n := 0) (Nat.le_of_ble_eq_true rfl) (Nat.le_of_ble_eq_true rfl) ?_
        have k24 : (-2147483648) ≤ p1.toInt ∧ p1.toInt ≤ (-1) := ⟨(ir_any _).1, up_lt t18 (Int.le_refl _) (by decide)⟩
        refine lv_if_eq (tgt := 35) hx hb dX10_swap_27 (by decide) (fun _ => ?_) (fun g => absurd (by decide) g)
        refine lv_iconst (v := 0) hx hb dX10_swap_35 (by decide) ?_
        exact ret_i (v := 0) hx hb hr hlocks hS (hP.sub (ws' := [(h0, .inr (10, vL 67 F1)), (h_s, .inl (cI, 335, .inl f_s)), (h_undone, .inl (cI, 192, .inl f_undone))]) [1, 2, 0] rfl) (hD.sub (ws' := [(h0, .inr (10, vL 67 F1)), (h_s, .inl (cI, 335, .inl f_s)), (h_undone, .inl (cI, 192, .inl f_undone))]) [1, 2, 0] (by decide) rfl) dX10_swap_36 rfl (Nat.le_of_ble_eq_true rfl) (Nat.le_of_ble_eq_true rfl) ⟨F1, x_undoMany, f_s, f_undone, (SAME.up eF1 SAME.rf (by decide)), (get_eq eF1), (get_ne eF1 (by decide) e_undoMany), i_x_undoMany, s_s_153, s_s_0, s_s_5, s_s_6, s_s_7, s_s_44, s_s_K0, s_s_105, s_s_114, s_s_130, s_s_139, s_undone_1, s_undone_10, s_undone_25, s_undone_34, s_undone_49, s_undone_58, s_undone_73, s_undone_82, s_undone_97, s_undone_106, s_undone_121, s_undone_130, s_undone_145, s_undone_154, s_undone_169, s_undone_178, (show 0 ≤ (0 : Int32).toInt ∧ (0 : Int32).toInt ≤ 1 by decide), rfl⟩
      · have hP : va_P D vwCl [(h_undone, .inl (cI, 192, .inl f_undone)), (h0, .inr (10, vL 67 F1)), (h_s, .inl (cI, 335, .inl f_s))] H := hP
        have hD : va_D A [(h_undone, .inl (cI, 192, .inl f_undone)), (h0, .inr (10, vL 67 F1)), (h_s, .inl (cI, 335, .inl f_s))] := hD
        refine W.widen (k := 0) (n := 0) (Nat.le_of_ble_eq_true rfl) (Nat.le_of_ble_eq_true rfl) ?_
        have k25 : 0 ≤ p1.toInt ∧ p1.toInt ≤ 2147483647 := ⟨Int.le_trans (Int.le_refl _) t19, (ir_any _).2⟩
        have k26 : 4 ≤ p1.toInt ∧ p1.toInt ≤ 2147483647 := ⟨lo_lt t20 (Int.le_refl _) (by decide), k25.2⟩
        refine lv_if_eq (tgt := 35) hx hb dX10_swap_27 (by decide) (fun _ => ?_) (fun g => absurd (by decide) g)
        refine lv_iconst (v := 0) hx hb dX10_swap_35 (by decide) ?_
        exact ret_i (v := 0) hx hb hr hlocks hS (hP.sub (ws' := [(h0, .inr (10, vL 67 F1)), (h_s, .inl (cI, 335, .inl f_s)), (h_undone, .inl (cI, 192, .inl f_undone))]) [1, 2, 0] rfl) (hD.sub (ws' := [(h0, .inr (10, vL 67 F1)), (h_s, .inl (cI, 335, .inl f_s)), (h_undone, .inl (cI, 192, .inl f_undone))]) [1, 2, 0] (by decide) rfl) dX10_swap_36 rfl (Nat.le_of_ble_eq_true rfl) (Nat.le_of_ble_eq_true rfl) ⟨F1, x_undoMany, f_s, f_undone, (SAME.up eF1 SAME.rf (by decide)), (get_eq eF1), (get_ne eF1 (by decide) e_undoMany), i_x_undoMany, s_s_153, s_s_0, s_s_5, s_s_6, s_s_7, s_s_44, s_s_K0, s_s_105, s_s_114, s_s_130, s_s_139, s_undone_1, s_undone_10, s_undone_25, s_undone_34, s_undone_49, s_undone_58, s_undone_73, s_undone_82, s_undone_97, s_undone_106, s_undone_121, s_undone_130, s_undone_145, s_undone_154, s_undone_169, s_undone_178, (show 0 ≤ (0 : Int32).toInt ∧ (0 : Int32).toInt ≤ 1 by decide), rfl⟩
      · have hP : va_P D vwCl [(h_undone, .inl (cI, 192, .inl f_undone)), (h0, .inr (10, vL 67 F1)), (h_s, .inl (cI, 335, .inl f_s))] H := hP
        have hD : va_D A [(h_undone, .inl (cI, 192, .inl f_undone)), (h0, .inr (10, vL 67 F1)), (h_s, .inl (cI, 335, .inl f_s))] := hD
        refine W.widen (k := 0) (n := 0) (Nat.le_of_ble_eq_true rfl) (Nat.le_of_ble_eq_true rfl) ?_
        have k27 : 0 ≤ p1.toInt ∧ p1.toInt ≤ 2147483647 := ⟨Int.le_trans (Int.le_refl _) t21, (ir_any _).2⟩
        have k28 : 0 ≤ p1.toInt ∧ p1.toInt ≤ 3 := ⟨k27.1, Int.le_trans t22 (Int.le_refl _)⟩
        refine lv_if_eq (tgt := 35) hx hb dX10_swap_27 (by decide) (fun g => absurd g (by decide)) (fun _ => ?_)
        refine lv_iload_n hx hb dX10_swap_30 rfl (lv_at hl 1 rfl) ?_
        refine lv_iload_n hx hb dX10_swap_31 rfl (lv_at hl 2 rfl) ?_
        refine lv_icmp_ne (tgt := 37) hx hb dX10_swap_32 (by decide) (fun c29 => ?_) (fun c29 => ?_)
        · have dc29 : p0.toInt ≠ p1.toInt := ne_i (a := p0.toInt) (b := p1.toInt) rfl rfl c29
          refine lv_aload_n hx hb dX10_swap_37 rfl (lv_at hl 0 rfl) ?_
          have n30 : F1 39 = .ref h_undone := (get_ne eF1 (by decide) e_undone)
          have n31 : F1 41 = .int x_undoMany := (get_ne eF1 (by decide) e_undoMany)
          refine call_Vv (wr := []) (As := []) (rest := []) hx hb hml hown hw (m_X10_keeps l D cI cJ cB cP cM cZ h0 h_s h_undone F1 x_undoMany f_s f_undone _ n2 n30 n31 i_x_undoMany s_s_K0 s_s_0 s_s_105 s_s_114 s_s_130 s_s_139 s_s_153 s_s_44 s_s_5 s_s_6 s_s_7 s_undone_1 s_undone_10 s_undone_106 s_undone_121 s_undone_130 s_undone_145 s_undone_154 s_undone_169 s_undone_178 s_undone_25 s_undone_34 s_undone_49 s_undone_58 s_undone_73 s_undone_82 s_undone_97) wV_X10_371_X10_keeps dX10_swap_38 hK hP hD hS hA [1, 2, 0] [] rfl rfl (by decide) (by decide) (by decide) 0 10 rfl rfl GG.fb hG.at hl.1 rfl (Nat.le_of_ble_eq_true rfl) ⟨(Nat.le_of_ble_eq_true rfl), (Nat.le_of_ble_eq_true rfl)⟩ ⟨(Nat.le_of_ble_eq_true rfl), (Nat.le_of_ble_eq_true rfl)⟩ (fun u H locs hp hP hD hS => ?_)
          obtain ⟨F33, y34, g35, t36, t37, t38, t39, t40, t41, t42, t43, t44, t45, t46, t47, t48, t49, t50, t51, t52, t53, t54, rfl⟩ := hp
          have hP : va_P D vwCl [(h0, .inr (10, vL 67 F33)), (h_s, .inl (cI, 335, .inl f_s)), (h_undone, .inl (cI, 192, .inl g35))] H := hP
          have hD : va_D A [(h0, .inr (10, vL 67 F33)), (h_s, .inl (cI, 335, .inl f_s)), (h_undone, .inl (cI, 192, .inl g35))] := hD
          refine W.widen (k := 0) (n := 0) (Nat.le_of_ble_eq_true rfl) (Nat.le_of_ble_eq_true rfl) ?_
          refine lv_aload_n hx hb dX10_swap_41 rfl (lv_at hl 0 rfl) ?_
          have n56 : F33 6 = .ref h_s := (SAME.at t36 (by decide) n2)
          refine get_f (D := D) (ci := 10) (v := .ref h_s) (C := RX10) (T := TX10) (N := 67) hx hb hw inAX10 hown hK hP 0 rfl rfl 6 (by decide) (hw _ q_1267) (fun _ h9 => h9) n56 dX10_swap_42 ?_
          refine lv_bipush (v := 105) hx hb dX10_swap_45 (by decide) ?_
          refine lv_iload_n hx hb dX10_swap_47 rfl (lv_at hl 1 rfl) ?_
          refine lv_iadd hx hb dX10_swap_48 ?_
          refine lv_topi (fun v57 ev57 => ?_)
          have bv57 : v57.toInt = 105 + p0.toInt := by rw [ev57]; exact add_k rfl rfl ⟨Int.le_refl _, Int.le_refl _⟩ k16 (by decide)
          have k58 : 105 ≤ v57.toInt ∧ v57.toInt ≤ 108 := add_r bv57 ⟨Int.le_refl _, Int.le_refl _⟩ k16 (by decide)
          refine va_iald hx hb hK hP 1 0 rfl rfl (ix_k k58 (by decide) (by decide)) dX10_swap_49 ?_
          refine lv_topi (fun v59 ev59 => ?_)
          have k60 : 0 ≤ v59.toInt ∧ v59.toInt ≤ 11 := by rw [ev59]; exact s_s_105.at _ (Int.le_trans (by decide) k58.1) (Int.le_trans k58.2 (by decide))
          refine lv_istore_n (lv' := [(3, .int v59), (0, .ref h0), (1, .int p0), (2, .int p1)]) hx hb dX10_swap_50 rfl hl (by decide) rfl (fun ls hl => ?_)
          refine lv_aload_n hx hb dX10_swap_51 rfl (lv_at hl 1 rfl) ?_
          refine get_f (D := D) (ci := 10) (v := .ref h_s) (C := RX10) (T := TX10) (N := 67) hx hb hw inAX10 hown hK hP 0 rfl rfl 6 (by decide) (hw _ q_1267) (fun _ h9 => h9) n56 dX10_swap_52 ?_
          refine lv_bipush (v := 109) hx hb dX10_swap_55 (by decide) ?_
          refine lv_iload_n hx hb dX10_swap_57 rfl (lv_at hl 2 rfl) ?_
          refine lv_iadd hx hb dX10_swap_58 ?_
          refine lv_topi (fun v61 ev61 => ?_)
          have bv61 : v61.toInt = 109 + p0.toInt := by rw [ev61]; exact add_k rfl rfl ⟨Int.le_refl _, Int.le_refl _⟩ k16 (by decide)
          have k62 : 109 ≤ v61.toInt ∧ v61.toInt ≤ 112 := add_r bv61 ⟨Int.le_refl _, Int.le_refl _⟩ k16 (by decide)
          refine va_iald hx hb hK hP 1 0 rfl rfl (ix_k k62 (by decide) (by decide)) dX10_swap_59 ?_
          refine lv_topi (fun v63 ev63 => ?_)
          refine lv_istore (lv' := [(4, .int v63), (3, .int v59), (0, .ref h0), (1, .int p0), (2, .int p1)]) hx hb dX10_swap_60 hl (by decide) rfl (fun ls hl => ?_)
          refine lv_aload_n hx hb dX10_swap_62 rfl (lv_at hl 2 rfl) ?_
          refine get_f (D := D) (ci := 10) (v := .ref h_s) (C := RX10) (T := TX10) (N := 67) hx hb hw inAX10 hown hK hP 0 rfl rfl 6 (by decide) (hw _ q_1267) (fun _ h9 => h9) n56 dX10_swap_63 ?_
          refine lv_bipush (v := 105) hx hb dX10_swap_66 (by decide) ?_
          refine lv_iload_n hx hb dX10_swap_68 rfl (lv_at hl 3 rfl) ?_
          refine lv_iadd hx hb dX10_swap_69 ?_
          refine lv_ci (y := v57) ev57.symm ?_
          refine lv_aload_n hx hb dX10_swap_70 rfl (lv_at hl 2 rfl) ?_
          refine get_f (D := D) (ci := 10) (v := .ref h_s) (C := RX10) (T := TX10) (N := 67) hx hb hw inAX10 hown hK hP 0 rfl rfl 6 (by decide) (hw _ q_1267) (fun _ h9 => h9) n56 dX10_swap_71 ?_
          refine lv_bipush (v := 105) hx hb dX10_swap_74 (by decide) ?_
          refine lv_iload_n hx hb dX10_swap_76 rfl (lv_at hl 4 rfl) ?_
          refine lv_iadd hx hb dX10_swap_77 ?_
          refine lv_topi (fun v64 ev64 => ?_)
          have bv64 : v64.toInt = 105 + p1.toInt := by rw [ev64]; exact add_k rfl rfl ⟨Int.le_refl _, Int.le_refl _⟩ k28 (by decide)
          have k65 : 105 ≤ v64.toInt ∧ v64.toInt ≤ 108 := add_r bv64 ⟨Int.le_refl _, Int.le_refl _⟩ k28 (by decide)
          refine va_iald hx hb hK hP 1 0 rfl rfl (ix_k k65 (by decide) (by decide)) dX10_swap_78 ?_
          refine lv_topi (fun v66 ev66 => ?_)
          have k67 : 0 ≤ v66.toInt ∧ v66.toInt ≤ 11 := by rw [ev66]; exact s_s_105.at _ (Int.le_trans (by decide) k65.1) (Int.le_trans k65.2 (by decide))
          obtain ⟨g68, eg68⟩ : ∃ z : Nat → Int32, upd f_s v57.toNatClampNeg v66 = z := ⟨_, rfl⟩
          have r69 : KW 0 g68 := by rw [← eg68]; exact s_s_K0.up (Int.le_trans (by decide) k58.1) (Or.inl (lt_dec k58.2 (by decide)))
          have r70 : SG 0 0 0 40 g68 := by rw [← eg68]; exact s_s_0.up (Int.le_trans (by decide) k58.1) (Or.inr (Or.inr (ir_wk k67 (by decide) (by decide))))
          have r71 : SG 105 108 0 11 g68 := by rw [← eg68]; exact s_s_105.up (Int.le_trans (by decide) k58.1) (Or.inr (Or.inr (ir_wk k67 (by decide) (by decide))))
          have r72 : SG 114 114 0 5 g68 := by rw [← eg68]; exact s_s_114.up (Int.le_trans (by decide) k58.1) (Or.inl (lt_dec k58.2 (by decide)))
          have r73 : SG 130 133 0 11 g68 := by rw [← eg68]; exact s_s_130.up (Int.le_trans (by decide) k58.1) (Or.inr (Or.inr (ir_wk k67 (by decide) (by decide))))
          have r74 : SG 139 139 0 5 g68 := by rw [← eg68]; exact s_s_139.up (Int.le_trans (by decide) k58.1) (Or.inl (lt_dec k58.2 (by decide)))
          have r75 : SG 153 153 0 44 g68 := by rw [← eg68]; exact s_s_153.up (Int.le_trans (by decide) k58.1) (Or.inr (Or.inr (ir_wk k67 (by decide) (by decide))))
          have r76 : SG 44 55 0 9 g68 := by rw [← eg68]; exact s_s_44.up (Int.le_trans (by decide) k58.1) (Or.inr (Or.inl (dec_lt k58.1 (by decide))))
          have r77 : SG 5 5 0 12 g68 := by rw [← eg68]; exact s_s_5.up (Int.le_trans (by decide) k58.1) (Or.inr (Or.inr (ir_wk k67 (by decide) (by decide))))
          have r78 : SG 6 6 0 12 g68 := by rw [← eg68]; exact s_s_6.up (Int.le_trans (by decide) k58.1) (Or.inr (Or.inr (ir_wk k67 (by decide) (by decide))))
          have r79 : SG 7 7 0 6 g68 := by rw [← eg68]; exact s_s_7.up (Int.le_trans (by decide) k58.1) (Or.inr (Or.inl (dec_lt k58.1 (by decide))))
          refine iast_g hx hb hK hP hD hS 1 0 rfl rfl (ix_k k58 (by decide) (by decide)) eg68 dX10_swap_79 (fun H locs hP hD hS => ?_)
          have hP : va_P D vwCl [(h0, .inr (10, vL 67 F33)), (h_s, .inl (cI, 335, .inl g68)), (h_undone, .inl (cI, 192, .inl g35))] H := hP
          have hD : va_D A [(h0, .inr (10, vL 67 F33)), (h_s, .inl (cI, 335, .inl g68)), (h_undone, .inl (cI, 192, .inl g35))] := hD
          refine lv_aload_n hx hb dX10_swap_80 rfl (lv_at hl 2 rfl) ?_
          refine get_f (D := D) (ci := 10) (v := .ref h_s) (C := RX10) (T := TX10) (N := 67) hx hb hw inAX10 hown hK hP 0 rfl rfl 6 (by decide) (hw _ q_1267) (fun _ h9 => h9) n56 dX10_swap_81 ?_
          refine lv_bipush (v := 109) hx hb dX10_swap_84 (by decide) ?_
          refine lv_iload_n hx hb dX10_swap_86 rfl (lv_at hl 3 rfl) ?_
          refine lv_iadd hx hb dX10_swap_87 ?_
          refine lv_ci (y := v61) ev61.symm ?_
          refine lv_aload_n hx hb dX10_swap_88 rfl (lv_at hl 2 rfl) ?_
          refine get_f (D := D) (ci := 10) (v := .ref h_s) (C := RX10) (T := TX10) (N := 67) hx hb hw inAX10 hown hK hP 0 rfl rfl 6 (by decide) (hw _ q_1267) (fun _ h9 => h9) n56 dX10_swap_89 ?_
          refine lv_bipush (v := 109) hx hb dX10_swap_92 (by decide) ?_
          refine lv_iload_n hx hb dX10_swap_94 rfl (lv_at hl 4 rfl) ?_
          refine lv_iadd hx hb dX10_swap_95 ?_
          refine lv_topi (fun v80 ev80 => ?_)
          have bv80 : v80.toInt = 109 + p1.toInt := by rw [ev80]; exact add_k rfl rfl ⟨Int.le_refl _, Int.le_refl _⟩ k28 (by decide)
          have k81 : 109 ≤ v80.toInt ∧ v80.toInt ≤ 112 := add_r bv80 ⟨Int.le_refl _, Int.le_refl _⟩ k28 (by decide)
          refine va_iald hx hb hK hP 1 0 rfl rfl (ix_k k81 (by decide) (by decide)) dX10_swap_96 ?_
          refine lv_topi (fun v82 ev82 => ?_)
          obtain ⟨g83, eg83⟩ : ∃ z : Nat → Int32, upd g68 v61.toNatClampNeg v82 = z := ⟨_, rfl⟩
          have r84 : KW 0 g83 := by rw [← eg83]; exact r69.up (Int.le_trans (by decide) k62.1) (Or.inl (lt_dec k62.2 (by decide)))
          have r85 : SG 0 0 0 40 g83 := by rw [← eg83]; exact r70.up (Int.le_trans (by decide) k62.1) (Or.inr (Or.inl (dec_lt k62.1 (by decide))))
          have r86 : SG 105 108 0 11 g83 := by rw [← eg83]; exact r71.up (Int.le_trans (by decide) k62.1) (Or.inr (Or.inl (dec_lt k62.1 (by decide))))
          have r87 : SG 114 114 0 5 g83 := by rw [← eg83]; exact r72.up (Int.le_trans (by decide) k62.1) (Or.inl (lt_dec k62.2 (by decide)))
          have r88 : SG 130 133 0 11 g83 := by rw [← eg83]; exact r73.up (Int.le_trans (by decide) k62.1) (Or.inl (lt_dec k62.2 (by decide)))
          have r89 : SG 139 139 0 5 g83 := by rw [← eg83]; exact r74.up (Int.le_trans (by decide) k62.1) (Or.inl (lt_dec k62.2 (by decide)))
          have r90 : SG 153 153 0 44 g83 := by rw [← eg83]; exact r75.up (Int.le_trans (by decide) k62.1) (Or.inl (lt_dec k62.2 (by decide)))
          have r91 : SG 44 55 0 9 g83 := by rw [← eg83]; exact r76.up (Int.le_trans (by decide) k62.1) (Or.inr (Or.inl (dec_lt k62.1 (by decide))))
          have r92 : SG 5 5 0 12 g83 := by rw [← eg83]; exact r77.up (Int.le_trans (by decide) k62.1) (Or.inr (Or.inl (dec_lt k62.1 (by decide))))
          have r93 : SG 6 6 0 12 g83 := by rw [← eg83]; exact r78.up (Int.le_trans (by decide) k62.1) (Or.inr (Or.inl (dec_lt k62.1 (by decide))))
          have r94 : SG 7 7 0 6 g83 := by rw [← eg83]; exact r79.up (Int.le_trans (by decide) k62.1) (Or.inr (Or.inl (dec_lt k62.1 (by decide))))
          refine iast_g hx hb hK hP hD hS 1 0 rfl rfl (ix_k k62 (by decide) (by decide)) eg83 dX10_swap_97 (fun H locs hP hD hS => ?_)
          have hP : va_P D vwCl [(h0, .inr (10, vL 67 F33)), (h_s, .inl (cI, 335, .inl g83)), (h_undone, .inl (cI, 192, .inl g35))] H := hP
          have hD : va_D A [(h0, .inr (10, vL 67 F33)), (h_s, .inl (cI, 335, .inl g83)), (h_undone, .inl (cI, 192, .inl g35))] := hD
          refine lv_aload_n hx hb dX10_swap_98 rfl (lv_at hl 2 rfl) ?_
          refine get_f (D := D) (ci := 10) (v := .ref h_s) (C := RX10) (T := TX10) (N := 67) hx hb hw inAX10 hown hK hP 0 rfl rfl 6 (by decide) (hw _ q_1267) (fun _ h9 => h9) n56 dX10_swap_99 ?_
          refine lv_bipush (v := 105) hx hb dX10_swap_102 (by decide) ?_
          refine lv_iload_n hx hb dX10_swap_104 rfl (lv_at hl 4 rfl) ?_
          refine lv_iadd hx hb dX10_swap_105 ?_
          refine lv_ci (y := v64) ev64.symm ?_
          refine lv_iload_n hx hb dX10_swap_106 rfl (lv_at hl 1 rfl) ?_
          obtain ⟨g95, eg95⟩ : ∃ z : Nat → Int32, upd g83 v64.toNatClampNeg v59 = z := ⟨_, rfl⟩
          have r96 : KW 0 g95 := by rw [← eg95]; exact r84.up (Int.le_trans (by decide) k65.1) (Or.inl (lt_dec k65.2 (by decide)))
          have r97 : SG 0 0 0 40 g95 := by rw [← eg95]; exact r85.up (Int.le_trans (by decide) k65.1) (Or.inr (Or.inr (ir_wk k60 (by decide) (by decide))))
          have r98 : SG 105 108 0 11 g95 := by rw [← eg95]; exact r86.up (Int.le_trans (by decide) k65.1) (Or.inr (Or.inr (ir_wk k60 (by decide) (by decide))))
          have r99 : SG 114 114 0 5 g95 := by rw [← eg95]; exact r87.up (Int.le_trans (by decide) k65.1) (Or.inl (lt_dec k65.2 (by decide)))
          have r100 : SG 130 133 0 11 g95 := by rw [← eg95]; exact r88.up (Int.le_trans (by decide) k65.1) (Or.inr (Or.inr (ir_wk k60 (by decide) (by decide))))
          have r101 : SG 139 139 0 5 g95 := by rw [← eg95]; exact r89.up (Int.le_trans (by decide) k65.1) (Or.inl (lt_dec k65.2 (by decide)))
          have r102 : SG 153 153 0 44 g95 := by rw [← eg95]; exact r90.up (Int.le_trans (by decide) k65.1) (Or.inr (Or.inr (ir_wk k60 (by decide) (by decide))))
          have r103 : SG 44 55 0 9 g95 := by rw [← eg95]; exact r91.up (Int.le_trans (by decide) k65.1) (Or.inr (Or.inl (dec_lt k65.1 (by decide))))
          have r104 : SG 5 5 0 12 g95 := by rw [← eg95]; exact r92.up (Int.le_trans (by decide) k65.1) (Or.inr (Or.inr (ir_wk k60 (by decide) (by decide))))
          have r105 : SG 6 6 0 12 g95 := by rw [← eg95]; exact r93.up (Int.le_trans (by decide) k65.1) (Or.inr (Or.inr (ir_wk k60 (by decide) (by decide))))
          have r106 : SG 7 7 0 6 g95 := by rw [← eg95]; exact r94.up (Int.le_trans (by decide) k65.1) (Or.inr (Or.inl (dec_lt k65.1 (by decide))))
          refine iast_g hx hb hK hP hD hS 1 0 rfl rfl (ix_k k65 (by decide) (by decide)) eg95 dX10_swap_107 (fun H locs hP hD hS => ?_)
          have hP : va_P D vwCl [(h0, .inr (10, vL 67 F33)), (h_s, .inl (cI, 335, .inl g95)), (h_undone, .inl (cI, 192, .inl g35))] H := hP
          have hD : va_D A [(h0, .inr (10, vL 67 F33)), (h_s, .inl (cI, 335, .inl g95)), (h_undone, .inl (cI, 192, .inl g35))] := hD
          refine lv_aload_n hx hb dX10_swap_108 rfl (lv_at hl 2 rfl) ?_
          refine get_f (D := D) (ci := 10) (v := .ref h_s) (C := RX10) (T := TX10) (N := 67) hx hb hw inAX10 hown hK hP 0 rfl rfl 6 (by decide) (hw _ q_1267) (fun _ h9 => h9) n56 dX10_swap_109 ?_
          refine lv_bipush (v := 109) hx hb dX10_swap_112 (by decide) ?_
          refine lv_iload_n hx hb dX10_swap_114 rfl (lv_at hl 4 rfl) ?_
          refine lv_iadd hx hb dX10_swap_115 ?_
          refine lv_ci (y := v80) ev80.symm ?_
          refine lv_iload hx hb dX10_swap_116 (lv_at hl 0 rfl) ?_
          obtain ⟨g107, eg107⟩ : ∃ z : Nat → Int32, upd g95 v80.toNatClampNeg v63 = z := ⟨_, rfl⟩
          have r108 : KW 0 g107 := by rw [← eg107]; exact r96.up (Int.le_trans (by decide) k81.1) (Or.inl (lt_dec k81.2 (by decide)))
          have r109 : SG 0 0 0 40 g107 := by rw [← eg107]; exact r97.up (Int.le_trans (by decide) k81.1) (Or.inr (Or.inl (dec_lt k81.1 (by decide))))
          have r110 : SG 105 108 0 11 g107 := by rw [← eg107]; exact r98.up (Int.le_trans (by decide) k81.1) (Or.inr (Or.inl (dec_lt k81.1 (by decide))))
          have r111 : SG 114 114 0 5 g107 := by rw [← eg107]; exact r99.up (Int.le_trans (by decide) k81.1) (Or.inl (lt_dec k81.2 (by decide)))
          have r112 : SG 130 133 0 11 g107 := by rw [← eg107]; exact r100.up (Int.le_trans (by decide) k81.1) (Or.inl (lt_dec k81.2 (by decide)))
          have r113 : SG 139 139 0 5 g107 := by rw [← eg107]; exact r101.up (Int.le_trans (by decide) k81.1) (Or.inl (lt_dec k81.2 (by decide)))
          have r114 : SG 153 153 0 44 g107 := by rw [← eg107]; exact r102.up (Int.le_trans (by decide) k81.1) (Or.inl (lt_dec k81.2 (by decide)))
          have r115 : SG 44 55 0 9 g107 := by rw [← eg107]; exact r103.up (Int.le_trans (by decide) k81.1) (Or.inr (Or.inl (dec_lt k81.1 (by decide))))
          have r116 : SG 5 5 0 12 g107 := by rw [← eg107]; exact r104.up (Int.le_trans (by decide) k81.1) (Or.inr (Or.inl (dec_lt k81.1 (by decide))))
          have r117 : SG 6 6 0 12 g107 := by rw [← eg107]; exact r105.up (Int.le_trans (by decide) k81.1) (Or.inr (Or.inl (dec_lt k81.1 (by decide))))
          have r118 : SG 7 7 0 6 g107 := by rw [← eg107]; exact r106.up (Int.le_trans (by decide) k81.1) (Or.inr (Or.inl (dec_lt k81.1 (by decide))))
          refine iast_g hx hb hK hP hD hS 1 0 rfl rfl (ix_k k81 (by decide) (by decide)) eg107 dX10_swap_118 (fun H locs hP hD hS => ?_)
          have hP : va_P D vwCl [(h0, .inr (10, vL 67 F33)), (h_s, .inl (cI, 335, .inl g107)), (h_undone, .inl (cI, 192, .inl g35))] H := hP
          have hD : va_D A [(h0, .inr (10, vL 67 F33)), (h_s, .inl (cI, 335, .inl g107)), (h_undone, .inl (cI, 192, .inl g35))] := hD
          refine lv_iconst (v := 1) hx hb dX10_swap_119 (by decide) ?_
          exact ret_i (v := 1) hx hb hr hlocks hS hP hD dX10_swap_120 rfl (Nat.le_of_ble_eq_true rfl) (Nat.le_of_ble_eq_true rfl) ⟨F33, y34, g107, g35, (SAME.tr (SAME.up eF1 SAME.rf (by decide)) t36 (by decide)), (SAME.at t36 (by decide) (get_eq eF1)), t37, (ir_wk t38 (by decide) (by decide)), r114, r109, r116, r117, r118, r115, r108, r110, r111, r112, r113, t39, t40, t41, t42, t43, t44, t45, t46, t47, t48, t49, t50, t51, t52, t53, t54, (show 0 ≤ (1 : Int32).toInt ∧ (1 : Int32).toInt ≤ 1 by decide), rfl⟩
        · have dc29 : p0.toInt = p1.toInt := eq_i (a := p0.toInt) (b := p1.toInt) rfl rfl c29
          refine lv_iconst (v := 0) hx hb dX10_swap_35 (by decide) ?_
          exact ret_i (v := 0) hx hb hr hlocks hS (hP.sub (ws' := [(h0, .inr (10, vL 67 F1)), (h_s, .inl (cI, 335, .inl f_s)), (h_undone, .inl (cI, 192, .inl f_undone))]) [1, 2, 0] rfl) (hD.sub (ws' := [(h0, .inr (10, vL 67 F1)), (h_s, .inl (cI, 335, .inl f_s)), (h_undone, .inl (cI, 192, .inl f_undone))]) [1, 2, 0] (by decide) rfl) dX10_swap_36 rfl (Nat.le_of_ble_eq_true rfl) (Nat.le_of_ble_eq_true rfl) ⟨F1, x_undoMany, f_s, f_undone, (SAME.up eF1 SAME.rf (by decide)), (get_eq eF1), (get_ne eF1 (by decide) e_undoMany), i_x_undoMany, s_s_153, s_s_0, s_s_5, s_s_6, s_s_7, s_s_44, s_s_K0, s_s_105, s_s_114, s_s_130, s_s_139, s_undone_1, s_undone_10, s_undone_25, s_undone_34, s_undone_49, s_undone_58, s_undone_73, s_undone_82, s_undone_97, s_undone_106, s_undone_121, s_undone_130, s_undone_145, s_undone_154, s_undone_169, s_undone_178, (show 0 ≤ (0 : Int32).toInt ∧ (0 : Int32).toInt ≤ 1 by decide), rfl⟩
