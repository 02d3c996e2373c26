set_option maxHeartbeats 4000000 in
set_option maxRecDepth 100000 in
theorem m_X10_undo (l : Launch) (D : va_G) (cI cJ cB cP cM cZ : ClassId) (h0 : Nat) (h_s : Nat) (h_undone : Nat) (Fh : Nat → Value) (x_undoMany : Int32) (f_s : Nat → Int32) (f_undone : Nat → Int32) (bs : Nat → Int32) (sz : Nat) (e_s : Fh 6 = .ref h_s) (e_undone : Fh 39 = .ref h_undone) (e_undoMany : Fh 41 = .int x_undoMany) (i_x_undoMany : IR 0 8 x_undoMany) (s_s_K0 : KW 0 f_s) (s_s_US : US bs f_s) (s_s_0 : SG 0 0 0 40 f_s) (s_s_105 : SG 105 108 0 11 f_s) (s_s_114 : SG 114 114 0 5 f_s) (s_s_130 : SG 130 133 0 11 f_s) (s_s_139 : SG 139 139 0 5 f_s) (s_s_153 : SG 153 153 0 44 f_s) (s_s_44 : SG 44 55 0 9 f_s) (s_s_5 : SG 5 5 0 12 f_s) (s_s_6 : SG 6 6 0 12 f_s) (s_s_7 : SG 7 7 0 6 f_s) (s_undone_1 : SG 1 4 0 11 f_undone) (s_undone_10 : SG 10 10 0 5 f_undone) (s_undone_106 : SG 106 106 0 5 f_undone) (s_undone_121 : SG 121 124 0 11 f_undone) (s_undone_130 : SG 130 130 0 5 f_undone) (s_undone_145 : SG 145 148 0 11 f_undone) (s_undone_154 : SG 154 154 0 5 f_undone) (s_undone_169 : SG 169 172 0 11 f_undone) (s_undone_178 : SG 178 178 0 5 f_undone) (s_undone_25 : SG 25 28 0 11 f_undone) (s_undone_34 : SG 34 34 0 5 f_undone) (s_undone_49 : SG 49 52 0 11 f_undone) (s_undone_58 : SG 58 58 0 5 f_undone) (s_undone_73 : SG 73 76 0 11 f_undone) (s_undone_82 : SG 82 82 0 5 f_undone) (s_undone_97 : SG 97 100 0 11 f_undone) : CI l yX10_undo cX10_undo 2 (some .int) { frames := 0, cells := 0, slots := 0, locals := 0 } (GG D cI cJ cB cP cM cZ) D [(h0, .inr (10, vL 67 Fh)), (h_s, .inl (cI, 335, .inl f_s)), (h_undone, .inl (cI, 192, .inl f_undone))] sz [.ref h0] (fun (r : Int32) (u : va_W) => ∃ (Gh : Nat → Value) (y_undoMany : Int32) (g_s : Nat → Int32), SAME [0, 41] Fh Gh ∧ Gh 0 = .int 0 ∧ Gh 41 = .int y_undoMany ∧ IR 0 7 y_undoMany ∧ SG 153 153 0 44 g_s ∧ SG 0 0 0 40 g_s ∧ SG 5 5 0 12 g_s ∧ SG 6 6 0 12 g_s ∧ SG 7 7 0 6 g_s ∧ SG 44 55 0 9 g_s ∧ KW 0 g_s ∧ SG 105 108 0 11 g_s ∧ SG 114 114 0 5 g_s ∧ SG 130 133 0 11 g_s ∧ SG 139 139 0 5 g_s ∧ US bs g_s ∧ IR (-1) 7 r ∧ u = [(h0, .inr (10, vL 67 Gh)), (h_s, .inl (cI, 335, .inl g_s)), (h_undone, .inl (cI, 192, .inl f_undone))]) := by
  refine CI_mk (by decide) (Nat.le_of_ble_eq_true rfl) ?_
  intro p e s m below meth c A ls E hAe hG hsz hP hD hA hS hl
  obtain ⟨hx, hb, hr, hw, hown, hlocks, hml, hnm⟩ := E
  have hK := hG.1
  have i_x_undoMany : 0 ≤ x_undoMany.toInt ∧ x_undoMany.toInt ≤ 8 := i_x_undoMany
  have hl : lv_has ls 2 [(0, .ref h0)] := hl
  refine lv_aload_n hx hb dX10_undo_0 rfl (lv_at hl 0 rfl) ?_
  refine lv_iconst (v := 0) hx hb dX10_undo_1 (by decide) ?_
  refine put_f (D := D) (ci := 10) (v := .int 0) (ty := .int) (C := RX10) (T := TX10) (N := 67) hx hb hw inAX10 tyX10 tyX10_ok nmX10 hown hK hP hD hS 0 rfl rfl 0 (by decide) (hw _ q_1261) (fun _ h9 => h9) rfl (by decide +kernel) rfl rfl dX10_undo_2 (fun H locs F1 eF1 hP hD hS => ?_)
  have hP : va_P D vwCl [(h0, .inr (10, vL 67 F1)), (h_s, .inl (cI, 335, .inl f_s)), (h_undone, .inl (cI, 192, .inl f_undone))] H := hP
  have hD : va_D A [(h0, .inr (10, vL 67 F1)), (h_s, .inl (cI, 335, .inl f_s)), (h_undone, .inl (cI, 192, .inl f_undone))] := hD
  refine lv_aload_n hx hb dX10_undo_5 rfl (lv_at hl 0 rfl) ?_
  have n2 : F1 41 = .int x_undoMany := (get_ne eF1 (by decide) e_undoMany)
  refine get_f (D := D) (ci := 10) (v := .int x_undoMany) (C := RX10) (T := TX10) (N := 67) hx hb hw inAX10 hown hK hP 0 rfl rfl 41 (by decide) (hw _ q_1302) (fun _ h9 => h9) n2 dX10_undo_6 ?_
  refine lv_if_ne (tgt := 14) hx hb dX10_undo_9 (by decide) (fun c3 => ?_) (fun c3 => ?_)
  · have dc3 : x_undoMany.toInt ≠ 0 := ne_i (a := x_undoMany.toInt) (b := 0) rfl rfl c3
    have k4 : 1 ≤ x_undoMany.toInt ∧ x_undoMany.toInt ≤ 8 := ⟨ne_lo dc3 i_x_undoMany.1 ⟨Int.le_refl _, Int.le_refl _⟩ (by decide), i_x_undoMany.2⟩
    refine lv_aload_n hx hb dX10_undo_14 rfl (lv_at hl 0 rfl) ?_
    refine lv_dup hx hb dX10_undo_15 rfl ?_
    refine get_f (D := D) (ci := 10) (v := .int x_undoMany) (C := RX10) (T := TX10) (N := 67) hx hb hw inAX10 hown hK hP 0 rfl rfl 41 (by decide) (hw _ q_1302) (fun _ h9 => h9) n2 dX10_undo_16 ?_
    refine lv_iconst (v := 1) hx hb dX10_undo_19 (by decide) ?_
    refine lv_isub hx hb dX10_undo_20 ?_
    refine lv_topi (fun v5 ev5 => ?_)
    have bv5 : v5.toInt = x_undoMany.toInt - 1 := by rw [ev5]; exact sub_k rfl rfl k4 ⟨Int.le_refl _, Int.le_refl _⟩ (by decide)
    have k6 : 0 ≤ v5.toInt ∧ v5.toInt ≤ 7 := sub_r bv5 k4 ⟨Int.le_refl _, Int.le_refl _⟩ (by decide)
    refine put_f (D := D) (ci := 10) (v := .int v5) (ty := .int) (C := RX10) (T := TX10) (N := 67) hx hb hw inAX10 tyX10 tyX10_ok nmX10 hown hK hP hD hS 0 rfl rfl 41 (by decide) (hw _ q_1302) (fun _ h9 => h9) rfl (by decide +kernel) rfl rfl dX10_undo_21 (fun H locs F7 eF7 hP hD hS => ?_)
    have hP : va_P D vwCl [(h0, .inr (10, vL 67 F7)), (h_s, .inl (cI, 335, .inl f_s)), (h_undone, .inl (cI, 192, .inl f_undone))] H := hP
    have hD : va_D A [(h0, .inr (10, vL 67 F7)), (h_s, .inl (cI, 335, .inl f_s)), (h_undone, .inl (cI, 192, .inl f_undone))] := hD
    by_cases k8 : v5 = 0
    · have dk8 : v5.toInt = 0 := eq_i rfl rfl k8
      have k9 : 0 ≤ v5.toInt ∧ v5.toInt ≤ 0 := ⟨k6.1, Int.le_trans (Int.le_of_eq dk8) (Int.le_refl _)⟩
      have k10 : 1 ≤ x_undoMany.toInt ∧ x_undoMany.toInt ≤ 1 := ⟨k4.1, lin_hi (lin_m bv5) k9.2 (by decide)⟩
      have n11 : F7 41 = .int 0 := by rw [(get_eq eF7)]; exact congrArg Value.int k8
      refine lv_iconst (v := 0) hx hb dX10_undo_24 (by decide) ?_
      refine lv_istore_n (lv' := [(1, .int 0), (0, .ref h0)]) hx hb dX10_undo_25 rfl hl (by decide) rfl (fun ls hl => ?_)
      refine mloop (α := (Int32) × (Nat → Int32)) (nL := 2) (D := D) (A := A) (H0 := s.heap) (fun a => (24 - a.1.toInt).toNat) (fun a => IR 0 24 a.1 ∧ KW 0 a.2 ∧ US bs a.2 ∧ SG 0 0 0 40 a.2 ∧ SG 105 108 0 11 a.2 ∧ SG 114 114 0 5 a.2 ∧ SG 130 133 0 11 a.2 ∧ SG 139 139 0 5 a.2 ∧ SG 153 153 0 44 a.2 ∧ SG 44 55 0 9 a.2 ∧ SG 5 5 0 12 a.2 ∧ SG 6 6 0 12 a.2 ∧ SG 7 7 0 6 a.2) (fun a => [(h0, .inr (10, vL 67 F7)), (h_s, .inl (cI, 335, .inl a.2)), (h_undone, .inl (cI, 192, .inl f_undone))]) (fun a => [(1, .int a.1), (0, .ref h0)]) (fun H locs ls => W p l e ({ frames := 0, cells := 0, slots := 0, locals := 0 } : Room) s m [.ref h0].toArray below meth c H locs 0 0 (MQ below (va_Qi (fun (r : Int32) (u : va_W) => ∃ (Gh : Nat → Value) (y_undoMany : Int32) (g_s : Nat → Int32), SAME [0, 41] Fh Gh ∧ Gh 0 = .int 0 ∧ Gh 41 = .int y_undoMany ∧ IR 0 7 y_undoMany ∧ SG 153 153 0 44 g_s ∧ SG 0 0 0 40 g_s ∧ SG 5 5 0 12 g_s ∧ SG 6 6 0 12 g_s ∧ SG 7 7 0 6 g_s ∧ SG 44 55 0 9 g_s ∧ KW 0 g_s ∧ SG 105 108 0 11 g_s ∧ SG 114 114 0 5 g_s ∧ SG 130 133 0 11 g_s ∧ SG 139 139 0 5 g_s ∧ US bs g_s ∧ IR (-1) 7 r ∧ u = [(h0, .inr (10, vL 67 Gh)), (h_s, .inl (cI, 335, .inl g_s)), (h_undone, .inl (cI, 192, .inl f_undone))]) (PO D A) A) [.ref h0].toArray s 0 0 A) (F0 m 26 ls [])) ?_ (0, f_s) ⟨(show 0 ≤ (0 : Int32).toInt ∧ (0 : Int32).toInt ≤ 24 by decide), s_s_K0, s_s_US, s_s_0, s_s_105, s_s_114, s_s_130, s_s_139, s_s_153, s_s_44, s_s_5, s_s_6, s_s_7⟩ _ _ _ hP hD hS hl
      rintro ⟨u12, w13⟩ ⟨i14, i15, i16, i17, i18, i19, i20, i21, i22, i23, i24, i25, i26⟩ ih H locs ls hP hD hS hl
      have i14 : 0 ≤ u12.toInt ∧ u12.toInt ≤ 24 := i14
      have hP : va_P D vwCl [(h0, .inr (10, vL 67 F7)), (h_s, .inl (cI, 335, .inl w13)), (h_undone, .inl (cI, 192, .inl f_undone))] H := hP
      have hD : va_D A [(h0, .inr (10, vL 67 F7)), (h_s, .inl (cI, 335, .inl w13)), (h_undone, .inl (cI, 192, .inl f_undone))] := hD
      have hl : lv_has ls 2 [(1, .int u12), (0, .ref h0)] := hl
      refine lv_iload_n hx hb dX10_undo_26 rfl (lv_at hl 0 rfl) ?_
      refine lv_bipush (v := 24) hx hb dX10_undo_27 (by decide) ?_
      refine lv_icmp_ge (tgt := 61) hx hb dX10_undo_29 (by decide) (fun c27 => ?_) (fun c27 => ?_)
      · have dc27 : 24 ≤ u12.toInt := le_i (a := 24) (b := u12.toInt) rfl rfl c27
        have k28 : 24 ≤ u12.toInt ∧ u12.toInt ≤ 24 := ⟨Int.le_trans (Int.le_refl _) dc27, i14.2⟩
        refine lv_aload_n hx hb dX10_undo_61 rfl (lv_at hl 1 rfl) ?_
        refine get_f (D := D) (ci := 10) (v := .int 0) (C := RX10) (T := TX10) (N := 67) hx hb hw inAX10 hown hK hP 0 rfl rfl 41 (by decide) (hw _ q_1302) (fun _ h9 => h9) n11 dX10_undo_62 ?_
        exact ret_i (v := 0) hx hb hr hlocks hS hP hD dX10_undo_65 rfl (Nat.le_of_ble_eq_true rfl) (Nat.le_of_ble_eq_true rfl) ⟨F7, v5, w13, (SAME.up eF7 (SAME.up eF1 SAME.rf (by decide)) (by decide)), (get_ne eF7 (by decide) (get_eq eF1)), (get_eq eF7), (ir_wk k9 (by decide) (by decide)), i22, i17, i24, i25, i26, i23, i15, i18, i19, i20, i21, i16, (show (-1) ≤ (0 : Int32).toInt ∧ (0 : Int32).toInt ≤ 7 by decide), rfl⟩
      · have dc27 : u12.toInt < 24 := nle_i (a := 24) (b := u12.toInt) rfl rfl c27
        have k29 : 0 ≤ u12.toInt ∧ u12.toInt ≤ 23 := ⟨i14.1, up_lt dc27 (Int.le_refl _) (by decide)⟩
        refine lv_aload_n hx hb dX10_undo_32 rfl (lv_at hl 1 rfl) ?_
        have n30 : F1 6 = .ref h_s := (get_ne eF1 (by decide) e_s)
        have n31 : F7 6 = .ref h_s := (get_ne eF7 (by decide) n30)
        refine get_f (D := D) (ci := 10) (v := .ref h_s) (C := RX10) (T := TX10) (N := 67) hx hb hw inAX10 hown hK hP 0 rfl rfl 6 (by decide) (hw _ q_1267) (fun _ h9 => h9) n31 dX10_undo_33 ?_
        refine lv_bipush (v := 104) hx hb dX10_undo_36 (by decide) ?_
        refine lv_iload_n hx hb dX10_undo_38 rfl (lv_at hl 0 rfl) ?_
        refine lv_iadd hx hb dX10_undo_39 ?_
        refine lv_topi (fun v32 ev32 => ?_)
        have bv32 : v32.toInt = 104 + u12.toInt := by rw [ev32]; exact add_k rfl rfl ⟨Int.le_refl _, Int.le_refl _⟩ k29 (by decide)
        have k33 : 104 ≤ v32.toInt ∧ v32.toInt ≤ 127 := add_r bv32 ⟨Int.le_refl _, Int.le_refl _⟩ k29 (by decide)
        refine lv_aload_n hx hb dX10_undo_40 rfl (lv_at hl 1 rfl) ?_
        have n34 : F1 39 = .ref h_undone := (get_ne eF1 (by decide) e_undone)
        have n35 : F7 39 = .ref h_undone := (get_ne eF7 (by decide) n34)
        refine get_f (D := D) (ci := 10) (v := .ref h_undone) (C := RX10) (T := TX10) (N := 67) hx hb hw inAX10 hown hK hP 0 rfl rfl 39 (by decide) (hw _ q_1300) (fun _ h9 => h9) n35 dX10_undo_41 ?_
        refine lv_bipush (v := 24) hx hb dX10_undo_44 (by decide) ?_
        refine lv_aload_n hx hb dX10_undo_46 rfl (lv_at hl 1 rfl) ?_
        refine get_f (D := D) (ci := 10) (v := .int 0) (C := RX10) (T := TX10) (N := 67) hx hb hw inAX10 hown hK hP 0 rfl rfl 41 (by decide) (hw _ q_1302) (fun _ h9 => h9) n11 dX10_undo_47 ?_
        refine lv_imul hx hb dX10_undo_50 ?_
        refine lv_ci (y := 0) (by decide +kernel) ?_
        refine lv_iload_n hx hb dX10_undo_51 rfl (lv_at hl 0 rfl) ?_
        refine lv_iadd hx hb dX10_undo_52 ?_
        refine lv_topi (fun v36 ev36 => ?_)
        have bv36 : v36.toInt = 0 + u12.toInt := by rw [ev36]; exact add_k rfl rfl ⟨Int.le_refl _, Int.le_refl _⟩ k29 (by decide)
        have k37 : 0 ≤ v36.toInt ∧ v36.toInt ≤ 23 := add_r bv36 ⟨Int.le_refl _, Int.le_refl _⟩ k29 (by decide)
        refine va_iald hx hb hK hP 2 0 rfl rfl (ix_k k37 (by decide) (by decide)) dX10_undo_53 ?_
        refine lv_topi (fun v38 ev38 => ?_)
        have r39 : IMP (1 ≤ v36.toInt → v36.toInt ≤ 4 → 0 ≤ v38.toInt ∧ v38.toInt ≤ 11) := IMP.mk (fun q1 q2 => by rw [ev38]; exact s_undone_1.at _ q1 q2)
        have r40 : IMP (10 ≤ v36.toInt → v36.toInt ≤ 10 → 0 ≤ v38.toInt ∧ v38.toInt ≤ 5) := IMP.mk (fun q1 q2 => by rw [ev38]; exact s_undone_10.at _ q1 q2)
        obtain ⟨g41, eg41⟩ : ∃ z : Nat → Int32, upd w13 v32.toNatClampNeg v38 = z := ⟨_, rfl⟩
        have r42 : KW 0 g41 := by rw [← eg41]; exact i15.up (Int.le_trans (by decide) k33.1) (Or.inl (lt_dec k33.2 (by decide)))
        have r43 : US bs g41 := by rw [← eg41]; exact US.up i16 (Int.le_trans (by decide) k33.1)
        have r44 : SG 0 0 0 40 g41 := by rw [← eg41]; exact i17.up (Int.le_trans (by decide) k33.1) (Or.inr (Or.inl (dec_lt k33.1 (by decide))))
        have r45 : SG 105 108 0 11 g41 := by rw [← eg41]; exact i18.upI (Int.le_trans (by decide) k33.1) (fun q1 q2 => ⟨Int.le_trans (by decide) (r39.h (by omega) (by omega)).1, Int.le_trans (r39.h (by omega) (by omega)).2 (by decide)⟩)
        have r46 : SG 114 114 0 5 g41 := by rw [← eg41]; exact i19.upI (Int.le_trans (by decide) k33.1) (fun q1 q2 => ⟨Int.le_trans (by decide) (r40.h (by omega) (by omega)).1, Int.le_trans (r40.h (by omega) (by omega)).2 (by decide)⟩)
        have r47 : SG 130 133 0 11 g41 := by rw [← eg41]; exact i20.up (Int.le_trans (by decide) k33.1) (Or.inl (lt_dec k33.2 (by decide)))
        have r48 : SG 139 139 0 5 g41 := by rw [← eg41]; exact i21.up (Int.le_trans (by decide) k33.1) (Or.inl (lt_dec k33.2 (by decide)))
        have r49 : SG 153 153 0 44 g41 := by rw [← eg41]; exact i22.up (Int.le_trans (by decide) k33.1) (Or.inl (lt_dec k33.2 (by decide)))
        have r50 : SG 44 55 0 9 g41 := by rw [← eg41]; exact i23.up (Int.le_trans (by decide) k33.1) (Or.inr (Or.inl (dec_lt k33.1 (by decide))))
        have r51 : SG 5 5 0 12 g41 := by rw [← eg41]; exact i24.up (Int.le_trans (by decide) k33.1) (Or.inr (Or.inl (dec_lt k33.1 (by decide))))
        have r52 : SG 6 6 0 12 g41 := by rw [← eg41]; exact i25.up (Int.le_trans (by decide) k33.1) (Or.inr (Or.inl (dec_lt k33.1 (by decide))))
        have r53 : SG 7 7 0 6 g41 := by rw [← eg41]; exact i26.up (Int.le_trans (by decide) k33.1) (Or.inr (Or.inl (dec_lt k33.1 (by decide))))
        refine iast_g hx hb hK hP hD hS 1 0 rfl rfl (ix_k k33 (by decide) (by decide)) eg41 dX10_undo_54 (fun H locs hP hD hS => ?_)
        have hP : va_P D vwCl [(h0, .inr (10, vL 67 F7)), (h_s, .inl (cI, 335, .inl g41)), (h_undone, .inl (cI, 192, .inl f_undone))] H := hP
        have hD : va_D A [(h0, .inr (10, vL 67 F7)), (h_s, .inl (cI, 335, .inl g41)), (h_undone, .inl (cI, 192, .inl f_undone))] := hD
        obtain ⟨v54, ev54⟩ : ∃ z : Int32, z = u12 + 1 := ⟨_, rfl⟩
        have bv54 : v54.toInt = u12.toInt + 1 := by rw [ev54]; exact add_k rfl rfl k29 ⟨Int.le_refl _, Int.le_refl _⟩ (by decide)
        have k55 : 1 ≤ v54.toInt ∧ v54.toInt ≤ 24 := add_r bv54 k29 ⟨Int.le_refl _, Int.le_refl _⟩ (by decide)
        refine lv_iinc (v := v54) (lv' := [(1, .int v54), (0, .ref h0)]) hx hb dX10_undo_55 hl (k := 0) rfl (by rw [ev54]; rfl) (by decide) rfl (fun ls hl => ?_)
        refine lv_goto (tgt := 26) hx hb dX10_undo_58 (by decide) ?_
        exact ih (v54, g41) ⟨(ir_wk k55 (by decide) (by decide)), r42, r43, r44, r45, r46, r47, r48, r49, r50, r51, r52, r53⟩ (by show (24 - v54.toInt).toNat < (24 - u12.toInt).toNat; omega) _ _ _ hP hD hS (lv_sub hl [0, 1] rfl)
    have dk8 : v5.toInt ≠ 0 := ne_i rfl rfl k8
    have k56 : 1 ≤ v5.toInt ∧ v5.toInt ≤ 7 := ⟨ne_lo dk8 k6.1 ⟨Int.le_refl _, Int.le_refl _⟩ (by decide), k6.2⟩
    have k57 : 2 ≤ x_undoMany.toInt ∧ x_undoMany.toInt ≤ 8 := ⟨lin_lo (lin_m bv5) k56.1 (by decide), k4.2⟩
    by_cases k58 : v5 = 1
    · have dk58 : v5.toInt = 1 := eq_i rfl rfl k58
      have k59 : 1 ≤ v5.toInt ∧ v5.toInt ≤ 1 := ⟨k56.1, Int.le_trans (Int.le_of_eq dk58) (Int.le_refl _)⟩
      have k60 : 2 ≤ x_undoMany.toInt ∧ x_undoMany.toInt ≤ 2 := ⟨k57.1, lin_hi (lin_m bv5) k59.2 (by decide)⟩
      have n61 : F7 41 = .int 1 := by rw [(get_eq eF7)]; exact congrArg Value.int k58
      refine lv_iconst (v := 0) hx hb dX10_undo_24 (by decide) ?_
      refine lv_istore_n (lv' := [(1, .int 0), (0, .ref h0)]) hx hb dX10_undo_25 rfl hl (by decide) rfl (fun ls hl => ?_)
      refine mloop (α := (Int32) × (Nat → Int32)) (nL := 2) (D := D) (A := A) (H0 := s.heap) (fun a => (24 - a.1.toInt).toNat) (fun a => IR 0 24 a.1 ∧ KW 0 a.2 ∧ US bs a.2 ∧ SG 0 0 0 40 a.2 ∧ SG 105 108 0 11 a.2 ∧ SG 114 114 0 5 a.2 ∧ SG 130 133 0 11 a.2 ∧ SG 139 139 0 5 a.2 ∧ SG 153 153 0 44 a.2 ∧ SG 44 55 0 9 a.2 ∧ SG 5 5 0 12 a.2 ∧ SG 6 6 0 12 a.2 ∧ SG 7 7 0 6 a.2) (fun a => [(h0, .inr (10, vL 67 F7)), (h_s, .inl (cI, 335, .inl a.2)), (h_undone, .inl (cI, 192, .inl f_undone))]) (fun a => [(1, .int a.1), (0, .ref h0)]) (fun H locs ls => W p l e ({ frames := 0, cells := 0, slots := 0, locals := 0 } : Room) s m [.ref h0].toArray below meth c H locs 0 0 (MQ below (va_Qi (fun (r : Int32) (u : va_W) => ∃ (Gh : Nat → Value) (y_undoMany : Int32) (g_s : Nat → Int32), SAME [0, 41] Fh Gh ∧ Gh 0 = .int 0 ∧ Gh 41 = .int y_undoMany ∧ IR 0 7 y_undoMany ∧ SG 153 153 0 44 g_s ∧ SG 0 0 0 40 g_s ∧ SG 5 5 0 12 g_s ∧ SG 6 6 0 12 g_s ∧ SG 7 7 0 6 g_s ∧ SG 44 55 0 9 g_s ∧ KW 0 g_s ∧ SG 105 108 0 11 g_s ∧ SG 114 114 0 5 g_s ∧ SG 130 133 0 11 g_s ∧ SG 139 139 0 5 g_s ∧ US bs g_s ∧ IR (-1) 7 r ∧ u = [(h0, .inr (10, vL 67 Gh)), (h_s, .inl (cI, 335, .inl g_s)), (h_undone, .inl (cI, 192, .inl f_undone))]) (PO D A) A) [.ref h0].toArray s 0 0 A) (F0 m 26 ls [])) ?_ (0, f_s) ⟨(show 0 ≤ (0 : Int32).toInt ∧ (0 : Int32).toInt ≤ 24 by decide), s_s_K0, s_s_US, s_s_0, s_s_105, s_s_114, s_s_130, s_s_139, s_s_153, s_s_44, s_s_5, s_s_6, s_s_7⟩ _ _ _ hP hD hS hl
      rintro ⟨u62, w63⟩ ⟨i64, i65, i66, i67, i68, i69, i70, i71, i72, i73, i74, i75, i76⟩ ih H locs ls hP hD hS hl
      have i64 : 0 ≤ u62.toInt ∧ u62.toInt ≤ 24 := i64
      have hP : va_P D vwCl [(h0, .inr (10, vL 67 F7)), (h_s, .inl (cI, 335, .inl w63)), (h_undone, .inl (cI, 192, .inl f_undone))] H := hP
      have hD : va_D A [(h0, .inr (10, vL 67 F7)), (h_s, .inl (cI, 335, .inl w63)), (h_undone, .inl (cI, 192, .inl f_undone))] := hD
      have hl : lv_has ls 2 [(1, .int u62), (0, .ref h0)] := hl
      refine lv_iload_n hx hb dX10_undo_26 rfl (lv_at hl 0 rfl) ?_
      refine lv_bipush (v := 24) hx hb dX10_undo_27 (by decide) ?_
      refine lv_icmp_ge (tgt := 61) hx hb dX10_undo_29 (by decide) (fun c77 => ?_) (fun c77 => ?_)
      · have dc77 : 24 ≤ u62.toInt := le_i (a := 24) (b := u62.toInt) rfl rfl c77
        have k78 : 24 ≤ u62.toInt ∧ u62.toInt ≤ 24 := ⟨Int.le_trans (Int.le_refl _) dc77, i64.2⟩
        refine lv_aload_n hx hb dX10_undo_61 rfl (lv_at hl 1 rfl) ?_
        refine get_f (D := D) (ci := 10) (v := .int 1) (C := RX10) (T := TX10) (N := 67) hx hb hw inAX10 hown hK hP 0 rfl rfl 41 (by decide) (hw _ q_1302) (fun _ h9 => h9) n61 dX10_undo_62 ?_
        exact ret_i (v := 1) hx hb hr hlocks hS hP hD dX10_undo_65 rfl (Nat.le_of_ble_eq_true rfl) (Nat.le_of_ble_eq_true rfl) ⟨F7, v5, w63, (SAME.up eF7 (SAME.up eF1 SAME.rf (by decide)) (by decide)), (get_ne eF7 (by decide) (get_eq eF1)), (get_eq eF7), (ir_wk k59 (by decide) (by decide)), i72, i67, i74, i75, i76, i73, i65, i68, i69, i70, i71, i66, (show (-1) ≤ (1 : Int32).toInt ∧ (1 : Int32).toInt ≤ 7 by decide), rfl⟩
      · have dc77 : u62.toInt < 24 := nle_i (a := 24) (b := u62.toInt) rfl rfl c77
        have k79 : 0 ≤ u62.toInt ∧ u62.toInt ≤ 23 := ⟨i64.1, up_lt dc77 (Int.le_refl _) (by decide)⟩
        refine lv_aload_n hx hb dX10_undo_32 rfl (lv_at hl 1 rfl) ?_
        have n80 : F1 6 = .ref h_s := (get_ne eF1 (by decide) e_s)
        have n81 : F7 6 = .ref h_s := (get_ne eF7 (by decide) n80)
        refine get_f (D := D) (ci := 10) (v := .ref h_s) (C := RX10) (T := TX10) (N := 67) hx hb hw inAX10 hown hK hP 0 rfl rfl 6 (by decide) (hw _ q_1267) (fun _ h9 => h9) n81 dX10_undo_33 ?_
        refine lv_bipush (v := 104) hx hb dX10_undo_36 (by decide) ?_
        refine lv_iload_n hx hb dX10_undo_38 rfl (lv_at hl 0 rfl) ?_
        refine lv_iadd hx hb dX10_undo_39 ?_
        refine lv_topi (fun v82 ev82 => ?_)
        have bv82 : v82.toInt = 104 + u62.toInt := by rw [ev82]; exact add_k rfl rfl ⟨Int.le_refl _, Int.le_refl _⟩ k79 (by decide)
        have k83 : 104 ≤ v82.toInt ∧ v82.toInt ≤ 127 := add_r bv82 ⟨Int.le_refl _, Int.le_refl _⟩ k79 (by decide)
        refine lv_aload_n hx hb dX10_undo_40 rfl (lv_at hl 1 rfl) ?_
        have n84 : F1 39 = .ref h_undone := (get_ne eF1 (by decide) e_undone)
        have n85 : F7 39 = .ref h_undone := (get_ne eF7 (by decide) n84)
        refine get_f (D := D) (ci := 10) (v := .ref h_undone) (C := RX10) (T := TX10) (N := 67) hx hb hw inAX10 hown hK hP 0 rfl rfl 39 (by decide) (hw _ q_1300) (fun _ h9 => h9) n85 dX10_undo_41 ?_
        refine lv_bipush (v := 24) hx hb dX10_undo_44 (by decide) ?_
        refine lv_aload_n hx hb dX10_undo_46 rfl (lv_at hl 1 rfl) ?_
        refine get_f (D := D) (ci := 10) (v := .int 1) (C := RX10) (T := TX10) (N := 67) hx hb hw inAX10 hown hK hP 0 rfl rfl 41 (by decide) (hw _ q_1302) (fun _ h9 => h9) n61 dX10_undo_47 ?_
        refine lv_imul hx hb dX10_undo_50 ?_
        refine lv_ci (y := 24) (by decide +kernel) ?_
        refine lv_iload_n hx hb dX10_undo_51 rfl (lv_at hl 0 rfl) ?_
        refine lv_iadd hx hb dX10_undo_52 ?_
        refine lv_topi (fun v86 ev86 => ?_)
        have bv86 : v86.toInt = 24 + u62.toInt := by rw [ev86]; exact add_k rfl rfl ⟨Int.le_refl _, Int.le_refl _⟩ k79 (by decide)
        have k87 : 24 ≤ v86.toInt ∧ v86.toInt ≤ 47 := add_r bv86 ⟨Int.le_refl _, Int.le_refl _⟩ k79 (by decide)
        refine va_iald hx hb hK hP 2 0 rfl rfl (ix_k k87 (by decide) (by decide)) dX10_undo_53 ?_
        refine lv_topi (fun v88 ev88 => ?_)
        have r89 : IMP (25 ≤ v86.toInt → v86.toInt ≤ 28 → 0 ≤ v88.toInt ∧ v88.toInt ≤ 11) := IMP.mk (fun q1 q2 => by rw [ev88]; exact s_undone_25.at _ q1 q2)
        have r90 : IMP (34 ≤ v86.toInt → v86.toInt ≤ 34 → 0 ≤ v88.toInt ∧ v88.toInt ≤ 5) := IMP.mk (fun q1 q2 => by rw [ev88]; exact s_undone_34.at _ q1 q2)
        obtain ⟨g91, eg91⟩ : ∃ z : Nat → Int32, upd w63 v82.toNatClampNeg v88 = z := ⟨_, rfl⟩
        have r92 : KW 0 g91 := by rw [← eg91]; exact i65.up (Int.le_trans (by decide) k83.1) (Or.inl (lt_dec k83.2 (by decide)))
        have r93 : US bs g91 := by rw [← eg91]; exact US.up i66 (Int.le_trans (by decide) k83.1)
        have r94 : SG 0 0 0 40 g91 := by rw [← eg91]; exact i67.up (Int.le_trans (by decide) k83.1) (Or.inr (Or.inl (dec_lt k83.1 (by decide))))
        have r95 : SG 105 108 0 11 g91 := by rw [← eg91]; exact i68.upI (Int.le_trans (by decide) k83.1) (fun q1 q2 => ⟨Int.le_trans (by decide) (r89.h (by omega) (by omega)).1, Int.le_trans (r89.h (by omega) (by omega)).2 (by decide)⟩)
        have r96 : SG 114 114 0 5 g91 := by rw [← eg91]; exact i69.upI (Int.le_trans (by decide) k83.1) (fun q1 q2 => ⟨Int.le_trans (by decide) (r90.h (by omega) (by omega)).1, Int.le_trans (r90.h (by omega) (by omega)).2 (by decide)⟩)
        have r97 : SG 130 133 0 11 g91 := by rw [← eg91]; exact i70.up (Int.le_trans (by decide) k83.1) (Or.inl (lt_dec k83.2 (by decide)))
        have r98 : SG 139 139 0 5 g91 := by rw [← eg91]; exact i71.up (Int.le_trans (by decide) k83.1) (Or.inl (lt_dec k83.2 (by decide)))
        have r99 : SG 153 153 0 44 g91 := by rw [← eg91]; exact i72.up (Int.le_trans (by decide) k83.1) (Or.inl (lt_dec k83.2 (by decide)))
        have r100 : SG 44 55 0 9 g91 := by rw [← eg91]; exact i73.up (Int.le_trans (by decide) k83.1) (Or.inr (Or.inl (dec_lt k83.1 (by decide))))
        have r101 : SG 5 5 0 12 g91 := by rw [← eg91]; exact i74.up (Int.le_trans (by decide) k83.1) (Or.inr (Or.inl (dec_lt k83.1 (by decide))))
        have r102 : SG 6 6 0 12 g91 := by rw [← eg91]; exact i75.up (Int.le_trans (by decide) k83.1) (Or.inr (Or.inl (dec_lt k83.1 (by decide))))
        have r103 : SG 7 7 0 6 g91 := by rw [← eg91]; exact i76.up (Int.le_trans (by decide) k83.1) (Or.inr (Or.inl (dec_lt k83.1 (by decide))))
        refine iast_g hx hb hK hP hD hS 1 0 rfl rfl (ix_k k83 (by decide) (by decide)) eg91 dX10_undo_54 (fun H locs hP hD hS => ?_)
        have hP : va_P D vwCl [(h0, .inr (10, vL 67 F7)), (h_s, .inl (cI, 335, .inl g91)), (h_undone, .inl (cI, 192, .inl f_undone))] H := hP
        have hD : va_D A [(h0, .inr (10, vL 67 F7)), (h_s, .inl (cI, 335, .inl g91)), (h_undone, .inl (cI, 192, .inl f_undone))] := hD
        obtain ⟨v104, ev104⟩ : ∃ z : Int32, z = u62 + 1 := ⟨_, rfl⟩
        have bv104 : v104.toInt = u62.toInt + 1 := by rw [ev104]; exact add_k rfl rfl k79 ⟨Int.le_refl _, Int.le_refl _⟩ (by decide)
        have k105 : 1 ≤ v104.toInt ∧ v104.toInt ≤ 24 := add_r bv104 k79 ⟨Int.le_refl _, Int.le_refl _⟩ (by decide)
        refine lv_iinc (v := v104) (lv' := [(1, .int v104), (0, .ref h0)]) hx hb dX10_undo_55 hl (k := 0) rfl (by rw [ev104]; rfl) (by decide) rfl (fun ls hl => ?_)
        refine lv_goto (tgt := 26) hx hb dX10_undo_58 (by decide) ?_
        exact ih (v104, g91) ⟨(ir_wk k105 (by decide) (by decide)), r92, r93, r94, r95, r96, r97, r98, r99, r100, r101, r102, r103⟩ (by show (24 - v104.toInt).toNat < (24 - u62.toInt).toNat; omega) _ _ _ hP hD hS (lv_sub hl [0, 1] rfl)
    have dk58 : v5.toInt ≠ 1 := ne_i rfl rfl k58
    have k106 : 2 ≤ v5.toInt ∧ v5.toInt ≤ 7 := ⟨ne_lo dk58 k56.1 ⟨Int.le_refl _, Int.le_refl _⟩ (by decide), k56.2⟩
    have k107 : 3 ≤ x_undoMany.toInt ∧ x_undoMany.toInt ≤ 8 := ⟨lin_lo (lin_m bv5) k106.1 (by decide), k57.2⟩
    by_cases k108 : v5 = 2
    · have dk108 : v5.toInt = 2 := eq_i rfl rfl k108
      have k109 : 2 ≤ v5.toInt ∧ v5.toInt ≤ 2 := ⟨k106.1, Int.le_trans (Int.le_of_eq dk108) (Int.le_refl _)⟩
      have k110 : 3 ≤ x_undoMany.toInt ∧ x_undoMany.toInt ≤ 3 := ⟨k107.1, lin_hi (lin_m bv5) k109.2 (by decide)⟩
      have n111 : F7 41 = .int 2 := by rw [(get_eq eF7)]; exact congrArg Value.int k108
      refine lv_iconst (v := 0) hx hb dX10_undo_24 (by decide) ?_
      refine lv_istore_n (lv' := [(1, .int 0), (0, .ref h0)]) hx hb dX10_undo_25 rfl hl (by decide) rfl (fun ls hl => ?_)
      refine mloop (α := (Int32) × (Nat → Int32)) (nL := 2) (D := D) (A := A) (H0 := s.heap) (fun a => (24 - a.1.toInt).toNat) (fun a => IR 0 24 a.1 ∧ KW 0 a.2 ∧ US bs a.2 ∧ SG 0 0 0 40 a.2 ∧ SG 105 108 0 11 a.2 ∧ SG 114 114 0 5 a.2 ∧ SG 130 133 0 11 a.2 ∧ SG 139 139 0 5 a.2 ∧ SG 153 153 0 44 a.2 ∧ SG 44 55 0 9 a.2 ∧ SG 5 5 0 12 a.2 ∧ SG 6 6 0 12 a.2 ∧ SG 7 7 0 6 a.2) (fun a => [(h0, .inr (10, vL 67 F7)), (h_s, .inl (cI, 335, .inl a.2)), (h_undone, .inl (cI, 192, .inl f_undone))]) (fun a => [(1, .int a.1), (0, .ref h0)]) (fun H locs ls => W p l e ({ frames := 0, cells := 0, slots := 0, locals := 0 } : Room) s m [.ref h0].toArray below meth c H locs 0 0 (MQ below (va_Qi (fun (r : Int32) (u : va_W) => ∃ (Gh : Nat → Value) (y_undoMany : Int32) (g_s : Nat → Int32), SAME [0, 41] Fh Gh ∧ Gh 0 = .int 0 ∧ Gh 41 = .int y_undoMany ∧ IR 0 7 y_undoMany ∧ SG 153 153 0 44 g_s ∧ SG 0 0 0 40 g_s ∧ SG 5 5 0 12 g_s ∧ SG 6 6 0 12 g_s ∧ SG 7 7 0 6 g_s ∧ SG 44 55 0 9 g_s ∧ KW 0 g_s ∧ SG 105 108 0 11 g_s ∧ SG 114 114 0 5 g_s ∧ SG 130 133 0 11 g_s ∧ SG 139 139 0 5 g_s ∧ US bs g_s ∧ IR (-1) 7 r ∧ u = [(h0, .inr (10, vL 67 Gh)), (h_s, .inl (cI, 335, .inl g_s)), (h_undone, .inl (cI, 192, .inl f_undone))]) (PO D A) A) [.ref h0].toArray s 0 0 A) (F0 m 26 ls [])) ?_ (0, f_s) ⟨(show 0 ≤ (0 : Int32).toInt ∧ (0 : Int32).toInt ≤ 24 by decide), s_s_K0, s_s_US, s_s_0, s_s_105, s_s_114, s_s_130, s_s_139, s_s_153, s_s_44, s_s_5, s_s_6, s_s_7⟩ _ _ _ hP hD hS hl
      rintro ⟨u112, w113⟩ ⟨i114, i115, i116, i117, i118, i119, i120, i121, i122, i123, i124, i125, i126⟩ ih H locs ls hP hD hS hl
      have i114 : 0 ≤ u112.toInt ∧ u112.toInt ≤ 24 := i114
      have hP : va_P D vwCl [(h0, .inr (10, vL 67 F7)), (h_s, .inl (cI, 335, .inl w113)), (h_undone, .inl (cI, 192, .inl f_undone))] H := hP
      have hD : va_D A [(h0, .inr (10, vL 67 F7)), (h_s, .inl (cI, 335, .inl w113)), (h_undone, .inl (cI, 192, .inl f_undone))] := hD
      have hl : lv_has ls 2 [(1, .int u112), (0, .ref h0)] := hl
      refine lv_iload_n hx hb dX10_undo_26 rfl (lv_at hl 0 rfl) ?_
      refine lv_bipush (v := 24) hx hb dX10_undo_27 (by decide) ?_
      refine lv_icmp_ge (tgt := 61) hx hb dX10_undo_29 (by decide) (fun c127 => ?_) (fun c127 => ?_)
      · have dc127 : 24 ≤ u112.toInt := le_i (a := 24) (b := u112.toInt) rfl rfl c127
        have k128 : 24 ≤ u112.toInt ∧ u112.toInt ≤ 24 := ⟨Int.le_trans (Int.le_refl _) dc127, i114.2⟩
        refine lv_aload_n hx hb dX10_undo_61 rfl (lv_at hl 1 rfl) ?_
        refine get_f (D := D) (ci := 10) (v := .int 2) (C := RX10) (T := TX10) (N := 67) hx hb hw inAX10 hown hK hP 0 rfl rfl 41 (by decide) (hw _ q_1302) (fun _ h9 => h9) n111 dX10_undo_62 ?_
        exact ret_i (v := 2) hx hb hr hlocks hS hP hD dX10_undo_65 rfl (Nat.le_of_ble_eq_true rfl) (Nat.le_of_ble_eq_true rfl) ⟨F7, v5, w113, (SAME.up eF7 (SAME.up eF1 SAME.rf (by decide)) (by decide)), (get_ne eF7 (by decide) (get_eq eF1)), (get_eq eF7), (ir_wk k109 (by decide) (by decide)), i122, i117, i124, i125, i126, i123, i115, i118, i119, i120, i121, i116, (show (-1) ≤ (2 : Int32).toInt ∧ (2 : Int32).toInt ≤ 7 by decide), rfl⟩
      · have dc127 : u112.toInt < 24 := nle_i (a := 24) (b := u112.toInt) rfl rfl c127
        have k129 : 0 ≤ u112.toInt ∧ u112.toInt ≤ 23 := ⟨i114.1, up_lt dc127 (Int.le_refl _) (by decide)⟩
        refine lv_aload_n hx hb dX10_undo_32 rfl (lv_at hl 1 rfl) ?_
        have n130 : F1 6 = .ref h_s := (get_ne eF1 (by decide) e_s)
        have n131 : F7 6 = .ref h_s := (get_ne eF7 (by decide) n130)
        refine get_f (D := D) (ci := 10) (v := .ref h_s) (C := RX10) (T := TX10) (N := 67) hx hb hw inAX10 hown hK hP 0 rfl rfl 6 (by decide) (hw _ q_1267) (fun _ h9 => h9) n131 dX10_undo_33 ?_
        refine lv_bipush (v := 104) hx hb dX10_undo_36 (by decide) ?_
        refine lv_iload_n hx hb dX10_undo_38 rfl (lv_at hl 0 rfl) ?_
        refine lv_iadd hx hb dX10_undo_39 ?_
        refine lv_topi (fun v132 ev132 => ?_)
        have bv132 : v132.toInt = 104 + u112.toInt := by rw [ev132]; exact add_k rfl rfl ⟨Int.le_refl _, Int.le_refl _⟩ k129 (by decide)
        have k133 : 104 ≤ v132.toInt ∧ v132.toInt ≤ 127 := add_r bv132 ⟨Int.le_refl _, Int.le_refl _⟩ k129 (by decide)
        refine lv_aload_n hx hb dX10_undo_40 rfl (lv_at hl 1 rfl) ?_
        have n134 : F1 39 = .ref h_undone := (get_ne eF1 (by decide) e_undone)
        have n135 : F7 39 = .ref h_undone := (get_ne eF7 (by decide) n134)
        refine get_f (D := D) (ci := 10) (v := .ref h_undone) (C := RX10) (T := TX10) (N := 67) hx hb hw inAX10 hown hK hP 0 rfl rfl 39 (by decide) (hw _ q_1300) (fun _ h9 => h9) n135 dX10_undo_41 ?_
        refine lv_bipush (v := 24) hx hb dX10_undo_44 (by decide) ?_
        refine lv_aload_n hx hb dX10_undo_46 rfl (lv_at hl 1 rfl) ?_
        refine get_f (D := D) (ci := 10) (v := .int 2) (C := RX10) (T := TX10) (N := 67) hx hb hw inAX10 hown hK hP 0 rfl rfl 41 (by decide) (hw _ q_1302) (fun _ h9 => h9) n111 dX10_undo_47 ?_
        refine lv_imul hx hb dX10_undo_50 ?_
        refine lv_ci (y := 48) (by decide +kernel) ?_
        refine lv_iload_n hx hb dX10_undo_51 rfl (lv_at hl 0 rfl) ?_
        refine lv_iadd hx hb dX10_undo_52 ?_
        refine lv_topi (fun v136 ev136 => ?_)
        have bv136 : v136.toInt = 48 + u112.toInt := by rw [ev136]; exact add_k rfl rfl ⟨Int.le_refl _, Int.le_refl _⟩ k129 (by decide)
        have k137 : 48 ≤ v136.toInt ∧ v136.toInt ≤ 71 := add_r bv136 ⟨Int.le_refl _, Int.le_refl _⟩ k129 (by decide)
        refine va_iald hx hb hK hP 2 0 rfl rfl (ix_k k137 (by decide) (by decide)) dX10_undo_53 ?_
        refine lv_topi (fun v138 ev138 => ?_)
        have r139 : IMP (49 ≤ v136.toInt → v136.toInt ≤ 52 → 0 ≤ v138.toInt ∧ v138.toInt ≤ 11) := IMP.mk (fun q1 q2 => by rw [ev138]; exact s_undone_49.at _ q1 q2)
        have r140 : IMP (58 ≤ v136.toInt → v136.toInt ≤ 58 → 0 ≤ v138.toInt ∧ v138.toInt ≤ 5) := IMP.mk (fun q1 q2 => by rw [ev138]; exact s_undone_58.at _ q1 q2)
        obtain ⟨g141, eg141⟩ : ∃ z : Nat → Int32, upd w113 v132.toNatClampNeg v138 = z := ⟨_, rfl⟩
        have r142 : KW 0 g141 := by rw [← eg141]; exact i115.up (Int.le_trans (by decide) k133.1) (Or.inl (lt_dec k133.2 (by decide)))
        have r143 : US bs g141 := by rw [← eg141]; exact US.up i116 (Int.le_trans (by decide) k133.1)
        have r144 : SG 0 0 0 40 g141 := by rw [← eg141]; exact i117.up (Int.le_trans (by decide) k133.1) (Or.inr (Or.inl (dec_lt k133.1 (by decide))))
        have r145 : SG 105 108 0 11 g141 := by rw [← eg141]; exact i118.upI (Int.le_trans (by decide) k133.1) (fun q1 q2 => ⟨Int.le_trans (by decide) (r139.h (by omega) (by omega)).1, Int.le_trans (r139.h (by omega) (by omega)).2 (by decide)⟩)
        have r146 : SG 114 114 0 5 g141 := by rw [← eg141]; exact i119.upI (Int.le_trans (by decide) k133.1) (fun q1 q2 => ⟨Int.le_trans (by decide) (r140.h (by omega) (by omega)).1, Int.le_trans (r140.h (by omega) (by omega)).2 (by decide)⟩)
        have r147 : SG 130 133 0 11 g141 := by rw [← eg141]; exact i120.up (Int.le_trans (by decide) k133.1) (Or.inl (lt_dec k133.2 (by decide)))
        have r148 : SG 139 139 0 5 g141 := by rw [← eg141]; exact i121.up (Int.le_trans (by decide) k133.1) (Or.inl (lt_dec k133.2 (by decide)))
        have r149 : SG 153 153 0 44 g141 := by rw [← eg141]; exact i122.up (Int.le_trans (by decide) k133.1) (Or.inl (lt_dec k133.2 (by decide)))
        have r150 : SG 44 55 0 9 g141 := by rw [← eg141]; exact i123.up (Int.le_trans (by decide) k133.1) (Or.inr (Or.inl (dec_lt k133.1 (by decide))))
        have r151 : SG 5 5 0 12 g141 := by rw [← eg141]; exact i124.up (Int.le_trans (by decide) k133.1) (Or.inr (Or.inl (dec_lt k133.1 (by decide))))
        have r152 : SG 6 6 0 12 g141 := by rw [← eg141]; exact i125.up (Int.le_trans (by decide) k133.1) (Or.inr (Or.inl (dec_lt k133.1 (by decide))))
        have r153 : SG 7 7 0 6 g141 := by rw [← eg141]; exact i126.up (Int.le_trans (by decide) k133.1) (Or.inr (Or.inl (dec_lt k133.1 (by decide))))
        refine iast_g hx hb hK hP hD hS 1 0 rfl rfl (ix_k k133 (by decide) (by decide)) eg141 dX10_undo_54 (fun H locs hP hD hS => ?_)
        have hP : va_P D vwCl [(h0, .inr (10, vL 67 F7)), (h_s, .inl (cI, 335, .inl g141)), (h_undone, .inl (cI, 192, .inl f_undone))] H := hP
        have hD : va_D A [(h0, .inr (10, vL 67 F7)), (h_s, .inl (cI, 335, .inl g141)), (h_undone, .inl (cI, 192, .inl f_undone))] := hD
        obtain ⟨v154, ev154⟩ : ∃ z : Int32, z = u112 + 1 := ⟨_, rfl⟩
        have bv154 : v154.toInt = u112.toInt + 1 := by rw [ev154]; exact add_k rfl rfl k129 ⟨Int.le_refl _, Int.le_refl _⟩ (by decide)
        have k155 : 1 ≤ v154.toInt ∧ v154.toInt ≤ 24 := add_r bv154 k129 ⟨Int.le_refl _, Int.le_refl _⟩ (by decide)
        refine lv_iinc (v := v154) (lv' := [(1, .int v154), (0, .ref h0)]) hx hb dX10_undo_55 hl (k := 0) rfl (by rw [ev154]; rfl) (by decide) rfl (fun ls hl => ?_)
        refine lv_goto (tgt := 26) hx hb dX10_undo_58 (by decide) ?_
        exact ih (v154, g141) ⟨(ir_wk k155 (by decide) (by decide)), r142, r143, r144, r145, r146, r147, r148, r149, r150, r151, r152, r153⟩ (by show (24 - v154.toInt).toNat < (24 - u112.toInt).toNat; omega) _ _ _ hP hD hS (lv_sub hl [0, 1] rfl)
    have dk108 : v5.toInt ≠ 2 := ne_i rfl rfl k108
    have k156 : 3 ≤ v5.toInt ∧ v5.toInt ≤ 7 := ⟨ne_lo dk108 k106.1 ⟨Int.le_refl _, Int.le_refl _⟩ (by decide), k106.2⟩
    have k157 : 4 ≤ x_undoMany.toInt ∧ x_undoMany.toInt ≤ 8 := ⟨lin_lo (lin_m bv5) k156.1 (by decide), k107.2⟩
    by_cases k158 : v5 = 3
    · have dk158 : v5.toInt = 3 := eq_i rfl rfl k158
      have k159 : 3 ≤ v5.toInt ∧ v5.toInt ≤ 3 := ⟨k156.1, Int.le_trans (Int.le_of_eq dk158) (Int.le_refl _)⟩
      have k160 : 4 ≤ x_undoMany.toInt ∧ x_undoMany.toInt ≤ 4 := ⟨k157.1, lin_hi (lin_m bv5) k159.2 (by decide)⟩
      have n161 : F7 41 = .int 3 := by rw [(get_eq eF7)]; exact congrArg Value.int k158
      refine lv_iconst (v := 0) hx hb dX10_undo_24 (by decide) ?_
      refine lv_istore_n (lv' := [(1, .int 0), (0, .ref h0)]) hx hb dX10_undo_25 rfl hl (by decide) rfl (fun ls hl => ?_)
      refine mloop (α := (Int32) × (Nat → Int32)) (nL := 2) (D := D) (A := A) (H0 := s.heap) (fun a => (24 - a.1.toInt).toNat) (fun a => IR 0 24 a.1 ∧ KW 0 a.2 ∧ US bs a.2 ∧ SG 0 0 0 40 a.2 ∧ SG 105 108 0 11 a.2 ∧ SG 114 114 0 5 a.2 ∧ SG 130 133 0 11 a.2 ∧ SG 139 139 0 5 a.2 ∧ SG 153 153 0 44 a.2 ∧ SG 44 55 0 9 a.2 ∧ SG 5 5 0 12 a.2 ∧ SG 6 6 0 12 a.2 ∧ SG 7 7 0 6 a.2) (fun a => [(h0, .inr (10, vL 67 F7)), (h_s, .inl (cI, 335, .inl a.2)), (h_undone, .inl (cI, 192, .inl f_undone))]) (fun a => [(1, .int a.1), (0, .ref h0)]) (fun H locs ls => W p l e ({ frames := 0, cells := 0, slots := 0, locals := 0 } : Room) s m [.ref h0].toArray below meth c H locs 0 0 (MQ below (va_Qi (fun (r : Int32) (u : va_W) => ∃ (Gh : Nat → Value) (y_undoMany : Int32) (g_s : Nat → Int32), SAME [0, 41] Fh Gh ∧ Gh 0 = .int 0 ∧ Gh 41 = .int y_undoMany ∧ IR 0 7 y_undoMany ∧ SG 153 153 0 44 g_s ∧ SG 0 0 0 40 g_s ∧ SG 5 5 0 12 g_s ∧ SG 6 6 0 12 g_s ∧ SG 7 7 0 6 g_s ∧ SG 44 55 0 9 g_s ∧ KW 0 g_s ∧ SG 105 108 0 11 g_s ∧ SG 114 114 0 5 g_s ∧ SG 130 133 0 11 g_s ∧ SG 139 139 0 5 g_s ∧ US bs g_s ∧ IR (-1) 7 r ∧ u = [(h0, .inr (10, vL 67 Gh)), (h_s, .inl (cI, 335, .inl g_s)), (h_undone, .inl (cI, 192, .inl f_undone))]) (PO D A) A) [.ref h0].toArray s 0 0 A) (F0 m 26 ls [])) ?_ (0, f_s) ⟨(show 0 ≤ (0 : Int32).toInt ∧ (0 : Int32).toInt ≤ 24 by decide), s_s_K0, s_s_US, s_s_0, s_s_105, s_s_114, s_s_130, s_s_139, s_s_153, s_s_44, s_s_5, s_s_6, s_s_7⟩ _ _ _ hP hD hS hl
      rintro ⟨u162, w163⟩ ⟨i164, i165, i166, i167, i168, i169, i170, i171, i172, i173, i174, i175, i176⟩ ih H locs ls hP hD hS hl
      have i164 : 0 ≤ u162.toInt ∧ u162.toInt ≤ 24 := i164
      have hP : va_P D vwCl [(h0, .inr (10, vL 67 F7)), (h_s, .inl (cI, 335, .inl w163)), (h_undone, .inl (cI, 192, .inl f_undone))] H := hP
      have hD : va_D A [(h0, .inr (10, vL 67 F7)), (h_s, .inl (cI, 335, .inl w163)), (h_undone, .inl (cI, 192, .inl f_undone))] := hD
      have hl : lv_has ls 2 [(1, .int u162), (0, .ref h0)] := hl
      refine lv_iload_n hx hb dX10_undo_26 rfl (lv_at hl 0 rfl) ?_
      refine lv_bipush (v := 24) hx hb dX10_undo_27 (by decide) ?_
      refine lv_icmp_ge (tgt := 61) hx hb dX10_undo_29 (by decide) (fun c177 => ?_) (fun c177 => ?_)
      · have dc177 : 24 ≤ u162.toInt := le_i (a := 24) (b := u162.toInt) rfl rfl c177
        have k178 : 24 ≤ u162.toInt ∧ u162.toInt ≤ 24 := ⟨Int.le_trans (Int.le_refl _) dc177, i164.2⟩
        refine lv_aload_n hx hb dX10_undo_61 rfl (lv_at hl 1 rfl) ?_
        refine get_f (D := D) (ci := 10) (v := .int 3) (C := RX10) (T := TX10) (N := 67) hx hb hw inAX10 hown hK hP 0 rfl rfl 41 (by decide) (hw _ q_1302) (fun _ h9 => h9) n161 dX10_undo_62 ?_
        exact ret_i (v := 3) hx hb hr hlocks hS hP hD dX10_undo_65 rfl (Nat.le_of_ble_eq_true rfl) (Nat.le_of_ble_eq_true rfl) ⟨F7, v5, w163, (SAME.up eF7 (SAME.up eF1 SAME.rf (by decide)) (by decide)), (get_ne eF7 (by decide) (get_eq eF1)), (get_eq eF7), (ir_wk k159 (by decide) (by decide)), i172, i167, i174, i175, i176, i173, i165, i168, i169, i170, i171, i166, (show (-1) ≤ (3 : Int32).toInt ∧ (3 : Int32).toInt ≤ 7 by decide), rfl⟩
      · have dc177 : u162.toInt < 24 := nle_i (a := 24) (b := u162.toInt) rfl rfl c177
        have k179 : 0 ≤ u162.toInt ∧ u162.toInt ≤ 23 := ⟨i164.1, up_lt dc177 (Int.le_refl _) (by decide)⟩
        refine lv_aload_n hx hb dX10_undo_32 rfl (lv_at hl 1 rfl) ?_
        have n180 : F1 6 = .ref h_s := (get_ne eF1 (by decide) e_s)
        have n181 : F7 6 = .ref h_s := (get_ne eF7 (by decide) n180)
        refine get_f (D := D) (ci := 10) (v := .ref h_s) (C := RX10) (T := TX10) (N := 67) hx hb hw inAX10 hown hK hP 0 rfl rfl 6 (by decide) (hw _ q_1267) (fun _ h9 => h9) n181 dX10_undo_33 ?_
        refine lv_bipush (v := 104) hx hb dX10_undo_36 (by decide) ?_
        refine lv_iload_n hx hb dX10_undo_38 rfl (lv_at hl 0 rfl) ?_
        refine lv_iadd hx hb dX10_undo_39 ?_
        refine lv_topi (fun v182 ev182 => ?_)
        have bv182 : v182.toInt = 104 + u162.toInt := by rw [ev182]; exact add_k rfl rfl ⟨Int.le_refl _, Int.le_refl _⟩ k179 (by decide)
        have k183 : 104 ≤ v182.toInt ∧ v182.toInt ≤ 127 := add_r bv182 ⟨Int.le_refl _, Int.le_refl _⟩ k179 (by decide)
        refine lv_aload_n hx hb dX10_undo_40 rfl (lv_at hl 1 rfl) ?_
        have n184 : F1 39 = .ref h_undone := (get_ne eF1 (by decide) e_undone)
        have n185 : F7 39 = .ref h_undone := (get_ne eF7 (by decide) n184)
        refine get_f (D := D) (ci := 10) (v := .ref h_undone) (C := RX10) (T := TX10) (N := 67) hx hb hw inAX10 hown hK hP 0 rfl rfl 39 (by decide) (hw _ q_1300) (fun _ h9 => h9) n185 dX10_undo_41 ?_
        refine lv_bipush (v := 24) hx hb dX10_undo_44 (by decide) ?_
        refine lv_aload_n hx hb dX10_undo_46 rfl (lv_at hl 1 rfl) ?_
        refine get_f (D := D) (ci := 10) (v := .int 3) (C := RX10) (T := TX10) (N := 67) hx hb hw inAX10 hown hK hP 0 rfl rfl 41 (by decide) (hw _ q_1302) (fun _ h9 => h9) n161 dX10_undo_47 ?_
        refine lv_imul hx hb dX10_undo_50 ?_
        refine lv_ci (y := 72) (by decide +kernel) ?_
        refine lv_iload_n hx hb dX10_undo_51 rfl (lv_at hl 0 rfl) ?_
        refine lv_iadd hx hb dX10_undo_52 ?_
        refine lv_topi (fun v186 ev186 => ?_)
        have bv186 : v186.toInt = 72 + u162.toInt := by rw [ev186]; exact add_k rfl rfl ⟨Int.le_refl _, Int.le_refl _⟩ k179 (by decide)
        have k187 : 72 ≤ v186.toInt ∧ v186.toInt ≤ 95 := add_r bv186 ⟨Int.le_refl _, Int.le_refl _⟩ k179 (by decide)
        refine va_iald hx hb hK hP 2 0 rfl rfl (ix_k k187 (by decide) (by decide)) dX10_undo_53 ?_
        refine lv_topi (fun v188 ev188 => ?_)
        have r189 : IMP (73 ≤ v186.toInt → v186.toInt ≤ 76 → 0 ≤ v188.toInt ∧ v188.toInt ≤ 11) := IMP.mk (fun q1 q2 => by rw [ev188]; exact s_undone_73.at _ q1 q2)
        have r190 : IMP (82 ≤ v186.toInt → v186.toInt ≤ 82 → 0 ≤ v188.toInt ∧ v188.toInt ≤ 5) := IMP.mk (fun q1 q2 => by rw [ev188]; exact s_undone_82.at _ q1 q2)
        obtain ⟨g191, eg191⟩ : ∃ z : Nat → Int32, upd w163 v182.toNatClampNeg v188 = z := ⟨_, rfl⟩
        have r192 : KW 0 g191 := by rw [← eg191]; exact i165.up (Int.le_trans (by decide) k183.1) (Or.inl (lt_dec k183.2 (by decide)))
        have r193 : US bs g191 := by rw [← eg191]; exact US.up i166 (Int.le_trans (by decide) k183.1)
        have r194 : SG 0 0 0 40 g191 := by rw [← eg191]; exact i167.up (Int.le_trans (by decide) k183.1) (Or.inr (Or.inl (dec_lt k183.1 (by decide))))
        have r195 : SG 105 108 0 11 g191 := by rw [← eg191]; exact i168.upI (Int.le_trans (by decide) k183.1) (fun q1 q2 => ⟨Int.le_trans (by decide) (r189.h (by omega) (by omega)).1, Int.le_trans (r189.h (by omega) (by omega)).2 (by decide)⟩)
        have r196 : SG 114 114 0 5 g191 := by rw [← eg191]; exact i169.upI (Int.le_trans (by decide) k183.1) (fun q1 q2 => ⟨Int.le_trans (by decide) (r190.h (by omega) (by omega)).1, Int.le_trans (r190.h (by omega) (by omega)).2 (by decide)⟩)
        have r197 : SG 130 133 0 11 g191 := by rw [← eg191]; exact i170.up (Int.le_trans (by decide) k183.1) (Or.inl (lt_dec k183.2 (by decide)))
        have r198 : SG 139 139 0 5 g191 := by rw [← eg191]; exact i171.up (Int.le_trans (by decide) k183.1) (Or.inl (lt_dec k183.2 (by decide)))
        have r199 : SG 153 153 0 44 g191 := by rw [← eg191]; exact i172.up (Int.le_trans (by decide) k183.1) (Or.inl (lt_dec k183.2 (by decide)))
        have r200 : SG 44 55 0 9 g191 := by rw [← eg191]; exact i173.up (Int.le_trans (by decide) k183.1) (Or.inr (Or.inl (dec_lt k183.1 (by decide))))
        have r201 : SG 5 5 0 12 g191 := by rw [← eg191]; exact i174.up (Int.le_trans (by decide) k183.1) (Or.inr (Or.inl (dec_lt k183.1 (by decide))))
        have r202 : SG 6 6 0 12 g191 := by rw [← eg191]; exact i175.up (Int.le_trans (by decide) k183.1) (Or.inr (Or.inl (dec_lt k183.1 (by decide))))
        have r203 : SG 7 7 0 6 g191 := by rw [← eg191]; exact i176.up (Int.le_trans (by decide) k183.1) (Or.inr (Or.inl (dec_lt k183.1 (by decide))))
        refine iast_g hx hb hK hP hD hS 1 0 rfl rfl (ix_k k183 (by decide) (by decide)) eg191 dX10_undo_54 (fun H locs hP hD hS => ?_)
        have hP : va_P D vwCl [(h0, .inr (10, vL 67 F7)), (h_s, .inl (cI, 335, .inl g191)), (h_undone, .inl (cI, 192, .inl f_undone))] H := hP
        have hD : va_D A [(h0, .inr (10, vL 67 F7)), (h_s, .inl (cI, 335, .inl g191)), (h_undone, .inl (cI, 192, .inl f_undone))] := hD
        obtain ⟨v204, ev204⟩ : ∃ z : Int32, z = u162 + 1 := ⟨_, rfl⟩
        have bv204 : v204.toInt = u162.toInt + 1 := by rw [ev204]; exact add_k rfl rfl k179 ⟨Int.le_refl _, Int.le_refl _⟩ (by decide)
        have k205 : 1 ≤ v204.toInt ∧ v204.toInt ≤ 24 := add_r bv204 k179 ⟨Int.le_refl _, Int.le_refl _⟩ (by decide)
        refine lv_iinc (v := v204) (lv' := [(1, .int v204), (0, .ref h0)]) hx hb dX10_undo_55 hl (k := 0) rfl (by rw [ev204]; rfl) (by decide) rfl (fun ls hl => ?_)
        refine lv_goto (tgt := 26) hx hb dX10_undo_58 (by decide) ?_
        exact ih (v204, g191) ⟨(ir_wk k205 (by decide) (by decide)), r192, r193, r194, r195, r196, r197, r198, r199, r200, r201, r202, r203⟩ (by show (24 - v204.toInt).toNat < (24 - u162.toInt).toNat; omega) _ _ _ hP hD hS (lv_sub hl [0, 1] rfl)
    have dk158 : v5.toInt ≠ 3 := ne_i rfl rfl k158
    have k206 : 4 ≤ v5.toInt ∧ v5.toInt ≤ 7 := ⟨ne_lo dk158 k156.1 ⟨Int.le_refl _, Int.le_refl _⟩ (by decide), k156.2⟩
    have k207 : 5 ≤ x_undoMany.toInt ∧ x_undoMany.toInt ≤ 8 := ⟨lin_lo (lin_m bv5) k206.1 (by decide), k157.2⟩
    by_cases k208 : v5 = 4
    · have dk208 : v5.toInt = 4 := eq_i rfl rfl k208
      have k209 : 4 ≤ v5.toInt ∧ v5.toInt ≤ 4 := ⟨k206.1, Int.le_trans (Int.le_of_eq dk208) (Int.le_refl _)⟩
      have k210 : 5 ≤ x_undoMany.toInt ∧ x_undoMany.toInt ≤ 5 := ⟨k207.1, lin_hi (lin_m bv5) k209.2 (by decide)⟩
      have n211 : F7 41 = .int 4 := by rw [(get_eq eF7)]; exact congrArg Value.int k208
      refine lv_iconst (v := 0) hx hb dX10_undo_24 (by decide) ?_
      refine lv_istore_n (lv' := [(1, .int 0), (0, .ref h0)]) hx hb dX10_undo_25 rfl hl (by decide) rfl (fun ls hl => ?_)
      refine mloop (α := (Int32) × (Nat → Int32)) (nL := 2) (D := D) (A := A) (H0 := s.heap) (fun a => (24 - a.1.toInt).toNat) (fun a => IR 0 24 a.1 ∧ KW 0 a.2 ∧ US bs a.2 ∧ SG 0 0 0 40 a.2 ∧ SG 105 108 0 11 a.2 ∧ SG 114 114 0 5 a.2 ∧ SG 130 133 0 11 a.2 ∧ SG 139 139 0 5 a.2 ∧ SG 153 153 0 44 a.2 ∧ SG 44 55 0 9 a.2 ∧ SG 5 5 0 12 a.2 ∧ SG 6 6 0 12 a.2 ∧ SG 7 7 0 6 a.2) (fun a => [(h0, .inr (10, vL 67 F7)), (h_s, .inl (cI, 335, .inl a.2)), (h_undone, .inl (cI, 192, .inl f_undone))]) (fun a => [(1, .int a.1), (0, .ref h0)]) (fun H locs ls => W p l e ({ frames := 0, cells := 0, slots := 0, locals := 0 } : Room) s m [.ref h0].toArray below meth c H locs 0 0 (MQ below (va_Qi (fun (r : Int32) (u : va_W) => ∃ (Gh : Nat → Value) (y_undoMany : Int32) (g_s : Nat → Int32), SAME [0, 41] Fh Gh ∧ Gh 0 = .int 0 ∧ Gh 41 = .int y_undoMany ∧ IR 0 7 y_undoMany ∧ SG 153 153 0 44 g_s ∧ SG 0 0 0 40 g_s ∧ SG 5 5 0 12 g_s ∧ SG 6 6 0 12 g_s ∧ SG 7 7 0 6 g_s ∧ SG 44 55 0 9 g_s ∧ KW 0 g_s ∧ SG 105 108 0 11 g_s ∧ SG 114 114 0 5 g_s ∧ SG 130 133 0 11 g_s ∧ SG 139 139 0 5 g_s ∧ US bs g_s ∧ IR (-1) 7 r ∧ u = [(h0, .inr (10, vL 67 Gh)), (h_s, .inl (cI, 335, .inl g_s)), (h_undone, .inl (cI, 192, .inl f_undone))]) (PO D A) A) [.ref h0].toArray s 0 0 A) (F0 m 26 ls [])) ?_ (0, f_s) ⟨(show 0 ≤ (0 : Int32).toInt ∧ (0 : Int32).toInt ≤ 24 by decide), s_s_K0, s_s_US, s_s_0, s_s_105, s_s_114, s_s_130, s_s_139, s_s_153, s_s_44, s_s_5, s_s_6, s_s_7⟩ _ _ _ hP hD hS hl
      rintro ⟨u212, w213⟩ ⟨i214, i215, i216, i217, i218, i219, i220, i221, i222, i223, i224, i225, i226⟩ ih H locs ls hP hD hS hl
      have i214 : 0 ≤ u212.toInt ∧ u212.toInt ≤ 24 := i214
      have hP : va_P D vwCl [(h0, .inr (10, vL 67 F7)), (h_s, .inl (cI, 335, .inl w213)), (h_undone, .inl (cI, 192, .inl f_undone))] H := hP
      have hD : va_D A [(h0, .inr (10, vL 67 F7)), (h_s, .inl (cI, 335, .inl w213)), (h_undone, .inl (cI, 192, .inl f_undone))] := hD
      have hl : lv_has ls 2 [(1, .int u212), (0, .ref h0)] := hl
      refine lv_iload_n hx hb dX10_undo_26 rfl (lv_at hl 0 rfl) ?_
      refine lv_bipush (v := 24) hx hb dX10_undo_27 (by decide) ?_
      refine lv_icmp_ge (tgt := 61) hx hb dX10_undo_29 (by decide) (fun c227 => ?_) (fun c227 => ?_)
      · have dc227 : 24 ≤ u212.toInt := le_i (a := 24) (b := u212.toInt) rfl rfl c227
        have k228 : 24 ≤ u212.toInt ∧ u212.toInt ≤ 24 := ⟨Int.le_trans (Int.le_refl _) dc227, i214.2⟩
        refine lv_aload_n hx hb dX10_undo_61 rfl (lv_at hl 1 rfl) ?_
        refine get_f (D := D) (ci := 10) (v := .int 4) (C := RX10) (T := TX10) (N := 67) hx hb hw inAX10 hown hK hP 0 rfl rfl 41 (by decide) (hw _ q_1302) (fun _ h9 => h9) n211 dX10_undo_62 ?_
        exact ret_i (v := 4) hx hb hr hlocks hS hP hD dX10_undo_65 rfl (Nat.le_of_ble_eq_true rfl) (Nat.le_of_ble_eq_true rfl) ⟨F7, v5, w213, (SAME.up eF7 (SAME.up eF1 SAME.rf (by decide)) (by decide)), (get_ne eF7 (by decide) (get_eq eF1)), (get_eq eF7), (ir_wk k209 (by decide) (by decide)), i222, i217, i224, i225, i226, i223, i215, i218, i219, i220, i221, i216, (show (-1) ≤ (4 : Int32).toInt ∧ (4 : Int32).toInt ≤ 7 by decide), rfl⟩
      · have dc227 : u212.toInt < 24 := nle_i (a := 24) (b := u212.toInt) rfl rfl c227
        have k229 : 0 ≤ u212.toInt ∧ u212.toInt ≤ 23 := ⟨i214.1, up_lt dc227 (Int.le_refl _) (by decide)⟩
        refine lv_aload_n hx hb dX10_undo_32 rfl (lv_at hl 1 rfl) ?_
        have n230 : F1 6 = .ref h_s := (get_ne eF1 (by decide) e_s)
        have n231 : F7 6 = .ref h_s := (get_ne eF7 (by decide) n230)
        refine get_f (D := D) (ci := 10) (v := .ref h_s) (C := RX10) (T := TX10) (N := 67) hx hb hw inAX10 hown hK hP 0 rfl rfl 6 (by decide) (hw _ q_1267) (fun _ h9 => h9) n231 dX10_undo_33 ?_
        refine lv_bipush (v := 104) hx hb dX10_undo_36 (by decide) ?_
        refine lv_iload_n hx hb dX10_undo_38 rfl (lv_at hl 0 rfl) ?_
        refine lv_iadd hx hb dX10_undo_39 ?_
        refine lv_topi (fun v232 ev232 => ?_)
        have bv232 : v232.toInt = 104 + u212.toInt := by rw [ev232]; exact add_k rfl rfl ⟨Int.le_refl _, Int.le_refl _⟩ k229 (by decide)
        have k233 : 104 ≤ v232.toInt ∧ v232.toInt ≤ 127 := add_r bv232 ⟨Int.le_refl _, Int.le_refl _⟩ k229 (by decide)
        refine lv_aload_n hx hb dX10_undo_40 rfl (lv_at hl 1 rfl) ?_
        have n234 : F1 39 = .ref h_undone := (get_ne eF1 (by decide) e_undone)
        have n235 : F7 39 = .ref h_undone := (get_ne eF7 (by decide) n234)
        refine get_f (D := D) (ci := 10) (v := .ref h_undone) (C := RX10) (T := TX10) (N := 67) hx hb hw inAX10 hown hK hP 0 rfl rfl 39 (by decide) (hw _ q_1300) (fun _ h9 => h9) n235 dX10_undo_41 ?_
        refine lv_bipush (v := 24) hx hb dX10_undo_44 (by decide) ?_
        refine lv_aload_n hx hb dX10_undo_46 rfl (lv_at hl 1 rfl) ?_
        refine get_f (D := D) (ci := 10) (v := .int 4) (C := RX10) (T := TX10) (N := 67) hx hb hw inAX10 hown hK hP 0 rfl rfl 41 (by decide) (hw _ q_1302) (fun _ h9 => h9) n211 dX10_undo_47 ?_
        refine lv_imul hx hb dX10_undo_50 ?_
        refine lv_ci (y := 96) (by decide +kernel) ?_
        refine lv_iload_n hx hb dX10_undo_51 rfl (lv_at hl 0 rfl) ?_
        refine lv_iadd hx hb dX10_undo_52 ?_
        refine lv_topi (fun v236 ev236 => ?_)
        have bv236 : v236.toInt = 96 + u212.toInt := by rw [ev236]; exact add_k rfl rfl ⟨Int.le_refl _, Int.le_refl _⟩ k229 (by decide)
        have k237 : 96 ≤ v236.toInt ∧ v236.toInt ≤ 119 := add_r bv236 ⟨Int.le_refl _, Int.le_refl _⟩ k229 (by decide)
        refine va_iald hx hb hK hP 2 0 rfl rfl (ix_k k237 (by decide) (by decide)) dX10_undo_53 ?_
        refine lv_topi (fun v238 ev238 => ?_)
        have r239 : IMP (106 ≤ v236.toInt → v236.toInt ≤ 106 → 0 ≤ v238.toInt ∧ v238.toInt ≤ 5) := IMP.mk (fun q1 q2 => by rw [ev238]; exact s_undone_106.at _ q1 q2)
        have r240 : IMP (97 ≤ v236.toInt → v236.toInt ≤ 100 → 0 ≤ v238.toInt ∧ v238.toInt ≤ 11) := IMP.mk (fun q1 q2 => by rw [ev238]; exact s_undone_97.at _ q1 q2)
        obtain ⟨g241, eg241⟩ : ∃ z : Nat → Int32, upd w213 v232.toNatClampNeg v238 = z := ⟨_, rfl⟩
        have r242 : KW 0 g241 := by rw [← eg241]; exact i215.up (Int.le_trans (by decide) k233.1) (Or.inl (lt_dec k233.2 (by decide)))
        have r243 : US bs g241 := by rw [← eg241]; exact US.up i216 (Int.le_trans (by decide) k233.1)
        have r244 : SG 0 0 0 40 g241 := by rw [← eg241]; exact i217.up (Int.le_trans (by decide) k233.1) (Or.inr (Or.inl (dec_lt k233.1 (by decide))))
        have r245 : SG 105 108 0 11 g241 := by rw [← eg241]; exact i218.upI (Int.le_trans (by decide) k233.1) (fun q1 q2 => ⟨Int.le_trans (by decide) (r240.h (by omega) (by omega)).1, Int.le_trans (r240.h (by omega) (by omega)).2 (by decide)⟩)
        have r246 : SG 114 114 0 5 g241 := by rw [← eg241]; exact i219.upI (Int.le_trans (by decide) k233.1) (fun q1 q2 => ⟨Int.le_trans (by decide) (r239.h (by omega) (by omega)).1, Int.le_trans (r239.h (by omega) (by omega)).2 (by decide)⟩)
        have r247 : SG 130 133 0 11 g241 := by rw [← eg241]; exact i220.up (Int.le_trans (by decide) k233.1) (Or.inl (lt_dec k233.2 (by decide)))
        have r248 : SG 139 139 0 5 g241 := by rw [← eg241]; exact i221.up (Int.le_trans (by decide) k233.1) (Or.inl (lt_dec k233.2 (by decide)))
        have r249 : SG 153 153 0 44 g241 := by rw [← eg241]; exact i222.up (Int.le_trans (by decide) k233.1) (Or.inl (lt_dec k233.2 (by decide)))
        have r250 : SG 44 55 0 9 g241 := by rw [← eg241]; exact i223.up (Int.le_trans (by decide) k233.1) (Or.inr (Or.inl (dec_lt k233.1 (by decide))))
        have r251 : SG 5 5 0 12 g241 := by rw [← eg241]; exact i224.up (Int.le_trans (by decide) k233.1) (Or.inr (Or.inl (dec_lt k233.1 (by decide))))
        have r252 : SG 6 6 0 12 g241 := by rw [← eg241]; exact i225.up (Int.le_trans (by decide) k233.1) (Or.inr (Or.inl (dec_lt k233.1 (by decide))))
        have r253 : SG 7 7 0 6 g241 := by rw [← eg241]; exact i226.up (Int.le_trans (by decide) k233.1) (Or.inr (Or.inl (dec_lt k233.1 (by decide))))
        refine iast_g hx hb hK hP hD hS 1 0 rfl rfl (ix_k k233 (by decide) (by decide)) eg241 dX10_undo_54 (fun H locs hP hD hS => ?_)
        have hP : va_P D vwCl [(h0, .inr (10, vL 67 F7)), (h_s, .inl (cI, 335, .inl g241)), (h_undone, .inl (cI, 192, .inl f_undone))] H := hP
        have hD : va_D A [(h0, .inr (10, vL 67 F7)), (h_s, .inl (cI, 335, .inl g241)), (h_undone, .inl (cI, 192, .inl f_undone))] := hD
        obtain ⟨v254, ev254⟩ : ∃ z : Int32, z = u212 + 1 := ⟨_, rfl⟩
        have bv254 : v254.toInt = u212.toInt + 1 := by rw [ev254]; exact add_k rfl rfl k229 ⟨Int.le_refl _, Int.le_refl _⟩ (by decide)
        have k255 : 1 ≤ v254.toInt ∧ v254.toInt ≤ 24 := add_r bv254 k229 ⟨Int.le_refl _, Int.le_refl _⟩ (by decide)
        refine lv_iinc (v := v254) (lv' := [(1, .int v254), (0, .ref h0)]) hx hb dX10_undo_55 hl (k := 0) rfl (by rw [ev254]; rfl) (by decide) rfl (fun ls hl => ?_)
        refine lv_goto (tgt := 26) hx hb dX10_undo_58 (by decide) ?_
        exact ih (v254, g241) ⟨(ir_wk k255 (by decide) (by decide)), r242, r243, r244, r245, r246, r247, r248, r249, r250, r251, r252, r253⟩ (by show (24 - v254.toInt).toNat < (24 - u212.toInt).toNat; omega) _ _ _ hP hD hS (lv_sub hl [0, 1] rfl)
    have dk208 : v5.toInt ≠ 4 := ne_i rfl rfl k208
    have k256 : 5 ≤ v5.toInt ∧ v5.toInt ≤ 7 := ⟨ne_lo dk208 k206.1 ⟨Int.le_refl _, Int.le_refl _⟩ (by decide), k206.2⟩
    have k257 : 6 ≤ x_undoMany.toInt ∧ x_undoMany.toInt ≤ 8 := ⟨lin_lo (lin_m bv5) k256.1 (by decide), k207.2⟩
    by_cases k258 : v5 = 5
    · have dk258 : v5.toInt = 5 := eq_i rfl rfl k258
      have k259 : 5 ≤ v5.toInt ∧ v5.toInt ≤ 5 := ⟨k256.1, Int.le_trans (Int.le_of_eq dk258) (Int.le_refl _)⟩
      have k260 : 6 ≤ x_undoMany.toInt ∧ x_undoMany.toInt ≤ 6 := ⟨k257.1, lin_hi (lin_m bv5) k259.2 (by decide)⟩
      have n261 : F7 41 = .int 5 := by rw [(get_eq eF7)]; exact congrArg Value.int k258
      refine lv_iconst (v := 0) hx hb dX10_undo_24 (by decide) ?_
      refine lv_istore_n (lv' := [(1, .int 0), (0, .ref h0)]) hx hb dX10_undo_25 rfl hl (by decide) rfl (fun ls hl => ?_)
      refine mloop (α := (Int32) × (Nat → Int32)) (nL := 2) (D := D) (A := A) (H0 := s.heap) (fun a => (24 - a.1.toInt).toNat) (fun a => IR 0 24 a.1 ∧ KW 0 a.2 ∧ US bs a.2 ∧ SG 0 0 0 40 a.2 ∧ SG 105 108 0 11 a.2 ∧ SG 114 114 0 5 a.2 ∧ SG 130 133 0 11 a.2 ∧ SG 139 139 0 5 a.2 ∧ SG 153 153 0 44 a.2 ∧ SG 44 55 0 9 a.2 ∧ SG 5 5 0 12 a.2 ∧ SG 6 6 0 12 a.2 ∧ SG 7 7 0 6 a.2) (fun a => [(h0, .inr (10, vL 67 F7)), (h_s, .inl (cI, 335, .inl a.2)), (h_undone, .inl (cI, 192, .inl f_undone))]) (fun a => [(1, .int a.1), (0, .ref h0)]) (fun H locs ls => W p l e ({ frames := 0, cells := 0, slots := 0, locals := 0 } : Room) s m [.ref h0].toArray below meth c H locs 0 0 (MQ below (va_Qi (fun (r : Int32) (u : va_W) => ∃ (Gh : Nat → Value) (y_undoMany : Int32) (g_s : Nat → Int32), SAME [0, 41] Fh Gh ∧ Gh 0 = .int 0 ∧ Gh 41 = .int y_undoMany ∧ IR 0 7 y_undoMany ∧ SG 153 153 0 44 g_s ∧ SG 0 0 0 40 g_s ∧ SG 5 5 0 12 g_s ∧ SG 6 6 0 12 g_s ∧ SG 7 7 0 6 g_s ∧ SG 44 55 0 9 g_s ∧ KW 0 g_s ∧ SG 105 108 0 11 g_s ∧ SG 114 114 0 5 g_s ∧ SG 130 133 0 11 g_s ∧ SG 139 139 0 5 g_s ∧ US bs g_s ∧ IR (-1) 7 r ∧ u = [(h0, .inr (10, vL 67 Gh)), (h_s, .inl (cI, 335, .inl g_s)), (h_undone, .inl (cI, 192, .inl f_undone))]) (PO D A) A) [.ref h0].toArray s 0 0 A) (F0 m 26 ls [])) ?_ (0, f_s) ⟨(show 0 ≤ (0 : Int32).toInt ∧ (0 : Int32).toInt ≤ 24 by decide), s_s_K0, s_s_US, s_s_0, s_s_105, s_s_114, s_s_130, s_s_139, s_s_153, s_s_44, s_s_5, s_s_6, s_s_7⟩ _ _ _ hP hD hS hl
      rintro ⟨u262, w263⟩ ⟨i264, i265, i266, i267, i268, i269, i270, i271, i272, i273, i274, i275, i276⟩ ih H locs ls hP hD hS hl
      have i264 : 0 ≤ u262.toInt ∧ u262.toInt ≤ 24 := i264
      have hP : va_P D vwCl [(h0, .inr (10, vL 67 F7)), (h_s, .inl (cI, 335, .inl w263)), (h_undone, .inl (cI, 192, .inl f_undone))] H := hP
      have hD : va_D A [(h0, .inr (10, vL 67 F7)), (h_s, .inl (cI, 335, .inl w263)), (h_undone, .inl (cI, 192, .inl f_undone))] := hD
      have hl : lv_has ls 2 [(1, .int u262), (0, .ref h0)] := hl
      refine lv_iload_n hx hb dX10_undo_26 rfl (lv_at hl 0 rfl) ?_
      refine lv_bipush (v := 24) hx hb dX10_undo_27 (by decide) ?_
      refine lv_icmp_ge (tgt := 61) hx hb dX10_undo_29 (by decide) (fun c277 => ?_) (fun c277 => ?_)
      · have dc277 : 24 ≤ u262.toInt := le_i (a := 24) (b := u262.toInt) rfl rfl c277
        have k278 : 24 ≤ u262.toInt ∧ u262.toInt ≤ 24 := ⟨Int.le_trans (Int.le_refl _) dc277, i264.2⟩
        refine lv_aload_n hx hb dX10_undo_61 rfl (lv_at hl 1 rfl) ?_
        refine get_f (D := D) (ci := 10) (v := .int 5) (C := RX10) (T := TX10) (N := 67) hx hb hw inAX10 hown hK hP 0 rfl rfl 41 (by decide) (hw _ q_1302) (fun _ h9 => h9) n261 dX10_undo_62 ?_
        exact ret_i (v := 5) hx hb hr hlocks hS hP hD dX10_undo_65 rfl (Nat.le_of_ble_eq_true rfl) (Nat.le_of_ble_eq_true rfl) ⟨F7, v5, w263, (SAME.up eF7 (SAME.up eF1 SAME.rf (by decide)) (by decide)), (get_ne eF7 (by decide) (get_eq eF1)), (get_eq eF7), (ir_wk k259 (by decide) (by decide)), i272, i267, i274, i275, i276, i273, i265, i268, i269, i270, i271, i266, (show (-1) ≤ (5 : Int32).toInt ∧ (5 : Int32).toInt ≤ 7 by decide), rfl⟩
      · have dc277 : u262.toInt < 24 := nle_i (a := 24) (b := u262.toInt) rfl rfl c277
        have k279 : 0 ≤ u262.toInt ∧ u262.toInt ≤ 23 := ⟨i264.1, up_lt dc277 (Int.le_refl _) (by decide)⟩
        refine lv_aload_n hx hb dX10_undo_32 rfl (lv_at hl 1 rfl) ?_
        have n280 : F1 6 = .ref h_s := (get_ne eF1 (by decide) e_s)
        have n281 : F7 6 = .ref h_s := (get_ne eF7 (by decide) n280)
        refine get_f (D := D) (ci := 10) (v := .ref h_s) (C := RX10) (T := TX10) (N := 67) hx hb hw inAX10 hown hK hP 0 rfl rfl 6 (by decide) (hw _ q_1267) (fun _ h9 => h9) n281 dX10_undo_33 ?_
        refine lv_bipush (v := 104) hx hb dX10_undo_36 (by decide) ?_
        refine lv_iload_n hx hb dX10_undo_38 rfl (lv_at hl 0 rfl) ?_
        refine lv_iadd hx hb dX10_undo_39 ?_
        refine lv_topi (fun v282 ev282 => ?_)
        have bv282 : v282.toInt = 104 + u262.toInt := by rw [ev282]; exact add_k rfl rfl ⟨Int.le_refl _, Int.le_refl _⟩ k279 (by decide)
        have k283 : 104 ≤ v282.toInt ∧ v282.toInt ≤ 127 := add_r bv282 ⟨Int.le_refl _, Int.le_refl _⟩ k279 (by decide)
        refine lv_aload_n hx hb dX10_undo_40 rfl (lv_at hl 1 rfl) ?_
        have n284 : F1 39 = .ref h_undone := (get_ne eF1 (by decide) e_undone)
        have n285 : F7 39 = .ref h_undone := (get_ne eF7 (by decide) n284)
        refine get_f (D := D) (ci := 10) (v := .ref h_undone) (C := RX10) (T := TX10) (N := 67) hx hb hw inAX10 hown hK hP 0 rfl rfl 39 (by decide) (hw _ q_1300) (fun _ h9 => h9) n285 dX10_undo_41 ?_
        refine lv_bipush (v := 24) hx hb dX10_undo_44 (by decide) ?_
        refine lv_aload_n hx hb dX10_undo_46 rfl (lv_at hl 1 rfl) ?_
        refine get_f (D := D) (ci := 10) (v := .int 5) (C := RX10) (T := TX10) (N := 67) hx hb hw inAX10 hown hK hP 0 rfl rfl 41 (by decide) (hw _ q_1302) (fun _ h9 => h9) n261 dX10_undo_47 ?_
        refine lv_imul hx hb dX10_undo_50 ?_
        refine lv_ci (y := 120) (by decide +kernel) ?_
        refine lv_iload_n hx hb dX10_undo_51 rfl (lv_at hl 0 rfl) ?_
        refine lv_iadd hx hb dX10_undo_52 ?_
        refine lv_topi (fun v286 ev286 => ?_)
        have bv286 : v286.toInt = 120 + u262.toInt := by rw [ev286]; exact add_k rfl rfl ⟨Int.le_refl _, Int.le_refl _⟩ k279 (by decide)
        have k287 : 120 ≤ v286.toInt ∧ v286.toInt ≤ 143 := add_r bv286 ⟨Int.le_refl _, Int.le_refl _⟩ k279 (by decide)
        refine va_iald hx hb hK hP 2 0 rfl rfl (ix_k k287 (by decide) (by decide)) dX10_undo_53 ?_
        refine lv_topi (fun v288 ev288 => ?_)
        have r289 : IMP (121 ≤ v286.toInt → v286.toInt ≤ 124 → 0 ≤ v288.toInt ∧ v288.toInt ≤ 11) := IMP.mk (fun q1 q2 => by rw [ev288]; exact s_undone_121.at _ q1 q2)
        have r290 : IMP (130 ≤ v286.toInt → v286.toInt ≤ 130 → 0 ≤ v288.toInt ∧ v288.toInt ≤ 5) := IMP.mk (fun q1 q2 => by rw [ev288]; exact s_undone_130.at _ q1 q2)
        obtain ⟨g291, eg291⟩ : ∃ z : Nat → Int32, upd w263 v282.toNatClampNeg v288 = z := ⟨_, rfl⟩
        have r292 : KW 0 g291 := by rw [← eg291]; exact i265.up (Int.le_trans (by decide) k283.1) (Or.inl (lt_dec k283.2 (by decide)))
        have r293 : US bs g291 := by rw [← eg291]; exact US.up i266 (Int.le_trans (by decide) k283.1)
        have r294 : SG 0 0 0 40 g291 := by rw [← eg291]; exact i267.up (Int.le_trans (by decide) k283.1) (Or.inr (Or.inl (dec_lt k283.1 (by decide))))
        have r295 : SG 105 108 0 11 g291 := by rw [← eg291]; exact i268.upI (Int.le_trans (by decide) k283.1) (fun q1 q2 => ⟨Int.le_trans (by decide) (r289.h (by omega) (by omega)).1, Int.le_trans (r289.h (by omega) (by omega)).2 (by decide)⟩)
        have r296 : SG 114 114 0 5 g291 := by rw [← eg291]; exact i269.upI (Int.le_trans (by decide) k283.1) (fun q1 q2 => ⟨Int.le_trans (by decide) (r290.h (by omega) (by omega)).1, Int.le_trans (r290.h (by omega) (by omega)).2 (by decide)⟩)
        have r297 : SG 130 133 0 11 g291 := by rw [← eg291]; exact i270.up (Int.le_trans (by decide) k283.1) (Or.inl (lt_dec k283.2 (by decide)))
        have r298 : SG 139 139 0 5 g291 := by rw [← eg291]; exact i271.up (Int.le_trans (by decide) k283.1) (Or.inl (lt_dec k283.2 (by decide)))
        have r299 : SG 153 153 0 44 g291 := by rw [← eg291]; exact i272.up (Int.le_trans (by decide) k283.1) (Or.inl (lt_dec k283.2 (by decide)))
        have r300 : SG 44 55 0 9 g291 := by rw [← eg291]; exact i273.up (Int.le_trans (by decide) k283.1) (Or.inr (Or.inl (dec_lt k283.1 (by decide))))
        have r301 : SG 5 5 0 12 g291 := by rw [← eg291]; exact i274.up (Int.le_trans (by decide) k283.1) (Or.inr (Or.inl (dec_lt k283.1 (by decide))))
        have r302 : SG 6 6 0 12 g291 := by rw [← eg291]; exact i275.up (Int.le_trans (by decide) k283.1) (Or.inr (Or.inl (dec_lt k283.1 (by decide))))
        have r303 : SG 7 7 0 6 g291 := by rw [← eg291]; exact i276.up (Int.le_trans (by decide) k283.1) (Or.inr (Or.inl (dec_lt k283.1 (by decide))))
        refine iast_g hx hb hK hP hD hS 1 0 rfl rfl (ix_k k283 (by decide) (by decide)) eg291 dX10_undo_54 (fun H locs hP hD hS => ?_)
        have hP : va_P D vwCl [(h0, .inr (10, vL 67 F7)), (h_s, .inl (cI, 335, .inl g291)), (h_undone, .inl (cI, 192, .inl f_undone))] H := hP
        have hD : va_D A [(h0, .inr (10, vL 67 F7)), (h_s, .inl (cI, 335, .inl g291)), (h_undone, .inl (cI, 192, .inl f_undone))] := hD
        obtain ⟨v304, ev304⟩ : ∃ z : Int32, z = u262 + 1 := ⟨_, rfl⟩
        have bv304 : v304.toInt = u262.toInt + 1 := by rw [ev304]; exact add_k rfl rfl k279 ⟨Int.le_refl _, Int.le_refl _⟩ (by decide)
        have k305 : 1 ≤ v304.toInt ∧ v304.toInt ≤ 24 := add_r bv304 k279 ⟨Int.le_refl _, Int.le_refl _⟩ (by decide)
        refine lv_iinc (v := v304) (lv' := [(1, .int v304), (0, .ref h0)]) hx hb dX10_undo_55 hl (k := 0) rfl (by rw [ev304]; rfl) (by decide) rfl (fun ls hl => ?_)
        refine lv_goto (tgt := 26) hx hb dX10_undo_58 (by decide) ?_
        exact ih (v304, g291) ⟨(ir_wk k305 (by decide) (by decide)), r292, r293, r294, r295, r296, r297, r298, r299, r300, r301, r302, r303⟩ (by show (24 - v304.toInt).toNat < (24 - u262.toInt).toNat; omega) _ _ _ hP hD hS (lv_sub hl [0, 1] rfl)
    have dk258 : v5.toInt ≠ 5 := ne_i rfl rfl k258
    have k306 : 6 ≤ v5.toInt ∧ v5.toInt ≤ 7 := ⟨ne_lo dk258 k256.1 ⟨Int.le_refl _, Int.le_refl _⟩ (by decide), k256.2⟩
    have k307 : 7 ≤ x_undoMany.toInt ∧ x_undoMany.toInt ≤ 8 := ⟨lin_lo (lin_m bv5) k306.1 (by decide), k257.2⟩
    by_cases k308 : v5 = 6
    · have dk308 : v5.toInt = 6 := eq_i rfl rfl k308
      have k309 : 6 ≤ v5.toInt ∧ v5.toInt ≤ 6 := ⟨k306.1, Int.le_trans (Int.le_of_eq dk308) (Int.le_refl _)⟩
      have k310 : 7 ≤ x_undoMany.toInt ∧ x_undoMany.toInt ≤ 7 := ⟨k307.1, lin_hi (lin_m bv5) k309.2 (by decide)⟩
      have n311 : F7 41 = .int 6 := by rw [(get_eq eF7)]; exact congrArg Value.int k308
      refine lv_iconst (v := 0) hx hb dX10_undo_24 (by decide) ?_
      refine lv_istore_n (lv' := [(1, .int 0), (0, .ref h0)]) hx hb dX10_undo_25 rfl hl (by decide) rfl (fun ls hl => ?_)
      refine mloop (α := (Int32) × (Nat → Int32)) (nL := 2) (D := D) (A := A) (H0 := s.heap) (fun a => (24 - a.1.toInt).toNat) (fun a => IR 0 24 a.1 ∧ KW 0 a.2 ∧ US bs a.2 ∧ SG 0 0 0 40 a.2 ∧ SG 105 108 0 11 a.2 ∧ SG 114 114 0 5 a.2 ∧ SG 130 133 0 11 a.2 ∧ SG 139 139 0 5 a.2 ∧ SG 153 153 0 44 a.2 ∧ SG 44 55 0 9 a.2 ∧ SG 5 5 0 12 a.2 ∧ SG 6 6 0 12 a.2 ∧ SG 7 7 0 6 a.2) (fun a => [(h0, .inr (10, vL 67 F7)), (h_s, .inl (cI, 335, .inl a.2)), (h_undone, .inl (cI, 192, .inl f_undone))]) (fun a => [(1, .int a.1), (0, .ref h0)]) (fun H locs ls => W p l e ({ frames := 0, cells := 0, slots := 0, locals := 0 } : Room) s m [.ref h0].toArray below meth c H locs 0 0 (MQ below (va_Qi (fun (r : Int32) (u : va_W) => ∃ (Gh : Nat → Value) (y_undoMany : Int32) (g_s : Nat → Int32), SAME [0, 41] Fh Gh ∧ Gh 0 = .int 0 ∧ Gh 41 = .int y_undoMany ∧ IR 0 7 y_undoMany ∧ SG 153 153 0 44 g_s ∧ SG 0 0 0 40 g_s ∧ SG 5 5 0 12 g_s ∧ SG 6 6 0 12 g_s ∧ SG 7 7 0 6 g_s ∧ SG 44 55 0 9 g_s ∧ KW 0 g_s ∧ SG 105 108 0 11 g_s ∧ SG 114 114 0 5 g_s ∧ SG 130 133 0 11 g_s ∧ SG 139 139 0 5 g_s ∧ US bs g_s ∧ IR (-1) 7 r ∧ u = [(h0, .inr (10, vL 67 Gh)), (h_s, .inl (cI, 335, .inl g_s)), (h_undone, .inl (cI, 192, .inl f_undone))]) (PO D A) A) [.ref h0].toArray s 0 0 A) (F0 m 26 ls [])) ?_ (0, f_s) ⟨(show 0 ≤ (0 : Int32).toInt ∧ (0 : Int32).toInt ≤ 24 by decide), s_s_K0, s_s_US, s_s_0, s_s_105, s_s_114, s_s_130, s_s_139, s_s_153, s_s_44, s_s_5, s_s_6, s_s_7⟩ _ _ _ hP hD hS hl
      rintro ⟨u312, w313⟩ ⟨i314, i315, i316, i317, i318, i319, i320, i321, i322, i323, i324, i325, i326⟩ ih H locs ls hP hD hS hl
      have i314 : 0 ≤ u312.toInt ∧ u312.toInt ≤ 24 := i314
      have hP : va_P D vwCl [(h0, .inr (10, vL 67 F7)), (h_s, .inl (cI, 335, .inl w313)), (h_undone, .inl (cI, 192, .inl f_undone))] H := hP
      have hD : va_D A [(h0, .inr (10, vL 67 F7)), (h_s, .inl (cI, 335, .inl w313)), (h_undone, .inl (cI, 192, .inl f_undone))] := hD
      have hl : lv_has ls 2 [(1, .int u312), (0, .ref h0)] := hl
      refine lv_iload_n hx hb dX10_undo_26 rfl (lv_at hl 0 rfl) ?_
      refine lv_bipush (v := 24) hx hb dX10_undo_27 (by decide) ?_
      refine lv_icmp_ge (tgt := 61) hx hb dX10_undo_29 (by decide) (fun c327 => ?_) (fun c327 => ?_)
      · have dc327 : 24 ≤ u312.toInt := le_i (a := 24) (b := u312.toInt) rfl rfl c327
        have k328 : 24 ≤ u312.toInt ∧ u312.toInt ≤ 24 := ⟨Int.le_trans (Int.le_refl _) dc327, i314.2⟩
        refine lv_aload_n hx hb dX10_undo_61 rfl (lv_at hl 1 rfl) ?_
        refine get_f (D := D) (ci := 10) (v := .int 6) (C := RX10) (T := TX10) (N := 67) hx hb hw inAX10 hown hK hP 0 rfl rfl 41 (by decide) (hw _ q_1302) (fun _ h9 => h9) n311 dX10_undo_62 ?_
        exact ret_i (v := 6) hx hb hr hlocks hS hP hD dX10_undo_65 rfl (Nat.le_of_ble_eq_true rfl) (Nat.le_of_ble_eq_true rfl) ⟨F7, v5, w313, (SAME.up eF7 (SAME.up eF1 SAME.rf (by decide)) (by decide)), (get_ne eF7 (by decide) (get_eq eF1)), (get_eq eF7), (ir_wk k309 (by decide) (by decide)), i322, i317, i324, i325, i326, i323, i315, i318, i319, i320, i321, i316, (show (-1) ≤ (6 : Int32).toInt ∧ (6 : Int32).toInt ≤ 7 by decide), rfl⟩
      · have dc327 : u312.toInt < 24 := nle_i (a := 24) (b := u312.toInt) rfl rfl c327
        have k329 : 0 ≤ u312.toInt ∧ u312.toInt ≤ 23 := ⟨i314.1, up_lt dc327 (Int.le_refl _) (by decide)⟩
        refine lv_aload_n hx hb dX10_undo_32 rfl (lv_at hl 1 rfl) ?_
        have n330 : F1 6 = .ref h_s := (get_ne eF1 (by decide) e_s)
        have n331 : F7 6 = .ref h_s := (get_ne eF7 (by decide) n330)
        refine get_f (D := D) (ci := 10) (v := .ref h_s) (C := RX10) (T := TX10) (N := 67) hx hb hw inAX10 hown hK hP 0 rfl rfl 6 (by decide) (hw _ q_1267) (fun _ h9 => h9) n331 dX10_undo_33 ?_
        refine lv_bipush (v := 104) hx hb dX10_undo_36 (by decide) ?_
        refine lv_iload_n hx hb dX10_undo_38 rfl (lv_at hl 0 rfl) ?_
        refine lv_iadd hx hb dX10_undo_39 ?_
        refine lv_topi (fun v332 ev332 => ?_)
        have bv332 : v332.toInt = 104 + u312.toInt := by rw [ev332]; exact add_k rfl rfl ⟨Int.le_refl _, Int.le_refl _⟩ k329 (by decide)
        have k333 : 104 ≤ v332.toInt ∧ v332.toInt ≤ 127 := add_r bv332 ⟨Int.le_refl _, Int.le_refl _⟩ k329 (by decide)
        refine lv_aload_n hx hb dX10_undo_40 rfl (lv_at hl 1 rfl) ?_
        have n334 : F1 39 = .ref h_undone := (get_ne eF1 (by decide) e_undone)
        have n335 : F7 39 = .ref h_undone := (get_ne eF7 (by decide) n334)
        refine get_f (D := D) (ci := 10) (v := .ref h_undone) (C := RX10) (T := TX10) (N := 67) hx hb hw inAX10 hown hK hP 0 rfl rfl 39 (by decide) (hw _ q_1300) (fun _ h9 => h9) n335 dX10_undo_41 ?_
        refine lv_bipush (v := 24) hx hb dX10_undo_44 (by decide) ?_
        refine lv_aload_n hx hb dX10_undo_46 rfl (lv_at hl 1 rfl) ?_
        refine get_f (D := D) (ci := 10) (v := .int 6) (C := RX10) (T := TX10) (N := 67) hx hb hw inAX10 hown hK hP 0 rfl rfl 41 (by decide) (hw _ q_1302) (fun _ h9 => h9) n311 dX10_undo_47 ?_
        refine lv_imul hx hb dX10_undo_50 ?_
        refine lv_ci (y := 144) (by decide +kernel) ?_
        refine lv_iload_n hx hb dX10_undo_51 rfl (lv_at hl 0 rfl) ?_
        refine lv_iadd hx hb dX10_undo_52 ?_
        refine lv_topi (fun v336 ev336 => ?_)
        have bv336 : v336.toInt = 144 + u312.toInt := by rw [ev336]; exact add_k rfl rfl ⟨Int.le_refl _, Int.le_refl _⟩ k329 (by decide)
        have k337 : 144 ≤ v336.toInt ∧ v336.toInt ≤ 167 := add_r bv336 ⟨Int.le_refl _, Int.le_refl _⟩ k329 (by decide)
        refine va_iald hx hb hK hP 2 0 rfl rfl (ix_k k337 (by decide) (by decide)) dX10_undo_53 ?_
        refine lv_topi (fun v338 ev338 => ?_)
        have r339 : IMP (145 ≤ v336.toInt → v336.toInt ≤ 148 → 0 ≤ v338.toInt ∧ v338.toInt ≤ 11) := IMP.mk (fun q1 q2 => by rw [ev338]; exact s_undone_145.at _ q1 q2)
        have r340 : IMP (154 ≤ v336.toInt → v336.toInt ≤ 154 → 0 ≤ v338.toInt ∧ v338.toInt ≤ 5) := IMP.mk (fun q1 q2 => by rw [ev338]; exact s_undone_154.at _ q1 q2)
        obtain ⟨g341, eg341⟩ : ∃ z : Nat → Int32, upd w313 v332.toNatClampNeg v338 = z := ⟨_, rfl⟩
        have r342 : KW 0 g341 := by rw [← eg341]; exact i315.up (Int.le_trans (by decide) k333.1) (Or.inl (lt_dec k333.2 (by decide)))
        have r343 : US bs g341 := by rw [← eg341]; exact US.up i316 (Int.le_trans (by decide) k333.1)
        have r344 : SG 0 0 0 40 g341 := by rw [← eg341]; exact i317.up (Int.le_trans (by decide) k333.1) (Or.inr (Or.inl (dec_lt k333.1 (by decide))))
        have r345 : SG 105 108 0 11 g341 := by rw [← eg341]; exact i318.upI (Int.le_trans (by decide) k333.1) (fun q1 q2 => ⟨Int.le_trans (by decide) (r339.h (by omega) (by omega)).1, Int.le_trans (r339.h (by omega) (by omega)).2 (by decide)⟩)
        have r346 : SG 114 114 0 5 g341 := by rw [← eg341]; exact i319.upI (Int.le_trans (by decide) k333.1) (fun q1 q2 => ⟨Int.le_trans (by decide) (r340.h (by omega) (by omega)).1, Int.le_trans (r340.h (by omega) (by omega)).2 (by decide)⟩)
        have r347 : SG 130 133 0 11 g341 := by rw [← eg341]; exact i320.up (Int.le_trans (by decide) k333.1) (Or.inl (lt_dec k333.2 (by decide)))
        have r348 : SG 139 139 0 5 g341 := by rw [← eg341]; exact i321.up (Int.le_trans (by decide) k333.1) (Or.inl (lt_dec k333.2 (by decide)))
        have r349 : SG 153 153 0 44 g341 := by rw [← eg341]; exact i322.up (Int.le_trans (by decide) k333.1) (Or.inl (lt_dec k333.2 (by decide)))
        have r350 : SG 44 55 0 9 g341 := by rw [← eg341]; exact i323.up (Int.le_trans (by decide) k333.1) (Or.inr (Or.inl (dec_lt k333.1 (by decide))))
        have r351 : SG 5 5 0 12 g341 := by rw [← eg341]; exact i324.up (Int.le_trans (by decide) k333.1) (Or.inr (Or.inl (dec_lt k333.1 (by decide))))
        have r352 : SG 6 6 0 12 g341 := by rw [← eg341]; exact i325.up (Int.le_trans (by decide) k333.1) (Or.inr (Or.inl (dec_lt k333.1 (by decide))))
        have r353 : SG 7 7 0 6 g341 := by rw [← eg341]; exact i326.up (Int.le_trans (by decide) k333.1) (Or.inr (Or.inl (dec_lt k333.1 (by decide))))
        refine iast_g hx hb hK hP hD hS 1 0 rfl rfl (ix_k k333 (by decide) (by decide)) eg341 dX10_undo_54 (fun H locs hP hD hS => ?_)
        have hP : va_P D vwCl [(h0, .inr (10, vL 67 F7)), (h_s, .inl (cI, 335, .inl g341)), (h_undone, .inl (cI, 192, .inl f_undone))] H := hP
        have hD : va_D A [(h0, .inr (10, vL 67 F7)), (h_s, .inl (cI, 335, .inl g341)), (h_undone, .inl (cI, 192, .inl f_undone))] := hD
        obtain ⟨v354, ev354⟩ : ∃ z : Int32, z = u312 + 1 := ⟨_, rfl⟩
        have bv354 : v354.toInt = u312.toInt + 1 := by rw [ev354]; exact add_k rfl rfl k329 ⟨Int.le_refl _, Int.le_refl _⟩ (by decide)
        have k355 : 1 ≤ v354.toInt ∧ v354.toInt ≤ 24 := add_r bv354 k329 ⟨Int.le_refl _, Int.le_refl _⟩ (by decide)
        refine lv_iinc (v := v354) (lv' := [(1, .int v354), (0, .ref h0)]) hx hb dX10_undo_55 hl (k := 0) rfl (by rw [ev354]; rfl) (by decide) rfl (fun ls hl => ?_)
        refine lv_goto (tgt := 26) hx hb dX10_undo_58 (by decide) ?_
        exact ih (v354, g341) ⟨(ir_wk k355 (by decide) (by decide)), r342, r343, r344, r345, r346, r347, r348, r349, r350, r351, r352, r353⟩ (by show (24 - v354.toInt).toNat < (24 - u312.toInt).toNat; omega) _ _ _ hP hD hS (lv_sub hl [0, 1] rfl)
    have dk308 : v5.toInt ≠ 6 := ne_i rfl rfl k308
    have k356 : 7 ≤ v5.toInt ∧ v5.toInt ≤ 7 := ⟨ne_lo dk308 k306.1 ⟨Int.le_refl _, Int.le_refl _⟩ (by decide), k306.2⟩
    have k357 : 8 ≤ x_undoMany.toInt ∧ x_undoMany.toInt ≤ 8 := ⟨lin_lo (lin_m bv5) k356.1 (by decide), k307.2⟩
    have k358 : v5 = 7 := Int32.toInt_inj.mp (show v5.toInt = 7 by omega)
    have dk358 : v5.toInt = 7 := eq_i rfl rfl k358
    have n359 : F7 41 = .int 7 := by rw [(get_eq eF7)]; exact congrArg Value.int k358
    refine lv_iconst (v := 0) hx hb dX10_undo_24 (by decide) ?_
    refine lv_istore_n (lv' := [(1, .int 0), (0, .ref h0)]) hx hb dX10_undo_25 rfl hl (by decide) rfl (fun ls hl => ?_)
    refine mloop (α := (Int32) × (Nat → Int32)) (nL := 2) (D := D) (A := A) (H0 := s.heap) (fun a => (24 - a.1.toInt).toNat) (fun a => IR 0 24 a.1 ∧ KW 0 a.2 ∧ US bs a.2 ∧ SG 0 0 0 40 a.2 ∧ SG 105 108 0 11 a.2 ∧ SG 114 114 0 5 a.2 ∧ SG 130 133 0 11 a.2 ∧ SG 139 139 0 5 a.2 ∧ SG 153 153 0 44 a.2 ∧ SG 44 55 0 9 a.2 ∧ SG 5 5 0 12 a.2 ∧ SG 6 6 0 12 a.2 ∧ SG 7 7 0 6 a.2) (fun a => [(h0, .inr (10, vL 67 F7)), (h_s, .inl (cI, 335, .inl a.2)), (h_undone, .inl (cI, 192, .inl f_undone))]) (fun a => [(1, .int a.1), (0, .ref h0)]) (fun H locs ls => W p l e ({ frames := 0, cells := 0, slots := 0, locals := 0 } : Room) s m [.ref h0].toArray below meth c H locs 0 0 (MQ below (va_Qi (fun (r : Int32) (u : va_W) => ∃ (Gh : Nat → Value) (y_undoMany : Int32) (g_s : Nat → Int32), SAME [0, 41] Fh Gh ∧ Gh 0 = .int 0 ∧ Gh 41 = .int y_undoMany ∧ IR 0 7 y_undoMany ∧ SG 153 153 0 44 g_s ∧ SG 0 0 0 40 g_s ∧ SG 5 5 0 12 g_s ∧ SG 6 6 0 12 g_s ∧ SG 7 7 0 6 g_s ∧ SG 44 55 0 9 g_s ∧ KW 0 g_s ∧ SG 105 108 0 11 g_s ∧ SG 114 114 0 5 g_s ∧ SG 130 133 0 11 g_s ∧ SG 139 139 0 5 g_s ∧ US bs g_s ∧ IR (-1) 7 r ∧ u = [(h0, .inr (10, vL 67 Gh)), (h_s, .inl (cI, 335, .inl g_s)), (h_undone, .inl (cI, 192, .inl f_undone))]) (PO D A) A) [.ref h0].toArray s 0 0 A) (F0 m 26 ls [])) ?_ (0, f_s) ⟨(show 0 ≤ (0 : Int32).toInt ∧ (0 : Int32).toInt ≤ 24 by decide), s_s_K0, s_s_US, s_s_0, s_s_105, s_s_114, s_s_130, s_s_139, s_s_153, s_s_44, s_s_5, s_s_6, s_s_7⟩ _ _ _ hP hD hS hl
    rintro ⟨u360, w361⟩ ⟨i362, i363, i364, i365, i366, i367, i368, i369, i370, i371, i372, i373, i374⟩ ih H locs ls hP hD hS hl
    have i362 : 0 ≤ u360.toInt ∧ u360.toInt ≤ 24 := i362
    have hP : va_P D vwCl [(h0, .inr (10, vL 67 F7)), (h_s, .inl (cI, 335, .inl w361)), (h_undone, .inl (cI, 192, .inl f_undone))] H := hP
    have hD : va_D A [(h0, .inr (10, vL 67 F7)), (h_s, .inl (cI, 335, .inl w361)), (h_undone, .inl (cI, 192, .inl f_undone))] := hD
    have hl : lv_has ls 2 [(1, .int u360), (0, .ref h0)] := hl
    refine lv_iload_n hx hb dX10_undo_26 rfl (lv_at hl 0 rfl) ?_
    refine lv_bipush (v := 24) hx hb dX10_undo_27 (by decide) ?_
    refine lv_icmp_ge (tgt := 61) hx hb dX10_undo_29 (by decide) (fun c375 => ?_) (fun c375 => ?_)
    · have dc375 : 24 ≤ u360.toInt := le_i (a := 24) (b := u360.toInt) rfl rfl c375
      have k376 : 24 ≤ u360.toInt ∧ u360.toInt ≤ 24 := ⟨Int.le_trans (Int.le_refl _) dc375, i362.2⟩
      refine lv_aload_n hx hb dX10_undo_61 rfl (lv_at hl 1 rfl) ?_
      refine get_f (D := D) (ci := 10) (v := .int 7) (C := RX10) (T := TX10) (N := 67) hx hb hw inAX10 hown hK hP 0 rfl rfl 41 (by decide) (hw _ q_1302) (fun _ h9 => h9) n359 dX10_undo_62 ?_
      exact ret_i (v := 7) hx hb hr hlocks hS hP hD dX10_undo_65 rfl (Nat.le_of_ble_eq_true rfl) (Nat.le_of_ble_eq_true rfl) ⟨F7, v5, w361, (SAME.up eF7 (SAME.up eF1 SAME.rf (by decide)) (by decide)), (get_ne eF7 (by decide) (get_eq eF1)), (get_eq eF7), (ir_wk k356 (by decide) (by decide)), i370, i365, i372, i373, i374, i371, i363, i366, i367, i368, i369, i364, (show (-1) ≤ (7 : Int32).toInt ∧ (7 : Int32).toInt ≤ 7 by decide), rfl⟩
    · have dc375 : u360.toInt < 24 := nle_i (a := 24) (b := u360.toInt) rfl rfl c375
      have k377 : 0 ≤ u360.toInt ∧ u360.toInt ≤ 23 := ⟨i362.1, up_lt dc375 (Int.le_refl _) (by decide)⟩
      refine lv_aload_n hx hb dX10_undo_32 rfl (lv_at hl 1 rfl) ?_
      have n378 : F1 6 = .ref h_s := (get_ne eF1 (by decide) e_s)
      have n379 : F7 6 = .ref h_s := (get_ne eF7 (by decide) n378)
      refine get_f (D := D) (ci := 10) (v := .ref h_s) (C := RX10) (T := TX10) (N := 67) hx hb hw inAX10 hown hK hP 0 rfl rfl 6 (by decide) (hw _ q_1267) (fun _ h9 => h9) n379 dX10_undo_33 ?_
      refine lv_bipush (v := 104) hx hb dX10_undo_36 (by decide) ?_
      refine lv_iload_n hx hb dX10_undo_38 rfl (lv_at hl 0 rfl) ?_
      refine lv_iadd hx hb dX10_undo_39 ?_
      refine lv_topi (fun v380 ev380 => ?_)
      have bv380 : v380.toInt = 104 + u360.toInt := by rw [ev380]; exact add_k rfl rfl ⟨Int.le_refl _, Int.le_refl _⟩ k377 (by decide)
      have k381 : 104 ≤ v380.toInt ∧ v380.toInt ≤ 127 := add_r bv380 ⟨Int.le_refl _, Int.le_refl _⟩ k377 (by decide)
      refine lv_aload_n hx hb dX10_undo_40 rfl (lv_at hl 1 rfl) ?_
      have n382 : F1 39 = .ref h_undone := (get_ne eF1 (by decide) e_undone)
      have n383 : F7 39 = .ref h_undone := (get_ne eF7 (by decide) n382)
      refine get_f (D := D) (ci := 10) (v := .ref h_undone) (C := RX10) (T := TX10) (N := 67) hx hb hw inAX10 hown hK hP 0 rfl rfl 39 (by decide) (hw _ q_1300) (fun _ h9 => h9) n383 dX10_undo_41 ?_
      refine lv_bipush (v := 24) hx hb dX10_undo_44 (by decide) ?_
      refine lv_aload_n hx hb dX10_undo_46 rfl (lv_at hl 1 rfl) ?_
      refine get_f (D := D) (ci := 10) (v := .int 7) (C := RX10) (T := TX10) (N := 67) hx hb hw inAX10 hown hK hP 0 rfl rfl 41 (by decide) (hw _ q_1302) (fun _ h9 => h9) n359 dX10_undo_47 ?_
      refine lv_imul hx hb dX10_undo_50 ?_
      refine lv_ci (y := 168) (by decide +kernel) ?_
      refine lv_iload_n hx hb dX10_undo_51 rfl (lv_at hl 0 rfl) ?_
      refine lv_iadd hx hb dX10_undo_52 ?_
      refine lv_topi (fun v384 ev384 => ?_)
      have bv384 : v384.toInt = 168 + u360.toInt := by rw [ev384]; exact add_k rfl rfl ⟨Int.le_refl _, Int.le_refl _⟩ k377 (by decide)
      have k385 : 168 ≤ v384.toInt ∧ v384.toInt ≤ 191 := add_r bv384 ⟨Int.le_refl _, Int.le_refl _⟩ k377 (by decide)
      refine va_iald hx hb hK hP 2 0 rfl rfl (ix_k k385 (by decide) (by decide)) dX10_undo_53 ?_
      refine lv_topi (fun v386 ev386 => ?_)
      have r387 : IMP (169 ≤ v384.toInt → v384.toInt ≤ 172 → 0 ≤ v386.toInt ∧ v386.toInt ≤ 11) := IMP.mk (fun q1 q2 => by rw [ev386]; exact s_undone_169.at _ q1 q2)
      have r388 : IMP (178 ≤ v384.toInt → v384.toInt ≤ 178 → 0 ≤ v386.toInt ∧ v386.toInt ≤ 5) := IMP.mk (fun q1 q2 => by rw [ev386]; exact s_undone_178.at _ q1 q2)
      obtain ⟨g389, eg389⟩ : ∃ z : Nat → Int32, upd w361 v380.toNatClampNeg v386 = z := ⟨_, rfl⟩
      have r390 : KW 0 g389 := by rw [← eg389]; exact i363.up (Int.le_trans (by decide) k381.1) (Or.inl (lt_dec k381.2 (by decide)))
      have r391 : US bs g389 := by rw [← eg389]; exact US.up i364 (Int.le_trans (by decide) k381.1)
      have r392 : SG 0 0 0 40 g389 := by rw [← eg389]; exact i365.up (Int.le_trans (by decide) k381.1) (Or.inr (Or.inl (dec_lt k381.1 (by decide))))
      have r393 : SG 105 108 0 11 g389 := by rw [← eg389]; exact i366.upI (Int.le_trans (by decide) k381.1) (fun q1 q2 => ⟨Int.le_trans (by decide) (r387.h (by omega) (by omega)).1, Int.le_trans (r387.h (by omega) (by omega)).2 (by decide)⟩)
      have r394 : SG 114 114 0 5 g389 := by rw [← eg389]; exact i367.upI (Int.le_trans (by decide) k381.1) (fun q1 q2 => ⟨Int.le_trans (by decide) (r388.h (by omega) (by omega)).1, Int.le_trans (r388.h (by omega) (by omega)).2 (by decide)⟩)
      have r395 : SG 130 133 0 11 g389 := by rw [← eg389]; exact i368.up (Int.le_trans (by decide) k381.1) (Or.inl (lt_dec k381.2 (by decide)))
      have r396 : SG 139 139 0 5 g389 := by rw [← eg389]; exact i369.up (Int.le_trans (by decide) k381.1) (Or.inl (lt_dec k381.2 (by decide)))
      have r397 : SG 153 153 0 44 g389 := by rw [← eg389]; exact i370.up (Int.le_trans (by decide) k381.1) (Or.inl (lt_dec k381.2 (by decide)))
      have r398 : SG 44 55 0 9 g389 := by rw [← eg389]; exact i371.up (Int.le_trans (by decide) k381.1) (Or.inr (Or.inl (dec_lt k381.1 (by decide))))
      have r399 : SG 5 5 0 12 g389 := by rw [← eg389]; exact i372.up (Int.le_trans (by decide) k381.1) (Or.inr (Or.inl (dec_lt k381.1 (by decide))))
      have r400 : SG 6 6 0 12 g389 := by rw [← eg389]; exact i373.up (Int.le_trans (by decide) k381.1) (Or.inr (Or.inl (dec_lt k381.1 (by decide))))
      have r401 : SG 7 7 0 6 g389 := by rw [← eg389]; exact i374.up (Int.le_trans (by decide) k381.1) (Or.inr (Or.inl (dec_lt k381.1 (by decide))))
      refine iast_g hx hb hK hP hD hS 1 0 rfl rfl (ix_k k381 (by decide) (by decide)) eg389 dX10_undo_54 (fun H locs hP hD hS => ?_)
      have hP : va_P D vwCl [(h0, .inr (10, vL 67 F7)), (h_s, .inl (cI, 335, .inl g389)), (h_undone, .inl (cI, 192, .inl f_undone))] H := hP
      have hD : va_D A [(h0, .inr (10, vL 67 F7)), (h_s, .inl (cI, 335, .inl g389)), (h_undone, .inl (cI, 192, .inl f_undone))] := hD
      obtain ⟨v402, ev402⟩ : ∃ z : Int32, z = u360 + 1 := ⟨_, rfl⟩
      have bv402 : v402.toInt = u360.toInt + 1 := by rw [ev402]; exact add_k rfl rfl k377 ⟨Int.le_refl _, Int.le_refl _⟩ (by decide)
      have k403 : 1 ≤ v402.toInt ∧ v402.toInt ≤ 24 := add_r bv402 k377 ⟨Int.le_refl _, Int.le_refl _⟩ (by decide)
      refine lv_iinc (v := v402) (lv' := [(1, .int v402), (0, .ref h0)]) hx hb dX10_undo_55 hl (k := 0) rfl (by rw [ev402]; rfl) (by decide) rfl (fun ls hl => ?_)
      refine lv_goto (tgt := 26) hx hb dX10_undo_58 (by decide) ?_
      exact ih (v402, g389) ⟨(ir_wk k403 (by decide) (by decide)), r390, r391, r392, r393, r394, r395, r396, r397, r398, r399, r400, r401⟩ (by show (24 - v402.toInt).toNat < (24 - u360.toInt).toNat; omega) _ _ _ hP hD hS (lv_sub hl [0, 1] rfl)
  · have dc3 : x_undoMany.toInt = 0 := eq_i (a := x_undoMany.toInt) (b := 0) rfl rfl c3
    have k404 : 0 ≤ x_undoMany.toInt ∧ x_undoMany.toInt ≤ 0 := ⟨i_x_undoMany.1, Int.le_trans (Int.le_of_eq dc3) (Int.le_refl _)⟩
    refine lv_iconst (v := (-1)) hx hb dX10_undo_12 (by decide) ?_
    exact ret_i (v := (-1)) hx hb hr hlocks hS hP hD dX10_undo_13 rfl (Nat.le_of_ble_eq_true rfl) (Nat.le_of_ble_eq_true rfl) ⟨F1, x_undoMany, f_s, (SAME.up eF1 SAME.rf (by decide)), (get_eq eF1), n2, (ir_wk k404 (by decide) (by decide)), s_s_153, s_s_0, s_s_5, s_s_6, s_s_7, s_s_44, s_s_K0, s_s_105, s_s_114, s_s_130, s_s_139, s_s_US, (show (-1) ≤ ((-1) : Int32).toInt ∧ ((-1) : Int32).toInt ≤ 7 by decide), rfl⟩
set_option maxHeartbeats 4000000 in
set_option maxRecDepth 100000 in
theorem m_X10_tries (l : Launch) (D : va_G) (cI cJ cB cP cM cZ : ClassId) (h0 : Nat) (h_s : Nat) (h_before : Nat) (Fh : Nat → Value) (f_s : Nat → Int32) (f_before : Nat → Int32) (bs : Nat → Int32) (sz : Nat) (e_s : Fh 6 = .ref h_s) (e_before : Fh 40 = .ref h_before) (s_s_K0 : KW 0 f_s) (s_s_US : US bs f_s) (s_s_0 : SG 0 0 0 40 f_s) (s_s_105 : SG 105 108 0 11 f_s) (s_s_114 : SG 114 114 0 5 f_s) (s_s_130 : SG 130 133 0 11 f_s) (s_s_139 : SG 139 139 0 5 f_s) (s_s_153 : SG 153 153 0 44 f_s) (s_s_44 : SG 44 55 0 9 f_s) (s_s_5 : SG 5 5 0 12 f_s) (s_s_6 : SG 6 6 0 12 f_s) (s_s_7 : SG 7 7 0 6 f_s) (s_before_1 : SG 1 4 0 11 f_before) (s_before_10 : SG 10 10 0 5 f_before) : CV l yX10_tries cX10_tries 2 none { frames := 0, cells := 0, slots := 0, locals := 0 } (GG D cI cJ cB cP cM cZ) D [(h0, .inr (10, vL 67 Fh)), (h_s, .inl (cI, 335, .inl f_s)), (h_before, .inl (cI, 24, .inl f_before))] sz [.ref h0] (fun (u : va_W) => ∃ (g_before : Nat → Int32), SG 1 4 0 11 g_before ∧ SG 10 10 0 5 g_before ∧ u = [(h0, .inr (10, vL 67 Fh)), (h_s, .inl (cI, 335, .inl f_s)), (h_before, .inl (cI, 24, .inl g_before))]) := by
  refine CV_mk (by decide) (Nat.le_of_ble_eq_true rfl) ?_
  intro p e s m below meth c A ls E hAe hG hsz hP hD hA hS hl
  obtain ⟨hx, hb, hr, hw, hown, hlocks, hml, hnm⟩ := E
  have hK := hG.1
  have hl : lv_has ls 2 [(0, .ref h0)] := hl
  refine lv_iconst (v := 0) hx hb dX10_tries_0 (by decide) ?_
  refine lv_istore_n (lv' := [(1, .int 0), (0, .ref h0)]) hx hb dX10_tries_1 rfl hl (by decide) rfl (fun ls hl => ?_)
  refine mloop (α := (Int32) × (Nat → Int32)) (nL := 2) (D := D) (A := A) (H0 := s.heap) (fun a => (24 - a.1.toInt).toNat) (fun a => IR 0 24 a.1 ∧ SG 1 4 0 11 a.2 ∧ SG 10 10 0 5 a.2) (fun a => [(h0, .inr (10, vL 67 Fh)), (h_s, .inl (cI, 335, .inl f_s)), (h_before, .inl (cI, 24, .inl a.2))]) (fun a => [(1, .int a.1), (0, .ref h0)]) (fun H locs ls => W p l e ({ frames := 0, cells := 0, slots := 0, locals := 0 } : Room) s m [.ref h0].toArray below meth c H locs 0 0 (MQ below (va_Qv (fun (u : va_W) => ∃ (g_before : Nat → Int32), SG 1 4 0 11 g_before ∧ SG 10 10 0 5 g_before ∧ u = [(h0, .inr (10, vL 67 Fh)), (h_s, .inl (cI, 335, .inl f_s)), (h_before, .inl (cI, 24, .inl g_before))]) (PO D A) A) [.ref h0].toArray s 0 0 A) (F0 m 2 ls [])) ?_ (0, f_before) ⟨(show 0 ≤ (0 : Int32).toInt ∧ (0 : Int32).toInt ≤ 24 by decide), s_before_1, s_before_10⟩ _ _ _ hP hD hS hl
  rintro ⟨u1, w2⟩ ⟨i3, i4, i5⟩ ih H locs ls hP hD hS hl
  have i3 : 0 ≤ u1.toInt ∧ u1.toInt ≤ 24 := i3
  have hP : va_P D vwCl [(h0, .inr (10, vL 67 Fh)), (h_s, .inl (cI, 335, .inl f_s)), (h_before, .inl (cI, 24, .inl w2))] H := hP
  have hD : va_D A [(h0, .inr (10, vL 67 Fh)), (h_s, .inl (cI, 335, .inl f_s)), (h_before, .inl (cI, 24, .inl w2))] := hD
  have hl : lv_has ls 2 [(1, .int u1), (0, .ref h0)] := hl
  refine lv_iload_n hx hb dX10_tries_2 rfl (lv_at hl 0 rfl) ?_
  refine lv_bipush (v := 24) hx hb dX10_tries_3 (by decide) ?_
  refine lv_icmp_ge (tgt := 29) hx hb dX10_tries_5 (by decide) (fun c6 => ?_) (fun c6 => ?_)
  · have dc6 : 24 ≤ u1.toInt := le_i (a := 24) (b := u1.toInt) rfl rfl c6
    have k7 : 24 ≤ u1.toInt ∧ u1.toInt ≤ 24 := ⟨Int.le_trans (Int.le_refl _) dc6, i3.2⟩
    exact ret_v hx hb hr hlocks hS hP hD dX10_tries_29 (Nat.le_of_ble_eq_true rfl) (Nat.le_of_ble_eq_true rfl) ⟨w2, i4, i5, rfl⟩
  · have dc6 : u1.toInt < 24 := nle_i (a := 24) (b := u1.toInt) rfl rfl c6
    have k8 : 0 ≤ u1.toInt ∧ u1.toInt ≤ 23 := ⟨i3.1, up_lt dc6 (Int.le_refl _) (by decide)⟩
    refine lv_aload_n hx hb dX10_tries_8 rfl (lv_at hl 1 rfl) ?_
    refine get_f (D := D) (ci := 10) (v := .ref h_before) (C := RX10) (T := TX10) (N := 67) hx hb hw inAX10 hown hK hP 0 rfl rfl 40 (by decide) (hw _ q_1301) (fun _ h9 => h9) e_before dX10_tries_9 ?_
    refine lv_iload_n hx hb dX10_tries_12 rfl (lv_at hl 0 rfl) ?_
    refine lv_aload_n hx hb dX10_tries_13 rfl (lv_at hl 1 rfl) ?_
    refine get_f (D := D) (ci := 10) (v := .ref h_s) (C := RX10) (T := TX10) (N := 67) hx hb hw inAX10 hown hK hP 0 rfl rfl 6 (by decide) (hw _ q_1267) (fun _ h9 => h9) e_s dX10_tries_14 ?_
    refine lv_bipush (v := 104) hx hb dX10_tries_17 (by decide) ?_
    refine lv_iload_n hx hb dX10_tries_19 rfl (lv_at hl 0 rfl) ?_
    refine lv_iadd hx hb dX10_tries_20 ?_
    refine lv_topi (fun v9 ev9 => ?_)
    have bv9 : v9.toInt = 104 + u1.toInt := by rw [ev9]; exact add_k rfl rfl ⟨Int.le_refl _, Int.le_refl _⟩ k8 (by decide)
    have k10 : 104 ≤ v9.toInt ∧ v9.toInt ≤ 127 := add_r bv9 ⟨Int.le_refl _, Int.le_refl _⟩ k8 (by decide)
    refine va_iald hx hb hK hP 1 0 rfl rfl (ix_k k10 (by decide) (by decide)) dX10_tries_21 ?_
    refine lv_topi (fun v11 ev11 => ?_)
    have r12 : IMP (105 ≤ v9.toInt → v9.toInt ≤ 108 → 0 ≤ v11.toInt ∧ v11.toInt ≤ 11) := IMP.mk (fun q1 q2 => by rw [ev11]; exact s_s_105.at _ q1 q2)
    have r13 : IMP (114 ≤ v9.toInt → v9.toInt ≤ 114 → 0 ≤ v11.toInt ∧ v11.toInt ≤ 5) := IMP.mk (fun q1 q2 => by rw [ev11]; exact s_s_114.at _ q1 q2)
    obtain ⟨g14, eg14⟩ : ∃ z : Nat → Int32, upd w2 u1.toNatClampNeg v11 = z := ⟨_, rfl⟩
    have r15 : SG 1 4 0 11 g14 := by rw [← eg14]; exact i4.upI (Int.le_trans (by decide) k8.1) (fun q1 q2 => ⟨Int.le_trans (by decide) (r12.h (by omega) (by omega)).1, Int.le_trans (r12.h (by omega) (by omega)).2 (by decide)⟩)
    have r16 : SG 10 10 0 5 g14 := by rw [← eg14]; exact i5.upI (Int.le_trans (by decide) k8.1) (fun q1 q2 => ⟨Int.le_trans (by decide) (r13.h (by omega) (by omega)).1, Int.le_trans (r13.h (by omega) (by omega)).2 (by decide)⟩)
    refine iast_g hx hb hK hP hD hS 2 0 rfl rfl (ix_k k8 (by decide) (by decide)) eg14 dX10_tries_22 (fun H locs hP hD hS => ?_)
    have hP : va_P D vwCl [(h0, .inr (10, vL 67 Fh)), (h_s, .inl (cI, 335, .inl f_s)), (h_before, .inl (cI, 24, .inl g14))] H := hP
    have hD : va_D A [(h0, .inr (10, vL 67 Fh)), (h_s, .inl (cI, 335, .inl f_s)), (h_before, .inl (cI, 24, .inl g14))] := hD
    obtain ⟨v17, ev17⟩ : ∃ z : Int32, z = u1 + 1 := ⟨_, rfl⟩
    have bv17 : v17.toInt = u1.toInt + 1 := by rw [ev17]; exact add_k rfl rfl k8 ⟨Int.le_refl _, Int.le_refl _⟩ (by decide)
    have k18 : 1 ≤ v17.toInt ∧ v17.toInt ≤ 24 := add_r bv17 k8 ⟨Int.le_refl _, Int.le_refl _⟩ (by decide)
    refine lv_iinc (v := v17) (lv' := [(1, .int v17), (0, .ref h0)]) hx hb dX10_tries_23 hl (k := 0) rfl (by rw [ev17]; rfl) (by decide) rfl (fun ls hl => ?_)
    refine lv_goto (tgt := 2) hx hb dX10_tries_26 (by decide) ?_
    exact ih (v17, g14) ⟨(ir_wk k18 (by decide) (by decide)), r15, r16⟩ (by show (24 - v17.toInt).toNat < (24 - u1.toInt).toNat; omega) _ _ _ hP hD hS (lv_sub hl [0, 1] rfl)
set_option maxHeartbeats 4000000 in
set_option maxRecDepth 100000 in
theorem m_X10_back (l : Launch) (D : va_G) (cI cJ cB cP cM cZ : ClassId) (h0 : Nat) (h_s : Nat) (h_before : Nat) (Fh : Nat → Value) (f_s : Nat → Int32) (f_before : Nat → Int32) (bs : Nat → Int32) (sz : Nat) (e_s : Fh 6 = .ref h_s) (e_before : Fh 40 = .ref h_before) (s_s_K0 : KW 0 f_s) (s_s_US : US bs f_s) (s_s_0 : SG 0 0 0 40 f_s) (s_s_105 : SG 105 108 0 11 f_s) (s_s_114 : SG 114 114 0 5 f_s) (s_s_130 : SG 130 133 0 11 f_s) (s_s_139 : SG 139 139 0 5 f_s) (s_s_153 : SG 153 153 0 44 f_s) (s_s_44 : SG 44 55 0 9 f_s) (s_s_5 : SG 5 5 0 12 f_s) (s_s_6 : SG 6 6 0 12 f_s) (s_s_7 : SG 7 7 0 6 f_s) (s_before_1 : SG 1 4 0 11 f_before) (s_before_10 : SG 10 10 0 5 f_before) : CV l yX10_back cX10_back 2 none { frames := 0, cells := 0, slots := 0, locals := 0 } (GG D cI cJ cB cP cM cZ) D [(h0, .inr (10, vL 67 Fh)), (h_s, .inl (cI, 335, .inl f_s)), (h_before, .inl (cI, 24, .inl f_before))] sz [.ref h0] (fun (u : va_W) => ∃ (g_s : Nat → Int32), SG 153 153 0 44 g_s ∧ SG 0 0 0 40 g_s ∧ SG 5 5 0 12 g_s ∧ SG 6 6 0 12 g_s ∧ SG 7 7 0 6 g_s ∧ SG 44 55 0 9 g_s ∧ KW 0 g_s ∧ SG 105 108 0 11 g_s ∧ SG 114 114 0 5 g_s ∧ SG 130 133 0 11 g_s ∧ SG 139 139 0 5 g_s ∧ US bs g_s ∧ u = [(h0, .inr (10, vL 67 Fh)), (h_s, .inl (cI, 335, .inl g_s)), (h_before, .inl (cI, 24, .inl f_before))]) := by
  refine CV_mk (by decide) (Nat.le_of_ble_eq_true rfl) ?_
  intro p e s m below meth c A ls E hAe hG hsz hP hD hA hS hl
  obtain ⟨hx, hb, hr, hw, hown, hlocks, hml, hnm⟩ := E
  have hK := hG.1
  have hl : lv_has ls 2 [(0, .ref h0)] := hl
  refine lv_iconst (v := 0) hx hb dX10_back_0 (by decide) ?_
  refine lv_istore_n (lv' := [(1, .int 0), (0, .ref h0)]) hx hb dX10_back_1 rfl hl (by decide) rfl (fun ls hl => ?_)
  refine mloop (α := (Int32) × (Nat → Int32)) (nL := 2) (D := D) (A := A) (H0 := s.heap) (fun a => (24 - a.1.toInt).toNat) (fun a => IR 0 24 a.1 ∧ KW 0 a.2 ∧ US bs a.2 ∧ SG 0 0 0 40 a.2 ∧ SG 105 108 0 11 a.2 ∧ SG 114 114 0 5 a.2 ∧ SG 130 133 0 11 a.2 ∧ SG 139 139 0 5 a.2 ∧ SG 153 153 0 44 a.2 ∧ SG 44 55 0 9 a.2 ∧ SG 5 5 0 12 a.2 ∧ SG 6 6 0 12 a.2 ∧ SG 7 7 0 6 a.2) (fun a => [(h0, .inr (10, vL 67 Fh)), (h_s, .inl (cI, 335, .inl a.2)), (h_before, .inl (cI, 24, .inl f_before))]) (fun a => [(1, .int a.1), (0, .ref h0)]) (fun H locs ls => W p l e ({ frames := 0, cells := 0, slots := 0, locals := 0 } : Room) s m [.ref h0].toArray below meth c H locs 0 0 (MQ below (va_Qv (fun (u : va_W) => ∃ (g_s : Nat → Int32), SG 153 153 0 44 g_s ∧ SG 0 0 0 40 g_s ∧ SG 5 5 0 12 g_s ∧ SG 6 6 0 12 g_s ∧ SG 7 7 0 6 g_s ∧ SG 44 55 0 9 g_s ∧ KW 0 g_s ∧ SG 105 108 0 11 g_s ∧ SG 114 114 0 5 g_s ∧ SG 130 133 0 11 g_s ∧ SG 139 139 0 5 g_s ∧ US bs g_s ∧ u = [(h0, .inr (10, vL 67 Fh)), (h_s, .inl (cI, 335, .inl g_s)), (h_before, .inl (cI, 24, .inl f_before))]) (PO D A) A) [.ref h0].toArray s 0 0 A) (F0 m 2 ls [])) ?_ (0, f_s) ⟨(show 0 ≤ (0 : Int32).toInt ∧ (0 : Int32).toInt ≤ 24 by decide), s_s_K0, s_s_US, s_s_0, s_s_105, s_s_114, s_s_130, s_s_139, s_s_153, s_s_44, s_s_5, s_s_6, s_s_7⟩ _ _ _ hP hD hS hl
  rintro ⟨u1, w2⟩ ⟨i3, i4, i5, i6, i7, i8, i9, i10, i11, i12, i13, i14, i15⟩ ih H locs ls hP hD hS hl
  have i3 : 0 ≤ u1.toInt ∧ u1.toInt ≤ 24 := i3
  have hP : va_P D vwCl [(h0, .inr (10, vL 67 Fh)), (h_s, .inl (cI, 335, .inl w2)), (h_before, .inl (cI, 24, .inl f_before))] H := hP
  have hD : va_D A [(h0, .inr (10, vL 67 Fh)), (h_s, .inl (cI, 335, .inl w2)), (h_before, .inl (cI, 24, .inl f_before))] := hD
  have hl : lv_has ls 2 [(1, .int u1), (0, .ref h0)] := hl
  refine lv_iload_n hx hb dX10_back_2 rfl (lv_at hl 0 rfl) ?_
  refine lv_bipush (v := 24) hx hb dX10_back_3 (by decide) ?_
  refine lv_icmp_ge (tgt := 29) hx hb dX10_back_5 (by decide) (fun c16 => ?_) (fun c16 => ?_)
  · have dc16 : 24 ≤ u1.toInt := le_i (a := 24) (b := u1.toInt) rfl rfl c16
    have k17 : 24 ≤ u1.toInt ∧ u1.toInt ≤ 24 := ⟨Int.le_trans (Int.le_refl _) dc16, i3.2⟩
    exact ret_v hx hb hr hlocks hS hP hD dX10_back_29 (Nat.le_of_ble_eq_true rfl) (Nat.le_of_ble_eq_true rfl) ⟨w2, i11, i6, i13, i14, i15, i12, i4, i7, i8, i9, i10, i5, rfl⟩
  · have dc16 : u1.toInt < 24 := nle_i (a := 24) (b := u1.toInt) rfl rfl c16
    have k18 : 0 ≤ u1.toInt ∧ u1.toInt ≤ 23 := ⟨i3.1, up_lt dc16 (Int.le_refl _) (by decide)⟩
    refine lv_aload_n hx hb dX10_back_8 rfl (lv_at hl 1 rfl) ?_
    refine get_f (D := D) (ci := 10) (v := .ref h_s) (C := RX10) (T := TX10) (N := 67) hx hb hw inAX10 hown hK hP 0 rfl rfl 6 (by decide) (hw _ q_1267) (fun _ h9 => h9) e_s dX10_back_9 ?_
    refine lv_bipush (v := 104) hx hb dX10_back_12 (by decide) ?_
    refine lv_iload_n hx hb dX10_back_14 rfl (lv_at hl 0 rfl) ?_
    refine lv_iadd hx hb dX10_back_15 ?_
    refine lv_topi (fun v19 ev19 => ?_)
    have bv19 : v19.toInt = 104 + u1.toInt := by rw [ev19]; exact add_k rfl rfl ⟨Int.le_refl _, Int.le_refl _⟩ k18 (by decide)
    have k20 : 104 ≤ v19.toInt ∧ v19.toInt ≤ 127 := add_r bv19 ⟨Int.le_refl _, Int.le_refl _⟩ k18 (by decide)
    refine lv_aload_n hx hb dX10_back_16 rfl (lv_at hl 1 rfl) ?_
    refine get_f (D := D) (ci := 10) (v := .ref h_before) (C := RX10) (T := TX10) (N := 67) hx hb hw inAX10 hown hK hP 0 rfl rfl 40 (by decide) (hw _ q_1301) (fun _ h9 => h9) e_before dX10_back_17 ?_
    refine lv_iload_n hx hb dX10_back_20 rfl (lv_at hl 0 rfl) ?_
    refine va_iald hx hb hK hP 2 0 rfl rfl (ix_k k18 (by decide) (by decide)) dX10_back_21 ?_
    refine lv_topi (fun v21 ev21 => ?_)
    have r22 : IMP (1 ≤ u1.toInt → u1.toInt ≤ 4 → 0 ≤ v21.toInt ∧ v21.toInt ≤ 11) := IMP.mk (fun q1 q2 => by rw [ev21]; exact s_before_1.at _ q1 q2)
    have r23 : IMP (10 ≤ u1.toInt → u1.toInt ≤ 10 → 0 ≤ v21.toInt ∧ v21.toInt ≤ 5) := IMP.mk (fun q1 q2 => by rw [ev21]; exact s_before_10.at _ q1 q2)
    obtain ⟨g24, eg24⟩ : ∃ z : Nat → Int32, upd w2 v19.toNatClampNeg v21 = z := ⟨_, rfl⟩
    have r25 : KW 0 g24 := by rw [← eg24]; exact i4.up (Int.le_trans (by decide) k20.1) (Or.inl (lt_dec k20.2 (by decide)))
    have r26 : US bs g24 := by rw [← eg24]; exact US.up i5 (Int.le_trans (by decide) k20.1)
    have r27 : SG 0 0 0 40 g24 := by rw [← eg24]; exact i6.up (Int.le_trans (by decide) k20.1) (Or.inr (Or.inl (dec_lt k20.1 (by decide))))
    have r28 : SG 105 108 0 11 g24 := by rw [← eg24]; exact i7.upI (Int.le_trans (by decide) k20.1) (fun q1 q2 => ⟨Int.le_trans (by decide) (r22.h (by omega) (by omega)).1, Int.le_trans (r22.h (by omega) (by omega)).2 (by decide)⟩)
    have r29 : SG 114 114 0 5 g24 := by rw [← eg24]; exact i8.upI (Int.le_trans (by decide) k20.1) (fun q1 q2 => ⟨Int.le_trans (by decide) (r23.h (by omega) (by omega)).1, Int.le_trans (r23.h (by omega) (by omega)).2 (by decide)⟩)
    have r30 : SG 130 133 0 11 g24 := by rw [← eg24]; exact i9.up (Int.le_trans (by decide) k20.1) (Or.inl (lt_dec k20.2 (by decide)))
    have r31 : SG 139 139 0 5 g24 := by rw [← eg24]; exact i10.up (Int.le_trans (by decide) k20.1) (Or.inl (lt_dec k20.2 (by decide)))
    have r32 : SG 153 153 0 44 g24 := by rw [← eg24]; exact i11.up (Int.le_trans (by decide) k20.1) (Or.inl (lt_dec k20.2 (by decide)))
    have r33 : SG 44 55 0 9 g24 := by rw [← eg24]; exact i12.up (Int.le_trans (by decide) k20.1) (Or.inr (Or.inl (dec_lt k20.1 (by decide))))
    have r34 : SG 5 5 0 12 g24 := by rw [← eg24]; exact i13.up (Int.le_trans (by decide) k20.1) (Or.inr (Or.inl (dec_lt k20.1 (by decide))))
    have r35 : SG 6 6 0 12 g24 := by rw [← eg24]; exact i14.up (Int.le_trans (by decide) k20.1) (Or.inr (Or.inl (dec_lt k20.1 (by decide))))
    have r36 : SG 7 7 0 6 g24 := by rw [← eg24]; exact i15.up (Int.le_trans (by decide) k20.1) (Or.inr (Or.inl (dec_lt k20.1 (by decide))))
    refine iast_g hx hb hK hP hD hS 1 0 rfl rfl (ix_k k20 (by decide) (by decide)) eg24 dX10_back_22 (fun H locs hP hD hS => ?_)
    have hP : va_P D vwCl [(h0, .inr (10, vL 67 Fh)), (h_s, .inl (cI, 335, .inl g24)), (h_before, .inl (cI, 24, .inl f_before))] H := hP
    have hD : va_D A [(h0, .inr (10, vL 67 Fh)), (h_s, .inl (cI, 335, .inl g24)), (h_before, .inl (cI, 24, .inl f_before))] := hD
    obtain ⟨v37, ev37⟩ : ∃ z : Int32, z = u1 + 1 := ⟨_, rfl⟩
    have bv37 : v37.toInt = u1.toInt + 1 := by rw [ev37]; exact add_k rfl rfl k18 ⟨Int.le_refl _, Int.le_refl _⟩ (by decide)
    have k38 : 1 ≤ v37.toInt ∧ v37.toInt ≤ 24 := add_r bv37 k18 ⟨Int.le_refl _, Int.le_refl _⟩ (by decide)
    refine lv_iinc (v := v37) (lv' := [(1, .int v37), (0, .ref h0)]) hx hb dX10_back_23 hl (k := 0) rfl (by rw [ev37]; rfl) (by decide) rfl (fun ls hl => ?_)
    refine lv_goto (tgt := 2) hx hb dX10_back_26 (by decide) ?_
    exact ih (v37, g24) ⟨(ir_wk k38 (by decide) (by decide)), r25, r26, r27, r28, r29, r30, r31, r32, r33, r34, r35, r36⟩ (by show (24 - v37.toInt).toNat < (24 - u1.toInt).toNat; omega) _ _ _ hP hD hS (lv_sub hl [0, 1] rfl)
set_option maxHeartbeats 4000000 in
set_option maxRecDepth 100000 in
theorem m_X10_becomes (l : Launch) (D : va_G) (cI cJ cB cP cM cZ : ClassId) (h0 : Nat) (h_s : Nat) (h_undone : Nat) (Fh : Nat → Value) (x_undoMany : Int32) (f_s : Nat → Int32) (f_undone : Nat → Int32) (p0 : Int32) (p1 : Int32) (bs : Nat → Int32) (sz : Nat) (e_s : Fh 6 = .ref h_s) (e_undone : Fh 39 = .ref h_undone) (e_undoMany : Fh 41 = .int x_undoMany) (i_x_undoMany : IR 0 8 x_undoMany) (s_s_K0 : KW 0 f_s) (s_s_US : US bs f_s) (s_s_0 : SG 0 0 0 40 f_s) (s_s_105 : SG 105 108 0 11 f_s) (s_s_114 : SG 114 114 0 5 f_s) (s_s_130 : SG 130 133 0 11 f_s) (s_s_139 : SG 139 139 0 5 f_s) (s_s_153 : SG 153 153 0 44 f_s) (s_s_44 : SG 44 55 0 9 f_s) (s_s_5 : SG 5 5 0 12 f_s) (s_s_6 : SG 6 6 0 12 f_s) (s_s_7 : SG 7 7 0 6 f_s) (s_undone_1 : SG 1 4 0 11 f_undone) (s_undone_10 : SG 10 10 0 5 f_undone) (s_undone_106 : SG 106 106 0 5 f_undone) (s_undone_121 : SG 121 124 0 11 f_undone) (s_undone_130 : SG 130 130 0 5 f_undone) (s_undone_145 : SG 145 148 0 11 f_undone) (s_undone_154 : SG 154 154 0 5 f_undone) (s_undone_169 : SG 169 172 0 11 f_undone) (s_undone_178 : SG 178 178 0 5 f_undone) (s_undone_25 : SG 25 28 0 11 f_undone) (s_undone_34 : SG 34 34 0 5 f_undone) (s_undone_49 : SG 49 52 0 11 f_undone) (s_undone_58 : SG 58 58 0 5 f_undone) (s_undone_73 : SG 73 76 0 11 f_undone) (s_undone_82 : SG 82 82 0 5 f_undone) (s_undone_97 : SG 97 100 0 11 f_undone) (i_p0 : IR 0 334 p0) (z_0 : p0.toInt = 113 ∨ p0.toInt = 115 ∨ (109 ≤ p0.toInt ∧ p0.toInt ≤ 112) ∨ (116 ≤ p0.toInt ∧ p0.toInt ≤ 127) ∨ (p0.toInt = 114 ∧ 0 ≤ p1.toInt ∧ p1.toInt ≤ 5)) : CI l yX10_becomes cX10_becomes 3 (some .boolean) { frames := 1, cells := 0, slots := 0, locals := 21 } (GG D cI cJ cB cP cM cZ) D [(h0, .inr (10, vL 67 Fh)), (h_s, .inl (cI, 335, .inl f_s)), (h_undone, .inl (cI, 192, .inl f_undone))] sz [.ref h0, .int p0, .int p1] (fun (r : Int32) (u : va_W) => ∃ (Gh : Nat → Value) (y_undoMany : Int32) (g_s : Nat → Int32) (g_undone : Nat → Int32), SAME [41] Fh Gh ∧ Gh 41 = .int y_undoMany ∧ IR 0 8 y_undoMany ∧ SG 153 153 0 44 g_s ∧ SG 0 0 0 40 g_s ∧ SG 5 5 0 12 g_s ∧ SG 6 6 0 12 g_s ∧ SG 7 7 0 6 g_s ∧ SG 44 55 0 9 g_s ∧ KW 0 g_s ∧ SG 105 108 0 11 g_s ∧ SG 114 114 0 5 g_s ∧ SG 130 133 0 11 g_s ∧ SG 139 139 0 5 g_s ∧ US bs g_s ∧ SG 1 4 0 11 g_undone ∧ SG 10 10 0 5 g_undone ∧ SG 25 28 0 11 g_undone ∧ SG 34 34 0 5 g_undone ∧ SG 49 52 0 11 g_undone ∧ SG 58 58 0 5 g_undone ∧ SG 73 76 0 11 g_undone ∧ SG 82 82 0 5 g_undone ∧ SG 97 100 0 11 g_undone ∧ SG 106 106 0 5 g_undone ∧ SG 121 124 0 11 g_undone ∧ SG 130 130 0 5 g_undone ∧ SG 145 148 0 11 g_undone ∧ SG 154 154 0 5 g_undone ∧ SG 169 172 0 11 g_undone ∧ SG 178 178 0 5 g_undone ∧ IR 0 1 r ∧ u = [(h0, .inr (10, vL 67 Gh)), (h_s, .inl (cI, 335, .inl g_s)), (h_undone, .inl (cI, 192, .inl g_undone))]) := by
  refine CI_mk (by decide) (Nat.le_of_ble_eq_true rfl) ?_
  intro p e s m below meth c A ls E hAe hG hsz hP hD hA hS hl
  obtain ⟨hx, hb, hr, hw, hown, hlocks, hml, hnm⟩ := E
  have hK := hG.1
  have i_x_undoMany : 0 ≤ x_undoMany.toInt ∧ x_undoMany.toInt ≤ 8 := i_x_undoMany
  have i_p0 : 0 ≤ p0.toInt ∧ p0.toInt ≤ 334 := i_p0
  have hl : lv_has ls 3 [(0, .ref h0), (1, .int p0), (2, .int p1)] := hl
  refine lv_aload_n hx hb dX10_becomes_0 rfl (lv_at hl 0 rfl) ?_
  refine get_f (D := D) (ci := 10) (v := .ref h_s) (C := RX10) (T := TX10) (N := 67) hx hb hw inAX10 hown hK hP 0 rfl rfl 6 (by decide) (hw _ q_1267) (fun _ h9 => h9) e_s dX10_becomes_1 ?_
  refine lv_iload_n hx hb dX10_becomes_4 rfl (lv_at hl 1 rfl) ?_
  refine va_iald hx hb hK hP 1 0 rfl rfl (ix_k i_p0 (by decide) (by decide)) dX10_becomes_5 ?_
  refine lv_topi (fun v1 ev1 => ?_)
  have r2 : IMP (0 ≤ p0.toInt → p0.toInt ≤ 0 → 0 ≤ v1.toInt ∧ v1.toInt ≤ 40) := IMP.mk (fun q1 q2 => by rw [ev1]; exact s_s_0.at _ q1 q2)
  have r3 : IMP (105 ≤ p0.toInt → p0.toInt ≤ 108 → 0 ≤ v1.toInt ∧ v1.toInt ≤ 11) := IMP.mk (fun q1 q2 => by rw [ev1]; exact s_s_105.at _ q1 q2)
  have r4 : IMP (114 ≤ p0.toInt → p0.toInt ≤ 114 → 0 ≤ v1.toInt ∧ v1.toInt ≤ 5) := IMP.mk (fun q1 q2 => by rw [ev1]; exact s_s_114.at _ q1 q2)
  have r5 : IMP (130 ≤ p0.toInt → p0.toInt ≤ 133 → 0 ≤ v1.toInt ∧ v1.toInt ≤ 11) := IMP.mk (fun q1 q2 => by rw [ev1]; exact s_s_130.at _ q1 q2)
  have r6 : IMP (139 ≤ p0.toInt → p0.toInt ≤ 139 → 0 ≤ v1.toInt ∧ v1.toInt ≤ 5) := IMP.mk (fun q1 q2 => by rw [ev1]; exact s_s_139.at _ q1 q2)
  have r7 : IMP (153 ≤ p0.toInt → p0.toInt ≤ 153 → 0 ≤ v1.toInt ∧ v1.toInt ≤ 44) := IMP.mk (fun q1 q2 => by rw [ev1]; exact s_s_153.at _ q1 q2)
  have r8 : IMP (44 ≤ p0.toInt → p0.toInt ≤ 55 → 0 ≤ v1.toInt ∧ v1.toInt ≤ 9) := IMP.mk (fun q1 q2 => by rw [ev1]; exact s_s_44.at _ q1 q2)
  have r9 : IMP (5 ≤ p0.toInt → p0.toInt ≤ 5 → 0 ≤ v1.toInt ∧ v1.toInt ≤ 12) := IMP.mk (fun q1 q2 => by rw [ev1]; exact s_s_5.at _ q1 q2)
  have r10 : IMP (6 ≤ p0.toInt → p0.toInt ≤ 6 → 0 ≤ v1.toInt ∧ v1.toInt ≤ 12) := IMP.mk (fun q1 q2 => by rw [ev1]; exact s_s_6.at _ q1 q2)
  have r11 : IMP (7 ≤ p0.toInt → p0.toInt ≤ 7 → 0 ≤ v1.toInt ∧ v1.toInt ≤ 6) := IMP.mk (fun q1 q2 => by rw [ev1]; exact s_s_7.at _ q1 q2)
  refine lv_iload_n hx hb dX10_becomes_6 rfl (lv_at hl 2 rfl) ?_
  refine lv_icmp_ne (tgt := 12) hx hb dX10_becomes_7 (by decide) (fun c12 => ?_) (fun c12 => ?_)
  · have dc12 : v1.toInt ≠ p1.toInt := ne_i (a := v1.toInt) (b := p1.toInt) rfl rfl c12
    refine lv_aload_n hx hb dX10_becomes_12 rfl (lv_at hl 0 rfl) ?_
    refine call_Vv (wr := []) (As := []) (rest := []) hx hb hml hown hw (m_X10_keeps l D cI cJ cB cP cM cZ h0 h_s h_undone Fh x_undoMany f_s f_undone bs _ e_s e_undone e_undoMany i_x_undoMany s_s_K0 s_s_US s_s_0 s_s_105 s_s_114 s_s_130 s_s_139 s_s_153 s_s_44 s_s_5 s_s_6 s_s_7 s_undone_1 s_undone_10 s_undone_106 s_undone_121 s_undone_130 s_undone_145 s_undone_154 s_undone_169 s_undone_178 s_undone_25 s_undone_34 s_undone_49 s_undone_58 s_undone_73 s_undone_82 s_undone_97) wV_X10_371_X10_keeps dX10_becomes_13 hK hP hD hS hA [0, 1, 2] [] rfl rfl (by decide) (by decide) (by decide) 0 10 rfl rfl GG.fb hG.at hl.1 rfl (Nat.le_of_ble_eq_true rfl) ⟨(Nat.le_of_ble_eq_true rfl), (Nat.le_of_ble_eq_true rfl)⟩ ⟨(Nat.le_of_ble_eq_true rfl), (Nat.le_of_ble_eq_true rfl)⟩ (fun u H locs hp hP hD hS => ?_)
    obtain ⟨F14, y15, g16, t17, t18, t19, t20, t21, t22, t23, t24, t25, t26, t27, t28, t29, t30, t31, t32, t33, t34, t35, rfl⟩ := hp
    have hP : va_P D vwCl [(h0, .inr (10, vL 67 F14)), (h_s, .inl (cI, 335, .inl f_s)), (h_undone, .inl (cI, 192, .inl g16))] H := hP
    have hD : va_D A [(h0, .inr (10, vL 67 F14)), (h_s, .inl (cI, 335, .inl f_s)), (h_undone, .inl (cI, 192, .inl g16))] := hD
    refine W.widen (k := 0) (n := 0) (Nat.le_of_ble_eq_true rfl) (Nat.le_of_ble_eq_true rfl) ?_
    refine lv_aload_n hx hb dX10_becomes_16 rfl (lv_at hl 0 rfl) ?_
    have n37 : F14 6 = .ref h_s := (SAME.at t17 (by decide) e_s)
    refine get_f (D := D) (ci := 10) (v := .ref h_s) (C := RX10) (T := TX10) (N := 67) hx hb hw inAX10 hown hK hP 0 rfl rfl 6 (by decide) (hw _ q_1267) (fun _ h9 => h9) n37 dX10_becomes_17 ?_
    refine lv_iload_n hx hb dX10_becomes_20 rfl (lv_at hl 1 rfl) ?_
    refine lv_iload_n hx hb dX10_becomes_21 rfl (lv_at hl 2 rfl) ?_
    obtain ⟨g38, eg38⟩ : ∃ z : Nat → Int32, upd f_s p0.toNatClampNeg p1 = z := ⟨_, rfl⟩
    have r39 : KW 0 g38 := by rw [← eg38]; exact s_s_K0.up (by omega) (by omega)
    have r40 : US bs g38 := by rw [← eg38]; exact US.up s_s_US (by omega)
    have r41 : SG 0 0 0 40 g38 := by rw [← eg38]; exact s_s_0.up (Int.le_trans (by decide) i_p0.1) (by omega)
    have r42 : SG 105 108 0 11 g38 := by rw [← eg38]; exact s_s_105.up (Int.le_trans (by decide) i_p0.1) (by omega)
    have r43 : SG 114 114 0 5 g38 := by rw [← eg38]; exact s_s_114.up (Int.le_trans (by decide) i_p0.1) (by omega)
    have r44 : SG 130 133 0 11 g38 := by rw [← eg38]; exact s_s_130.up (Int.le_trans (by decide) i_p0.1) (by omega)
    have r45 : SG 139 139 0 5 g38 := by rw [← eg38]; exact s_s_139.up (Int.le_trans (by decide) i_p0.1) (by omega)
    have r46 : SG 153 153 0 44 g38 := by rw [← eg38]; exact s_s_153.up (Int.le_trans (by decide) i_p0.1) (by omega)
    have r47 : SG 44 55 0 9 g38 := by rw [← eg38]; exact s_s_44.up (Int.le_trans (by decide) i_p0.1) (by omega)
    have r48 : SG 5 5 0 12 g38 := by rw [← eg38]; exact s_s_5.up (Int.le_trans (by decide) i_p0.1) (by omega)
    have r49 : SG 6 6 0 12 g38 := by rw [← eg38]; exact s_s_6.up (Int.le_trans (by decide) i_p0.1) (by omega)
    have r50 : SG 7 7 0 6 g38 := by rw [← eg38]; exact s_s_7.up (Int.le_trans (by decide) i_p0.1) (by omega)
    refine iast_g hx hb hK hP hD hS 1 0 rfl rfl (ix_k i_p0 (by decide) (by decide)) eg38 dX10_becomes_22 (fun H locs hP hD hS => ?_)
    have hP : va_P D vwCl [(h0, .inr (10, vL 67 F14)), (h_s, .inl (cI, 335, .inl g38)), (h_undone, .inl (cI, 192, .inl g16))] H := hP
    have hD : va_D A [(h0, .inr (10, vL 67 F14)), (h_s, .inl (cI, 335, .inl g38)), (h_undone, .inl (cI, 192, .inl g16))] := hD
    refine lv_iconst (v := 1) hx hb dX10_becomes_23 (by decide) ?_
    exact ret_i (v := 1) hx hb hr hlocks hS hP hD dX10_becomes_24 rfl (Nat.le_of_ble_eq_true rfl) (Nat.le_of_ble_eq_true rfl) ⟨F14, y15, g38, g16, (SAME.tr SAME.rf t17 (by decide)), t18, (ir_wk t19 (by decide) (by decide)), r46, r41, r48, r49, r50, r47, r39, r42, r43, r44, r45, r40, t20, t21, t22, t23, t24, t25, t26, t27, t28, t29, t30, t31, t32, t33, t34, t35, (show 0 ≤ (1 : Int32).toInt ∧ (1 : Int32).toInt ≤ 1 by decide), rfl⟩
  · have dc12 : v1.toInt = p1.toInt := eq_i (a := v1.toInt) (b := p1.toInt) rfl rfl c12
    refine lv_iconst (v := 0) hx hb dX10_becomes_10 (by decide) ?_
    exact ret_i (v := 0) hx hb hr hlocks hS hP hD dX10_becomes_11 rfl (Nat.le_of_ble_eq_true rfl) (Nat.le_of_ble_eq_true rfl) ⟨Fh, x_undoMany, f_s, f_undone, SAME.rf, e_undoMany, i_x_undoMany, s_s_153, s_s_0, s_s_5, s_s_6, s_s_7, s_s_44, s_s_K0, s_s_105, s_s_114, s_s_130, s_s_139, s_s_US, s_undone_1, s_undone_10, s_undone_25, s_undone_34, s_undone_49, s_undone_58, s_undone_73, s_undone_82, s_undone_97, s_undone_106, s_undone_121, s_undone_130, s_undone_145, s_undone_154, s_undone_169, s_undone_178, (show 0 ≤ (0 : Int32).toInt ∧ (0 : Int32).toInt ≤ 1 by decide), rfl⟩
set_option maxHeartbeats 4000000 in
set_option maxRecDepth 100000 in
theorem m_X10_jump (l : Launch) (D : va_G) (cI cJ cB cP cM cZ : ClassId) (h0 : Nat) (h_s : Nat) (h_undone : Nat) (Fh : Nat → Value) (x_undoMany : Int32) (f_s : Nat → Int32) (f_undone : Nat → Int32) (p0 : Int32) (p1 : Int32) (bs : Nat → Int32) (sz : Nat) (e_s : Fh 6 = .ref h_s) (e_undone : Fh 39 = .ref h_undone) (e_undoMany : Fh 41 = .int x_undoMany) (i_x_undoMany : IR 0 8 x_undoMany) (s_s_K0 : KW 0 f_s) (s_s_US : US bs f_s) (s_s_0 : SG 0 0 0 40 f_s) (s_s_105 : SG 105 108 0 11 f_s) (s_s_114 : SG 114 114 0 5 f_s) (s_s_130 : SG 130 133 0 11 f_s) (s_s_139 : SG 139 139 0 5 f_s) (s_s_153 : SG 153 153 0 44 f_s) (s_s_44 : SG 44 55 0 9 f_s) (s_s_5 : SG 5 5 0 12 f_s) (s_s_6 : SG 6 6 0 12 f_s) (s_s_7 : SG 7 7 0 6 f_s) (s_undone_1 : SG 1 4 0 11 f_undone) (s_undone_10 : SG 10 10 0 5 f_undone) (s_undone_106 : SG 106 106 0 5 f_undone) (s_undone_121 : SG 121 124 0 11 f_undone) (s_undone_130 : SG 130 130 0 5 f_undone) (s_undone_145 : SG 145 148 0 11 f_undone) (s_undone_154 : SG 154 154 0 5 f_undone) (s_undone_169 : SG 169 172 0 11 f_undone) (s_undone_178 : SG 178 178 0 5 f_undone) (s_undone_25 : SG 25 28 0 11 f_undone) (s_undone_34 : SG 34 34 0 5 f_undone) (s_undone_49 : SG 49 52 0 11 f_undone) (s_undone_58 : SG 58 58 0 5 f_undone) (s_undone_73 : SG 73 76 0 11 f_undone) (s_undone_82 : SG 82 82 0 5 f_undone) (s_undone_97 : SG 97 100 0 11 f_undone) : CI l yX10_jump cX10_jump 3 (some .boolean) { frames := 2, cells := 0, slots := 0, locals := 43 } (GG D cI cJ cB cP cM cZ) D [(h0, .inr (10, vL 67 Fh)), (h_s, .inl (cI, 335, .inl f_s)), (h_undone, .inl (cI, 192, .inl f_undone))] sz [.ref h0, .int p0, .int p1] (fun (r : Int32) (u : va_W) => ∃ (Gh : Nat → Value) (y_undoMany : Int32) (g_s : Nat → Int32) (g_undone : Nat → Int32), SAME [0, 41] Fh Gh ∧ Gh 0 = .int 0 ∧ Gh 41 = .int y_undoMany ∧ IR 0 8 y_undoMany ∧ SG 153 153 0 44 g_s ∧ SG 0 0 0 40 g_s ∧ SG 5 5 0 12 g_s ∧ SG 6 6 0 12 g_s ∧ SG 7 7 0 6 g_s ∧ SG 44 55 0 9 g_s ∧ KW 0 g_s ∧ SG 105 108 0 11 g_s ∧ SG 114 114 0 5 g_s ∧ SG 130 133 0 11 g_s ∧ SG 139 139 0 5 g_s ∧ US bs g_s ∧ SG 1 4 0 11 g_undone ∧ SG 10 10 0 5 g_undone ∧ SG 25 28 0 11 g_undone ∧ SG 34 34 0 5 g_undone ∧ SG 49 52 0 11 g_undone ∧ SG 58 58 0 5 g_undone ∧ SG 73 76 0 11 g_undone ∧ SG 82 82 0 5 g_undone ∧ SG 97 100 0 11 g_undone ∧ SG 106 106 0 5 g_undone ∧ SG 121 124 0 11 g_undone ∧ SG 130 130 0 5 g_undone ∧ SG 145 148 0 11 g_undone ∧ SG 154 154 0 5 g_undone ∧ SG 169 172 0 11 g_undone ∧ SG 178 178 0 5 g_undone ∧ IR 0 1 r ∧ u = [(h0, .inr (10, vL 67 Gh)), (h_s, .inl (cI, 335, .inl g_s)), (h_undone, .inl (cI, 192, .inl g_undone))]) := by
  refine CI_mk (by decide) (Nat.le_of_ble_eq_true rfl) ?_
  intro p e s m below meth c A ls E hAe hG hsz hP hD hA hS hl
  obtain ⟨hx, hb, hr, hw, hown, hlocks, hml, hnm⟩ := E
  have hK := hG.1
  have i_x_undoMany : 0 ≤ x_undoMany.toInt ∧ x_undoMany.toInt ≤ 8 := i_x_undoMany
  have hl : lv_has ls 3 [(0, .ref h0), (1, .int p0), (2, .int p1)] := hl
  refine lv_aload_n hx hb dX10_jump_0 rfl (lv_at hl 0 rfl) ?_
  refine lv_iconst (v := 0) hx hb dX10_jump_1 (by decide) ?_
  refine put_f (D := D) (ci := 10) (v := .int 0) (ty := .int) (C := RX10) (T := TX10) (N := 67) hx hb hw inAX10 tyX10 tyX10_ok nmX10 hown hK hP hD hS 0 rfl rfl 0 (by decide) (hw _ q_1261) (fun _ h9 => h9) rfl (by decide +kernel) rfl rfl dX10_jump_2 (fun H locs F1 eF1 hP hD hS => ?_)
  have hP : va_P D vwCl [(h0, .inr (10, vL 67 F1)), (h_s, .inl (cI, 335, .inl f_s)), (h_undone, .inl (cI, 192, .inl f_undone))] H := hP
  have hD : va_D A [(h0, .inr (10, vL 67 F1)), (h_s, .inl (cI, 335, .inl f_s)), (h_undone, .inl (cI, 192, .inl f_undone))] := hD
  refine lv_aload_n hx hb dX10_jump_5 rfl (lv_at hl 0 rfl) ?_
  have n2 : F1 6 = .ref h_s := (get_ne eF1 (by decide) e_s)
  refine call_Vi (wr := [(h_undone, .inl (cI, 192, .inl f_undone))]) (As := []) (rest := []) hx hb hml hown hw (m_X10_hasCrew l D cI cJ cB cP cM cZ h0 h_s F1 f_s bs _ n2 s_s_K0 s_s_US s_s_0 s_s_105 s_s_114 s_s_130 s_s_139 s_s_153 s_s_44 s_s_5 s_s_6 s_s_7) wV_X10_281_X10_hasCrew dX10_jump_6 hK hP hD hS hA [0, 1] [2] rfl rfl (by decide) (by decide) (by decide) 0 10 rfl rfl GG.fb hG.at hl.1 rfl (Nat.le_of_ble_eq_true rfl) ⟨(Nat.le_of_ble_eq_true rfl), (Nat.le_of_ble_eq_true rfl)⟩ ⟨(Nat.le_of_ble_eq_true rfl), (Nat.le_of_ble_eq_true rfl)⟩ (fun r3 u H locs hp hP hD hS => ?_)
  rcases hp with ⟨rfl, rfl⟩ | ⟨rfl, rfl⟩
  · have hP : va_P D vwCl [(h_undone, .inl (cI, 192, .inl f_undone)), (h0, .inr (10, vL 67 F1)), (h_s, .inl (cI, 335, .inl f_s))] H := hP
    have hD : va_D A [(h_undone, .inl (cI, 192, .inl f_undone)), (h0, .inr (10, vL 67 F1)), (h_s, .inl (cI, 335, .inl f_s))] := hD
    refine W.widen (k := 0) (n := 0) (Nat.le_of_ble_eq_true rfl) (Nat.le_of_ble_eq_true rfl) ?_
    refine lv_if_eq (tgt := 53) hx hb dX10_jump_9 (by decide) (fun _ => ?_) (fun g => absurd (by decide) g)
    refine lv_iconst (v := 0) hx hb dX10_jump_53 (by decide) ?_
    exact ret_i (v := 0) hx hb hr hlocks hS (hP.sub (ws' := [(h0, .inr (10, vL 67 F1)), (h_s, .inl (cI, 335, .inl f_s)), (h_undone, .inl (cI, 192, .inl f_undone))]) [1, 2, 0] rfl) (hD.sub (ws' := [(h0, .inr (10, vL 67 F1)), (h_s, .inl (cI, 335, .inl f_s)), (h_undone, .inl (cI, 192, .inl f_undone))]) [1, 2, 0] (by decide) rfl) dX10_jump_54 rfl (Nat.le_of_ble_eq_true rfl) (Nat.le_of_ble_eq_true rfl) ⟨F1, x_undoMany, f_s, f_undone, (SAME.up eF1 SAME.rf (by decide)), (get_eq eF1), (get_ne eF1 (by decide) e_undoMany), i_x_undoMany, s_s_153, s_s_0, s_s_5, s_s_6, s_s_7, s_s_44, s_s_K0, s_s_105, s_s_114, s_s_130, s_s_139, s_s_US, s_undone_1, s_undone_10, s_undone_25, s_undone_34, s_undone_49, s_undone_58, s_undone_73, s_undone_82, s_undone_97, s_undone_106, s_undone_121, s_undone_130, s_undone_145, s_undone_154, s_undone_169, s_undone_178, (show 0 ≤ (0 : Int32).toInt ∧ (0 : Int32).toInt ≤ 1 by decide), rfl⟩
  · have hP : va_P D vwCl [(h_undone, .inl (cI, 192, .inl f_undone)), (h0, .inr (10, vL 67 F1)), (h_s, .inl (cI, 335, .inl f_s))] H := hP
    have hD : va_D A [(h_undone, .inl (cI, 192, .inl f_undone)), (h0, .inr (10, vL 67 F1)), (h_s, .inl (cI, 335, .inl f_s))] := hD
    refine W.widen (k := 0) (n := 0) (Nat.le_of_ble_eq_true rfl) (Nat.le_of_ble_eq_true rfl) ?_
    refine lv_if_eq (tgt := 53) hx hb dX10_jump_9 (by decide) (fun g => absurd g (by decide)) (fun _ => ?_)
    refine lv_iload_n hx hb dX10_jump_12 rfl (lv_at hl 1 rfl) ?_
    refine lv_iconst (v := 0) hx hb dX10_jump_13 (by decide) ?_
    refine lv_iconst (v := 3) hx hb dX10_jump_14 (by decide) ?_
    refine call_Si (wr := [(h_undone, .inl (cI, 192, .inl f_undone)), (h0, .inr (10, vL 67 F1)), (h_s, .inl (cI, 335, .inl f_s))]) (As := [.int p0, .int 0, .int 3]) (rest := []) hx hb hml hown hw (m_X10_isIn l D cI cJ cB cP cM cZ p0 0 3 _ ) wS_X10_211_X10_isIn dX10_jump_15 hP hD hS hA [] [0, 1, 2] rfl rfl (by decide) (by decide) (by decide) GG.fb hG.at hl.1 rfl (Nat.le_of_ble_eq_true rfl) ⟨(Nat.le_of_ble_eq_true rfl), (Nat.le_of_ble_eq_true rfl)⟩ ⟨(Nat.le_of_ble_eq_true rfl), (Nat.le_of_ble_eq_true rfl)⟩ (fun r5 u H locs hp hP hD hS => ?_)
    have zl0 : (0 : Int32).toInt = 0 := by decide
    have zl3 : (3 : Int32).toInt = 3 := by decide
    rcases hp with ⟨t6, rfl, rfl⟩ | ⟨t7, t8, rfl, rfl⟩ | ⟨t9, t10, rfl, rfl⟩
    · have hP : va_P D vwCl [(h_undone, .inl (cI, 192, .inl f_undone)), (h0, .inr (10, vL 67 F1)), (h_s, .inl (cI, 335, .inl f_s))] H := hP
      have hD : va_D A [(h_undone, .inl (cI, 192, .inl f_undone)), (h0, .inr (10, vL 67 F1)), (h_s, .inl (cI, 335, .inl f_s))] := hD
      refine W.widen (k := 0) (n := 0) (Nat.le_of_ble_eq_true rfl) (Nat.le_of_ble_eq_true rfl) ?_
      have k12 : (-2147483648) ≤ p0.toInt ∧ p0.toInt ≤ (-1) := ⟨(ir_any _).1, up_lt t6 (Int.le_refl _) (by decide)⟩
      refine lv_if_eq (tgt := 53) hx hb dX10_jump_18 (by decide) (fun _ => ?_) (fun g => absurd (by decide) g)
      refine lv_iconst (v := 0) hx hb dX10_jump_53 (by decide) ?_
      exact ret_i (v := 0) hx hb hr hlocks hS (hP.sub (ws' := [(h0, .inr (10, vL 67 F1)), (h_s, .inl (cI, 335, .inl f_s)), (h_undone, .inl (cI, 192, .inl f_undone))]) [1, 2, 0] rfl) (hD.sub (ws' := [(h0, .inr (10, vL 67 F1)), (h_s, .inl (cI, 335, .inl f_s)), (h_undone, .inl (cI, 192, .inl f_undone))]) [1, 2, 0] (by decide) rfl) dX10_jump_54 rfl (Nat.le_of_ble_eq_true rfl) (Nat.le_of_ble_eq_true rfl) ⟨F1, x_undoMany, f_s, f_undone, (SAME.up eF1 SAME.rf (by decide)), (get_eq eF1), (get_ne eF1 (by decide) e_undoMany), i_x_undoMany, s_s_153, s_s_0, s_s_5, s_s_6, s_s_7, s_s_44, s_s_K0, s_s_105, s_s_114, s_s_130, s_s_139, s_s_US, s_undone_1, s_undone_10, s_undone_25, s_undone_34, s_undone_49, s_undone_58, s_undone_73, s_undone_82, s_undone_97, s_undone_106, s_undone_121, s_undone_130, s_undone_145, s_undone_154, s_undone_169, s_undone_178, (show 0 ≤ (0 : Int32).toInt ∧ (0 : Int32).toInt ≤ 1 by decide), rfl⟩
    · have hP : va_P D vwCl [(h_undone, .inl (cI, 192, .inl f_undone)), (h0, .inr (10, vL 67 F1)), (h_s, .inl (cI, 335, .inl f_s))] H := hP
      have hD : va_D A [(h_undone, .inl (cI, 192, .inl f_undone)), (h0, .inr (10, vL 67 F1)), (h_s, .inl (cI, 335, .inl f_s))] := hD
      refine W.widen (k := 0) (n := 0) (Nat.le_of_ble_eq_true rfl) (Nat.le_of_ble_eq_true rfl) ?_
      have k13 : 0 ≤ p0.toInt ∧ p0.toInt ≤ 2147483647 := ⟨Int.le_trans (Int.le_refl _) t7, (ir_any _).2⟩
      have k14 : 4 ≤ p0.toInt ∧ p0.toInt ≤ 2147483647 := ⟨lo_lt t8 (Int.le_refl _) (by decide), k13.2⟩
      refine lv_if_eq (tgt := 53) hx hb dX10_jump_18 (by decide) (fun _ => ?_) (fun g => absurd (by decide) g)
      refine lv_iconst (v := 0) hx hb dX10_jump_53 (by decide) ?_
      exact ret_i (v := 0) hx hb hr hlocks hS (hP.sub (ws' := [(h0, .inr (10, vL 67 F1)), (h_s, .inl (cI, 335, .inl f_s)), (h_undone, .inl (cI, 192, .inl f_undone))]) [1, 2, 0] rfl) (hD.sub (ws' := [(h0, .inr (10, vL 67 F1)), (h_s, .inl (cI, 335, .inl f_s)), (h_undone, .inl (cI, 192, .inl f_undone))]) [1, 2, 0] (by decide) rfl) dX10_jump_54 rfl (Nat.le_of_ble_eq_true rfl) (Nat.le_of_ble_eq_true rfl) ⟨F1, x_undoMany, f_s, f_undone, (SAME.up eF1 SAME.rf (by decide)), (get_eq eF1), (get_ne eF1 (by decide) e_undoMany), i_x_undoMany, s_s_153, s_s_0, s_s_5, s_s_6, s_s_7, s_s_44, s_s_K0, s_s_105, s_s_114, s_s_130, s_s_139, s_s_US, s_undone_1, s_undone_10, s_undone_25, s_undone_34, s_undone_49, s_undone_58, s_undone_73, s_undone_82, s_undone_97, s_undone_106, s_undone_121, s_undone_130, s_undone_145, s_undone_154, s_undone_169, s_undone_178, (show 0 ≤ (0 : Int32).toInt ∧ (0 : Int32).toInt ≤ 1 by decide), rfl⟩
    · have hP : va_P D vwCl [(h_undone, .inl (cI, 192, .inl f_undone)), (h0, .inr (10, vL 67 F1)), (h_s, .inl (cI, 335, .inl f_s))] H := hP
      have hD : va_D A [(h_undone, .inl (cI, 192, .inl f_undone)), (h0, .inr (10, vL 67 F1)), (h_s, .inl (cI, 335, .inl f_s))] := hD
      refine W.widen (k := 0) (n := 0) (Nat.le_of_ble_eq_true rfl) (Nat.le_of_ble_eq_true rfl) ?_
      have k15 : 0 ≤ p0.toInt ∧ p0.toInt ≤ 2147483647 := ⟨Int.le_trans (Int.le_refl _) t9, (ir_any _).2⟩
      have k16 : 0 ≤ p0.toInt ∧ p0.toInt ≤ 3 := ⟨k15.1, Int.le_trans t10 (Int.le_refl _)⟩
      refine lv_if_eq (tgt := 53) hx hb dX10_jump_18 (by decide) (fun g => absurd g (by decide)) (fun _ => ?_)
      refine lv_iload_n hx hb dX10_jump_21 rfl (lv_at hl 2 rfl) ?_
      refine lv_iconst (v := 0) hx hb dX10_jump_22 (by decide) ?_
      refine lv_aload_n hx hb dX10_jump_23 rfl (lv_at hl 0 rfl) ?_
      refine get_f (D := D) (ci := 10) (v := .ref h_s) (C := RX10) (T := TX10) (N := 67) hx hb hw inAX10 hown hK hP 1 rfl rfl 6 (by decide) (hw _ q_1267) (fun _ h9 => h9) n2 dX10_jump_24 ?_
      refine lv_iconst (v := 0) hx hb dX10_jump_27 (by decide) ?_
      refine iald_n hx hb hK hP 2 0 rfl rfl 0 rfl (Nat.le_of_ble_eq_true rfl) (Nat.le_of_ble_eq_true rfl) rfl dX10_jump_28 ?_
      refine lv_topi (fun v17 ev17 => ?_)
      have k18 : 0 ≤ v17.toInt ∧ v17.toInt ≤ 40 := by rw [ev17]; exact s_s_0.atN 0 (by decide) (by decide)
      refine lv_iconst (v := 1) hx hb dX10_jump_29 (by decide) ?_
      refine lv_isub hx hb dX10_jump_30 ?_
      refine lv_topi (fun v19 ev19 => ?_)
      have bv19 : v19.toInt = v17.toInt - 1 := by rw [ev19]; exact sub_k rfl rfl k18 ⟨Int.le_refl _, Int.le_refl _⟩ (by decide)
      have k20 : (-1) ≤ v19.toInt ∧ v19.toInt ≤ 39 := sub_r bv19 k18 ⟨Int.le_refl _, Int.le_refl _⟩ (by decide)
      refine call_Si (wr := [(h_undone, .inl (cI, 192, .inl f_undone)), (h0, .inr (10, vL 67 F1)), (h_s, .inl (cI, 335, .inl f_s))]) (As := [.int p1, .int 0, .int v19]) (rest := []) hx hb hml hown hw (m_X10_isIn l D cI cJ cB cP cM cZ p1 0 v19 _ ) wS_X10_211_X10_isIn dX10_jump_31 hP hD hS hA [] [0, 1, 2] rfl rfl (by decide) (by decide) (by decide) GG.fb hG.at hl.1 rfl (Nat.le_of_ble_eq_true rfl) ⟨(Nat.le_of_ble_eq_true rfl), (Nat.le_of_ble_eq_true rfl)⟩ ⟨(Nat.le_of_ble_eq_true rfl), (Nat.le_of_ble_eq_true rfl)⟩ (fun r21 u H locs hp hP hD hS => ?_)
      rcases hp with ⟨t22, rfl, rfl⟩ | ⟨t23, t24, rfl, rfl⟩ | ⟨t25, t26, rfl, rfl⟩
      · have hP : va_P D vwCl [(h_undone, .inl (cI, 192, .inl f_undone)), (h0, .inr (10, vL 67 F1)), (h_s, .inl (cI, 335, .inl f_s))] H := hP
        have hD : va_D A [(h_undone, .inl (cI, 192, .inl f_undone)), (h0, .inr (10, vL 67 F1)), (h_s, .inl (cI, 335, .inl f_s))] := hD
        refine W.widen (k := 0) (n := 0) (Nat.le_of_ble_eq_true rfl) (Nat.le_of_ble_eq_true rfl) ?_
        have k28 : (-2147483648) ≤ p1.toInt ∧ p1.toInt ≤ (-1) := ⟨(ir_any _).1, up_lt t22 (Int.le_refl _) (by decide)⟩
        refine lv_if_eq (tgt := 53) hx hb dX10_jump_34 (by decide) (fun _ => ?_) (fun g => absurd (by decide) g)
        refine lv_iconst (v := 0) hx hb dX10_jump_53 (by decide) ?_
        exact ret_i (v := 0) hx hb hr hlocks hS (hP.sub (ws' := [(h0, .inr (10, vL 67 F1)), (h_s, .inl (cI, 335, .inl f_s)), (h_undone, .inl (cI, 192, .inl f_undone))]) [1, 2, 0] rfl) (hD.sub (ws' := [(h0, .inr (10, vL 67 F1)), (h_s, .inl (cI, 335, .inl f_s)), (h_undone, .inl (cI, 192, .inl f_undone))]) [1, 2, 0] (by decide) rfl) dX10_jump_54 rfl (Nat.le_of_ble_eq_true rfl) (Nat.le_of_ble_eq_true rfl) ⟨F1, x_undoMany, f_s, f_undone, (SAME.up eF1 SAME.rf (by decide)), (get_eq eF1), (get_ne eF1 (by decide) e_undoMany), i_x_undoMany, s_s_153, s_s_0, s_s_5, s_s_6, s_s_7, s_s_44, s_s_K0, s_s_105, s_s_114, s_s_130, s_s_139, s_s_US, s_undone_1, s_undone_10, s_undone_25, s_undone_34, s_undone_49, s_undone_58, s_undone_73, s_undone_82, s_undone_97, s_undone_106, s_undone_121, s_undone_130, s_undone_145, s_undone_154, s_undone_169, s_undone_178, (show 0 ≤ (0 : Int32).toInt ∧ (0 : Int32).toInt ≤ 1 by decide), rfl⟩
      · have hP : va_P D vwCl [(h_undone, .inl (cI, 192, .inl f_undone)), (h0, .inr (10, vL 67 F1)), (h_s, .inl (cI, 335, .inl f_s))] H := hP
        have hD : va_D A [(h_undone, .inl (cI, 192, .inl f_undone)), (h0, .inr (10, vL 67 F1)), (h_s, .inl (cI, 335, .inl f_s))] := hD
        refine W.widen (k := 0) (n := 0) (Nat.le_of_ble_eq_true rfl) (Nat.le_of_ble_eq_true rfl) ?_
        have k29 : 0 ≤ p1.toInt ∧ p1.toInt ≤ 2147483647 := ⟨Int.le_trans (Int.le_refl _) t23, (ir_any _).2⟩
        refine lv_if_eq (tgt := 53) hx hb dX10_jump_34 (by decide) (fun _ => ?_) (fun g => absurd (by decide) g)
        refine lv_iconst (v := 0) hx hb dX10_jump_53 (by decide) ?_
        exact ret_i (v := 0) hx hb hr hlocks hS (hP.sub (ws' := [(h0, .inr (10, vL 67 F1)), (h_s, .inl (cI, 335, .inl f_s)), (h_undone, .inl (cI, 192, .inl f_undone))]) [1, 2, 0] rfl) (hD.sub (ws' := [(h0, .inr (10, vL 67 F1)), (h_s, .inl (cI, 335, .inl f_s)), (h_undone, .inl (cI, 192, .inl f_undone))]) [1, 2, 0] (by decide) rfl) dX10_jump_54 rfl (Nat.le_of_ble_eq_true rfl) (Nat.le_of_ble_eq_true rfl) ⟨F1, x_undoMany, f_s, f_undone, (SAME.up eF1 SAME.rf (by decide)), (get_eq eF1), (get_ne eF1 (by decide) e_undoMany), i_x_undoMany, s_s_153, s_s_0, s_s_5, s_s_6, s_s_7, s_s_44, s_s_K0, s_s_105, s_s_114, s_s_130, s_s_139, s_s_US, s_undone_1, s_undone_10, s_undone_25, s_undone_34, s_undone_49, s_undone_58, s_undone_73, s_undone_82, s_undone_97, s_undone_106, s_undone_121, s_undone_130, s_undone_145, s_undone_154, s_undone_169, s_undone_178, (show 0 ≤ (0 : Int32).toInt ∧ (0 : Int32).toInt ≤ 1 by decide), rfl⟩
      · have hP : va_P D vwCl [(h_undone, .inl (cI, 192, .inl f_undone)), (h0, .inr (10, vL 67 F1)), (h_s, .inl (cI, 335, .inl f_s))] H := hP
        have hD : va_D A [(h_undone, .inl (cI, 192, .inl f_undone)), (h0, .inr (10, vL 67 F1)), (h_s, .inl (cI, 335, .inl f_s))] := hD
        refine W.widen (k := 0) (n := 0) (Nat.le_of_ble_eq_true rfl) (Nat.le_of_ble_eq_true rfl) ?_
        have k30 : 0 ≤ p1.toInt ∧ p1.toInt ≤ 2147483647 := ⟨Int.le_trans (Int.le_refl _) t25, (ir_any _).2⟩
        have k31 : 0 ≤ p1.toInt ∧ p1.toInt ≤ 39 := ⟨k30.1, Int.le_trans t26 k20.2⟩
        have k32 : 0 ≤ v19.toInt ∧ v19.toInt ≤ 39 := ⟨Int.le_trans k30.1 t26, k20.2⟩
        have k33 : 1 ≤ v17.toInt ∧ v17.toInt ≤ 40 := ⟨lin_lo (lin_m bv19) k32.1 (by decide), k18.2⟩
        refine lv_if_eq (tgt := 53) hx hb dX10_jump_34 (by decide) (fun g => absurd g (by decide)) (fun _ => ?_)
        refine lv_aload_n hx hb dX10_jump_37 rfl (lv_at hl 0 rfl) ?_
        refine lv_bipush (v := 109) hx hb dX10_jump_38 (by decide) ?_
        refine lv_iload_n hx hb dX10_jump_40 rfl (lv_at hl 1 rfl) ?_
        refine lv_iadd hx hb dX10_jump_41 ?_
        refine lv_topi (fun v34 ev34 => ?_)
        have bv34 : v34.toInt = 109 + p0.toInt := by rw [ev34]; exact add_k rfl rfl ⟨Int.le_refl _, Int.le_refl _⟩ k16 (by decide)
        have k35 : 109 ≤ v34.toInt ∧ v34.toInt ≤ 112 := add_r bv34 ⟨Int.le_refl _, Int.le_refl _⟩ k16 (by decide)
        refine lv_iload_n hx hb dX10_jump_42 rfl (lv_at hl 2 rfl) ?_
        have n36 : F1 39 = .ref h_undone := (get_ne eF1 (by decide) e_undone)
        have n37 : F1 41 = .int x_undoMany := (get_ne eF1 (by decide) e_undoMany)
        refine call_Vi (wr := []) (As := [.int v34, .int p1]) (rest := []) hx hb hml hown hw (m_X10_becomes l D cI cJ cB cP cM cZ h0 h_s h_undone F1 x_undoMany f_s f_undone v34 p1 bs _ n2 n36 n37 i_x_undoMany s_s_K0 s_s_US s_s_0 s_s_105 s_s_114 s_s_130 s_s_139 s_s_153 s_s_44 s_s_5 s_s_6 s_s_7 s_undone_1 s_undone_10 s_undone_106 s_undone_121 s_undone_130 s_undone_145 s_undone_154 s_undone_169 s_undone_178 s_undone_25 s_undone_34 s_undone_49 s_undone_58 s_undone_73 s_undone_82 s_undone_97 (ir_wk k35 (by decide) (by decide)) (by omega)) wV_X10_374_X10_becomes dX10_jump_43 hK hP hD hS hA [1, 2, 0] [] rfl rfl (by decide) (by decide) (by decide) 0 10 rfl rfl GG.fb hG.at hl.1 rfl (Nat.le_of_ble_eq_true rfl) ⟨(Nat.le_of_ble_eq_true rfl), (Nat.le_of_ble_eq_true rfl)⟩ ⟨(Nat.le_of_ble_eq_true rfl), (Nat.le_of_ble_eq_true rfl)⟩ (fun r38 u H locs hp hP hD hS => ?_)
        refine hp.elim (fun F39 h9z0 => h9z0.elim (fun y40 h9z1 => h9z1.elim (fun g41 h9z2 => h9z2.elim (fun g42 h9z3 => h9z3.elim (fun t43 h9z4 => h9z4.elim (fun t44 h9z5 => h9z5.elim (fun t45 h9z6 => h9z6.elim (fun t46 h9z7 => h9z7.elim (fun t47 h9z8 => h9z8.elim (fun t48 h9z9 => h9z9.elim (fun t49 h9z10 => h9z10.elim (fun t50 h9z11 => h9z11.elim (fun t51 h9z12 => h9z12.elim (fun t52 h9z13 => h9z13.elim (fun t53 h9z14 => h9z14.elim (fun t54 h9z15 => h9z15.elim (fun t55 h9z16 => h9z16.elim (fun t56 h9z17 => h9z17.elim (fun t57 h9z18 => h9z18.elim (fun t58 h9z19 => h9z19.elim (fun t59 h9z20 => h9z20.elim (fun t60 h9z21 => h9z21.elim (fun t61 h9z22 => h9z22.elim (fun t62 h9z23 => h9z23.elim (fun t63 h9z24 => h9z24.elim (fun t64 h9z25 => h9z25.elim (fun t65 h9z26 => h9z26.elim (fun t66 h9z27 => h9z27.elim (fun t67 h9z28 => h9z28.elim (fun t68 h9z29 => h9z29.elim (fun t69 h9z30 => h9z30.elim (fun t70 h9z31 => h9z31.elim (fun t71 h9z32 => h9z32.elim (fun t72 h9z33 => h9z33.elim (fun t73 h9z34 => h9z34.elim (fun t74 h9z35 => ?_))))))))))))))))))))))))))))))))))))
        clear h9z0 h9z1 h9z2 h9z3 h9z4 h9z5 h9z6 h9z7 h9z8 h9z9 h9z10 h9z11 h9z12 h9z13 h9z14 h9z15 h9z16 h9z17 h9z18 h9z19 h9z20 h9z21 h9z22 h9z23 h9z24 h9z25 h9z26 h9z27 h9z28 h9z29 h9z30 h9z31 h9z32 h9z33 h9z34
        subst h9z35
        have hP : va_P D vwCl [(h0, .inr (10, vL 67 F39)), (h_s, .inl (cI, 335, .inl g41)), (h_undone, .inl (cI, 192, .inl g42))] H := hP
        have hD : va_D A [(h0, .inr (10, vL 67 F39)), (h_s, .inl (cI, 335, .inl g41)), (h_undone, .inl (cI, 192, .inl g42))] := hD
        refine W.widen (k := 0) (n := 0) (Nat.le_of_ble_eq_true rfl) (Nat.le_of_ble_eq_true rfl) ?_
        refine lv_if_eq (tgt := 53) hx hb dX10_jump_46 (by decide) (fun c76 => ?_) (fun c76 => ?_)
        · have dc76 : r38.toInt = 0 := eq_i (a := r38.toInt) (b := 0) rfl rfl c76
          have k77 : 0 ≤ r38.toInt ∧ r38.toInt ≤ 0 := ⟨t74.1, Int.le_trans (Int.le_of_eq dc76) (Int.le_refl _)⟩
          refine lv_iconst (v := 0) hx hb dX10_jump_53 (by decide) ?_
          exact ret_i (v := 0) hx hb hr hlocks hS hP hD dX10_jump_54 rfl (Nat.le_of_ble_eq_true rfl) (Nat.le_of_ble_eq_true rfl) ⟨F39, y40, g41, g42, (SAME.tr (SAME.up eF1 SAME.rf (by decide)) t43 (by decide)), (SAME.at t43 (by decide) (get_eq eF1)), t44, t45, t46, t47, t48, t49, t50, t51, t52, t53, t54, t55, t56, t57, t58, t59, t60, t61, t62, t63, t64, t65, t66, t67, t68, t69, t70, t71, t72, t73, (show 0 ≤ (0 : Int32).toInt ∧ (0 : Int32).toInt ≤ 1 by decide), rfl⟩
        · have dc76 : r38.toInt ≠ 0 := ne_i (a := r38.toInt) (b := 0) rfl rfl c76
          have k78 : 1 ≤ r38.toInt ∧ r38.toInt ≤ 1 := ⟨ne_lo dc76 t74.1 ⟨Int.le_refl _, Int.le_refl _⟩ (by decide), t74.2⟩
          refine lv_iconst (v := 1) hx hb dX10_jump_49 (by decide) ?_
          refine lv_goto (tgt := 54) hx hb dX10_jump_50 (by decide) ?_
          exact ret_i (v := 1) hx hb hr hlocks hS hP hD dX10_jump_54 rfl (Nat.le_of_ble_eq_true rfl) (Nat.le_of_ble_eq_true rfl) ⟨F39, y40, g41, g42, (SAME.tr (SAME.up eF1 SAME.rf (by decide)) t43 (by decide)), (SAME.at t43 (by decide) (get_eq eF1)), t44, t45, t46, t47, t48, t49, t50, t51, t52, t53, t54, t55, t56, t57, t58, t59, t60, t61, t62, t63, t64, t65, t66, t67, t68, t69, t70, t71, t72, t73, (show 0 ≤ (1 : Int32).toInt ∧ (1 : Int32).toInt ≤ 1 by decide), rfl⟩
set_option maxHeartbeats 4000000 in
set_option maxRecDepth 100000 in
theorem m_X10_high (l : Launch) (D : va_G) (cI cJ cB cP cM cZ : ClassId) (h0 : Nat) (h_s : Nat) (h_undone : Nat) (Fh : Nat → Value) (x_undoMany : Int32) (f_s : Nat → Int32) (f_undone : Nat → Int32) (p0 : Int32) (p1 : Int32) (bs : Nat → Int32) (sz : Nat) (e_s : Fh 6 = .ref h_s) (e_undone : Fh 39 = .ref h_undone) (e_undoMany : Fh 41 = .int x_undoMany) (i_x_undoMany : IR 0 8 x_undoMany) (s_s_K0 : KW 0 f_s) (s_s_US : US bs f_s) (s_s_0 : SG 0 0 0 40 f_s) (s_s_105 : SG 105 108 0 11 f_s) (s_s_114 : SG 114 114 0 5 f_s) (s_s_130 : SG 130 133 0 11 f_s) (s_s_139 : SG 139 139 0 5 f_s) (s_s_153 : SG 153 153 0 44 f_s) (s_s_44 : SG 44 55 0 9 f_s) (s_s_5 : SG 5 5 0 12 f_s) (s_s_6 : SG 6 6 0 12 f_s) (s_s_7 : SG 7 7 0 6 f_s) (s_undone_1 : SG 1 4 0 11 f_undone) (s_undone_10 : SG 10 10 0 5 f_undone) (s_undone_106 : SG 106 106 0 5 f_undone) (s_undone_121 : SG 121 124 0 11 f_undone) (s_undone_130 : SG 130 130 0 5 f_undone) (s_undone_145 : SG 145 148 0 11 f_undone) (s_undone_154 : SG 154 154 0 5 f_undone) (s_undone_169 : SG 169 172 0 11 f_undone) (s_undone_178 : SG 178 178 0 5 f_undone) (s_undone_25 : SG 25 28 0 11 f_undone) (s_undone_34 : SG 34 34 0 5 f_undone) (s_undone_49 : SG 49 52 0 11 f_undone) (s_undone_58 : SG 58 58 0 5 f_undone) (s_undone_73 : SG 73 76 0 11 f_undone) (s_undone_82 : SG 82 82 0 5 f_undone) (s_undone_97 : SG 97 100 0 11 f_undone) : CI l yX10_high cX10_high 3 (some .boolean) { frames := 2, cells := 0, slots := 0, locals := 43 } (GG D cI cJ cB cP cM cZ) D [(h0, .inr (10, vL 67 Fh)), (h_s, .inl (cI, 335, .inl f_s)), (h_undone, .inl (cI, 192, .inl f_undone))] sz [.ref h0, .int p0, .int p1] (fun (r : Int32) (u : va_W) => ∃ (Gh : Nat → Value) (y_undoMany : Int32) (g_s : Nat → Int32) (g_undone : Nat → Int32), SAME [0, 41] Fh Gh ∧ Gh 0 = .int 0 ∧ Gh 41 = .int y_undoMany ∧ IR 0 8 y_undoMany ∧ SG 153 153 0 44 g_s ∧ SG 0 0 0 40 g_s ∧ SG 5 5 0 12 g_s ∧ SG 6 6 0 12 g_s ∧ SG 7 7 0 6 g_s ∧ SG 44 55 0 9 g_s ∧ KW 0 g_s ∧ SG 105 108 0 11 g_s ∧ SG 114 114 0 5 g_s ∧ SG 130 133 0 11 g_s ∧ SG 139 139 0 5 g_s ∧ US bs g_s ∧ SG 1 4 0 11 g_undone ∧ SG 10 10 0 5 g_undone ∧ SG 25 28 0 11 g_undone ∧ SG 34 34 0 5 g_undone ∧ SG 49 52 0 11 g_undone ∧ SG 58 58 0 5 g_undone ∧ SG 73 76 0 11 g_undone ∧ SG 82 82 0 5 g_undone ∧ SG 97 100 0 11 g_undone ∧ SG 106 106 0 5 g_undone ∧ SG 121 124 0 11 g_undone ∧ SG 130 130 0 5 g_undone ∧ SG 145 148 0 11 g_undone ∧ SG 154 154 0 5 g_undone ∧ SG 169 172 0 11 g_undone ∧ SG 178 178 0 5 g_undone ∧ IR 0 1 r ∧ u = [(h0, .inr (10, vL 67 Gh)), (h_s, .inl (cI, 335, .inl g_s)), (h_undone, .inl (cI, 192, .inl g_undone))]) := by
  refine CI_mk (by decide) (Nat.le_of_ble_eq_true rfl) ?_
  intro p e s m below meth c A ls E hAe hG hsz hP hD hA hS hl
  obtain ⟨hx, hb, hr, hw, hown, hlocks, hml, hnm⟩ := E
  have hK := hG.1
  have i_x_undoMany : 0 ≤ x_undoMany.toInt ∧ x_undoMany.toInt ≤ 8 := i_x_undoMany
  have hl : lv_has ls 3 [(0, .ref h0), (1, .int p0), (2, .int p1)] := hl
  refine lv_aload_n hx hb dX10_high_0 rfl (lv_at hl 0 rfl) ?_
  refine lv_iconst (v := 0) hx hb dX10_high_1 (by decide) ?_
  refine put_f (D := D) (ci := 10) (v := .int 0) (ty := .int) (C := RX10) (T := TX10) (N := 67) hx hb hw inAX10 tyX10 tyX10_ok nmX10 hown hK hP hD hS 0 rfl rfl 0 (by decide) (hw _ q_1261) (fun _ h9 => h9) rfl (by decide +kernel) rfl rfl dX10_high_2 (fun H locs F1 eF1 hP hD hS => ?_)
  have hP : va_P D vwCl [(h0, .inr (10, vL 67 F1)), (h_s, .inl (cI, 335, .inl f_s)), (h_undone, .inl (cI, 192, .inl f_undone))] H := hP
  have hD : va_D A [(h0, .inr (10, vL 67 F1)), (h_s, .inl (cI, 335, .inl f_s)), (h_undone, .inl (cI, 192, .inl f_undone))] := hD
  refine lv_aload_n hx hb dX10_high_5 rfl (lv_at hl 0 rfl) ?_
  refine lv_iload_n hx hb dX10_high_6 rfl (lv_at hl 1 rfl) ?_
  have n2 : F1 6 = .ref h_s := (get_ne eF1 (by decide) e_s)
  refine call_Vi (wr := [(h_undone, .inl (cI, 192, .inl f_undone))]) (As := [.int p0]) (rest := []) hx hb hml hown hw (m_X10_isBend l D cI cJ cB cP cM cZ h0 h_s F1 f_s p0 bs _ n2 s_s_K0 s_s_US s_s_0 s_s_105 s_s_114 s_s_130 s_s_139 s_s_153 s_s_44 s_s_5 s_s_6 s_s_7) wV_X10_292_X10_isBend dX10_high_7 hK hP hD hS hA [0, 1] [2] rfl rfl (by decide) (by decide) (by decide) 0 10 rfl rfl GG.fb hG.at hl.1 rfl (Nat.le_of_ble_eq_true rfl) ⟨(Nat.le_of_ble_eq_true rfl), (Nat.le_of_ble_eq_true rfl)⟩ ⟨(Nat.le_of_ble_eq_true rfl), (Nat.le_of_ble_eq_true rfl)⟩ (fun r3 u H locs hp hP hD hS => ?_)
  rcases hp with ⟨t4, rfl, rfl⟩ | ⟨t5, t6, rfl, rfl⟩ | ⟨t7, t8, rfl, rfl⟩
  · have hP : va_P D vwCl [(h_undone, .inl (cI, 192, .inl f_undone)), (h0, .inr (10, vL 67 F1)), (h_s, .inl (cI, 335, .inl f_s))] H := hP
    have hD : va_D A [(h_undone, .inl (cI, 192, .inl f_undone)), (h0, .inr (10, vL 67 F1)), (h_s, .inl (cI, 335, .inl f_s))] := hD
    refine W.widen (k := 0) (n := 0) (Nat.le_of_ble_eq_true rfl) (Nat.le_of_ble_eq_true rfl) ?_
    have k10 : (-2147483648) ≤ p0.toInt ∧ p0.toInt ≤ (-1) := ⟨(ir_any _).1, up_lt t4 (Int.le_refl _) (by decide)⟩
    refine lv_if_eq (tgt := 39) hx hb dX10_high_10 (by decide) (fun _ => ?_) (fun g => absurd (by decide) g)
    refine lv_iconst (v := 0) hx hb dX10_high_39 (by decide) ?_
    exact ret_i (v := 0) hx hb hr hlocks hS (hP.sub (ws' := [(h0, .inr (10, vL 67 F1)), (h_s, .inl (cI, 335, .inl f_s)), (h_undone, .inl (cI, 192, .inl f_undone))]) [1, 2, 0] rfl) (hD.sub (ws' := [(h0, .inr (10, vL 67 F1)), (h_s, .inl (cI, 335, .inl f_s)), (h_undone, .inl (cI, 192, .inl f_undone))]) [1, 2, 0] (by decide) rfl) dX10_high_40 rfl (Nat.le_of_ble_eq_true rfl) (Nat.le_of_ble_eq_true rfl) ⟨F1, x_undoMany, f_s, f_undone, (SAME.up eF1 SAME.rf (by decide)), (get_eq eF1), (get_ne eF1 (by decide) e_undoMany), i_x_undoMany, s_s_153, s_s_0, s_s_5, s_s_6, s_s_7, s_s_44, s_s_K0, s_s_105, s_s_114, s_s_130, s_s_139, s_s_US, s_undone_1, s_undone_10, s_undone_25, s_undone_34, s_undone_49, s_undone_58, s_undone_73, s_undone_82, s_undone_97, s_undone_106, s_undone_121, s_undone_130, s_undone_145, s_undone_154, s_undone_169, s_undone_178, (show 0 ≤ (0 : Int32).toInt ∧ (0 : Int32).toInt ≤ 1 by decide), rfl⟩
  · have hP : va_P D vwCl [(h_undone, .inl (cI, 192, .inl f_undone)), (h0, .inr (10, vL 67 F1)), (h_s, .inl (cI, 335, .inl f_s))] H := hP
    have hD : va_D A [(h_undone, .inl (cI, 192, .inl f_undone)), (h0, .inr (10, vL 67 F1)), (h_s, .inl (cI, 335, .inl f_s))] := hD
    refine W.widen (k := 0) (n := 0) (Nat.le_of_ble_eq_true rfl) (Nat.le_of_ble_eq_true rfl) ?_
    have k11 : 0 ≤ p0.toInt ∧ p0.toInt ≤ 2147483647 := ⟨Int.le_trans (Int.le_refl _) t5, (ir_any _).2⟩
    refine lv_if_eq (tgt := 39) hx hb dX10_high_10 (by decide) (fun _ => ?_) (fun g => absurd (by decide) g)
    refine lv_iconst (v := 0) hx hb dX10_high_39 (by decide) ?_
    exact ret_i (v := 0) hx hb hr hlocks hS (hP.sub (ws' := [(h0, .inr (10, vL 67 F1)), (h_s, .inl (cI, 335, .inl f_s)), (h_undone, .inl (cI, 192, .inl f_undone))]) [1, 2, 0] rfl) (hD.sub (ws' := [(h0, .inr (10, vL 67 F1)), (h_s, .inl (cI, 335, .inl f_s)), (h_undone, .inl (cI, 192, .inl f_undone))]) [1, 2, 0] (by decide) rfl) dX10_high_40 rfl (Nat.le_of_ble_eq_true rfl) (Nat.le_of_ble_eq_true rfl) ⟨F1, x_undoMany, f_s, f_undone, (SAME.up eF1 SAME.rf (by decide)), (get_eq eF1), (get_ne eF1 (by decide) e_undoMany), i_x_undoMany, s_s_153, s_s_0, s_s_5, s_s_6, s_s_7, s_s_44, s_s_K0, s_s_105, s_s_114, s_s_130, s_s_139, s_s_US, s_undone_1, s_undone_10, s_undone_25, s_undone_34, s_undone_49, s_undone_58, s_undone_73, s_undone_82, s_undone_97, s_undone_106, s_undone_121, s_undone_130, s_undone_145, s_undone_154, s_undone_169, s_undone_178, (show 0 ≤ (0 : Int32).toInt ∧ (0 : Int32).toInt ≤ 1 by decide), rfl⟩
  · have hP : va_P D vwCl [(h_undone, .inl (cI, 192, .inl f_undone)), (h0, .inr (10, vL 67 F1)), (h_s, .inl (cI, 335, .inl f_s))] H := hP
    have hD : va_D A [(h_undone, .inl (cI, 192, .inl f_undone)), (h0, .inr (10, vL 67 F1)), (h_s, .inl (cI, 335, .inl f_s))] := hD
    refine W.widen (k := 0) (n := 0) (Nat.le_of_ble_eq_true rfl) (Nat.le_of_ble_eq_true rfl) ?_
    have k12 : 0 ≤ p0.toInt ∧ p0.toInt ≤ 2147483647 := ⟨Int.le_trans (Int.le_refl _) t7, (ir_any _).2⟩
    have k13 : 0 ≤ p0.toInt ∧ p0.toInt ≤ 11 := ⟨k12.1, Int.le_trans t8 (Int.le_refl _)⟩
    refine lv_if_eq (tgt := 39) hx hb dX10_high_10 (by decide) (fun g => absurd g (by decide)) (fun _ => ?_)
    refine lv_iload_n hx hb dX10_high_13 rfl (lv_at hl 2 rfl) ?_
    refine lv_iconst (v := 0) hx hb dX10_high_14 (by decide) ?_
    refine lv_bipush (v := 9) hx hb dX10_high_15 (by decide) ?_
    refine call_Si (wr := [(h_undone, .inl (cI, 192, .inl f_undone)), (h0, .inr (10, vL 67 F1)), (h_s, .inl (cI, 335, .inl f_s))]) (As := [.int p1, .int 0, .int 9]) (rest := []) hx hb hml hown hw (m_X10_isIn l D cI cJ cB cP cM cZ p1 0 9 _ ) wS_X10_211_X10_isIn dX10_high_17 hP hD hS hA [] [0, 1, 2] rfl rfl (by decide) (by decide) (by decide) GG.fb hG.at hl.1 rfl (Nat.le_of_ble_eq_true rfl) ⟨(Nat.le_of_ble_eq_true rfl), (Nat.le_of_ble_eq_true rfl)⟩ ⟨(Nat.le_of_ble_eq_true rfl), (Nat.le_of_ble_eq_true rfl)⟩ (fun r14 u H locs hp hP hD hS => ?_)
    have zl0 : (0 : Int32).toInt = 0 := by decide
    have zl9 : (9 : Int32).toInt = 9 := by decide
    rcases hp with ⟨t15, rfl, rfl⟩ | ⟨t16, t17, rfl, rfl⟩ | ⟨t18, t19, rfl, rfl⟩
    · have hP : va_P D vwCl [(h_undone, .inl (cI, 192, .inl f_undone)), (h0, .inr (10, vL 67 F1)), (h_s, .inl (cI, 335, .inl f_s))] H := hP
      have hD : va_D A [(h_undone, .inl (cI, 192, .inl f_undone)), (h0, .inr (10, vL 67 F1)), (h_s, .inl (cI, 335, .inl f_s))] := hD
      refine W.widen (k := 0) (n := 0) (Nat.le_of_ble_eq_true rfl) (Nat.le_of_ble_eq_true rfl) ?_
      have k21 : (-2147483648) ≤ p1.toInt ∧ p1.toInt ≤ (-1) := ⟨(ir_any _).1, up_lt t15 (Int.le_refl _) (by decide)⟩
      refine lv_if_eq (tgt := 39) hx hb dX10_high_20 (by decide) (fun _ => ?_) (fun g => absurd (by decide) g)
      refine lv_iconst (v := 0) hx hb dX10_high_39 (by decide) ?_
      exact ret_i (v := 0) hx hb hr hlocks hS (hP.sub (ws' := [(h0, .inr (10, vL 67 F1)), (h_s, .inl (cI, 335, .inl f_s)), (h_undone, .inl (cI, 192, .inl f_undone))]) [1, 2, 0] rfl) (hD.sub (ws' := [(h0, .inr (10, vL 67 F1)), (h_s, .inl (cI, 335, .inl f_s)), (h_undone, .inl (cI, 192, .inl f_undone))]) [1, 2, 0] (by decide) rfl) dX10_high_40 rfl (Nat.le_of_ble_eq_true rfl) (Nat.le_of_ble_eq_true rfl) ⟨F1, x_undoMany, f_s, f_undone, (SAME.up eF1 SAME.rf (by decide)), (get_eq eF1), (get_ne eF1 (by decide) e_undoMany), i_x_undoMany, s_s_153, s_s_0, s_s_5, s_s_6, s_s_7, s_s_44, s_s_K0, s_s_105, s_s_114, s_s_130, s_s_139, s_s_US, s_undone_1, s_undone_10, s_undone_25, s_undone_34, s_undone_49, s_undone_58, s_undone_73, s_undone_82, s_undone_97, s_undone_106, s_undone_121, s_undone_130, s_undone_145, s_undone_154, s_undone_169, s_undone_178, (show 0 ≤ (0 : Int32).toInt ∧ (0 : Int32).toInt ≤ 1 by decide), rfl⟩
    · have hP : va_P D vwCl [(h_undone, .inl (cI, 192, .inl f_undone)), (h0, .inr (10, vL 67 F1)), (h_s, .inl (cI, 335, .inl f_s))] H := hP
      have hD : va_D A [(h_undone, .inl (cI, 192, .inl f_undone)), (h0, .inr (10, vL 67 F1)), (h_s, .inl (cI, 335, .inl f_s))] := hD
      refine W.widen (k := 0) (n := 0) (Nat.le_of_ble_eq_true rfl) (Nat.le_of_ble_eq_true rfl) ?_
      have k22 : 0 ≤ p1.toInt ∧ p1.toInt ≤ 2147483647 := ⟨Int.le_trans (Int.le_refl _) t16, (ir_any _).2⟩
      have k23 : 10 ≤ p1.toInt ∧ p1.toInt ≤ 2147483647 := ⟨lo_lt t17 (Int.le_refl _) (by decide), k22.2⟩
      refine lv_if_eq (tgt := 39) hx hb dX10_high_20 (by decide) (fun _ => ?_) (fun g => absurd (by decide) g)
      refine lv_iconst (v := 0) hx hb dX10_high_39 (by decide) ?_
      exact ret_i (v := 0) hx hb hr hlocks hS (hP.sub (ws' := [(h0, .inr (10, vL 67 F1)), (h_s, .inl (cI, 335, .inl f_s)), (h_undone, .inl (cI, 192, .inl f_undone))]) [1, 2, 0] rfl) (hD.sub (ws' := [(h0, .inr (10, vL 67 F1)), (h_s, .inl (cI, 335, .inl f_s)), (h_undone, .inl (cI, 192, .inl f_undone))]) [1, 2, 0] (by decide) rfl) dX10_high_40 rfl (Nat.le_of_ble_eq_true rfl) (Nat.le_of_ble_eq_true rfl) ⟨F1, x_undoMany, f_s, f_undone, (SAME.up eF1 SAME.rf (by decide)), (get_eq eF1), (get_ne eF1 (by decide) e_undoMany), i_x_undoMany, s_s_153, s_s_0, s_s_5, s_s_6, s_s_7, s_s_44, s_s_K0, s_s_105, s_s_114, s_s_130, s_s_139, s_s_US, s_undone_1, s_undone_10, s_undone_25, s_undone_34, s_undone_49, s_undone_58, s_undone_73, s_undone_82, s_undone_97, s_undone_106, s_undone_121, s_undone_130, s_undone_145, s_undone_154, s_undone_169, s_undone_178, (show 0 ≤ (0 : Int32).toInt ∧ (0 : Int32).toInt ≤ 1 by decide), rfl⟩
    · have hP : va_P D vwCl [(h_undone, .inl (cI, 192, .inl f_undone)), (h0, .inr (10, vL 67 F1)), (h_s, .inl (cI, 335, .inl f_s))] H := hP
      have hD : va_D A [(h_undone, .inl (cI, 192, .inl f_undone)), (h0, .inr (10, vL 67 F1)), (h_s, .inl (cI, 335, .inl f_s))] := hD
      refine W.widen (k := 0) (n := 0) (Nat.le_of_ble_eq_true rfl) (Nat.le_of_ble_eq_true rfl) ?_
      have k24 : 0 ≤ p1.toInt ∧ p1.toInt ≤ 2147483647 := ⟨Int.le_trans (Int.le_refl _) t18, (ir_any _).2⟩
      have k25 : 0 ≤ p1.toInt ∧ p1.toInt ≤ 9 := ⟨k24.1, Int.le_trans t19 (Int.le_refl _)⟩
      refine lv_if_eq (tgt := 39) hx hb dX10_high_20 (by decide) (fun g => absurd g (by decide)) (fun _ => ?_)
      refine lv_aload_n hx hb dX10_high_23 rfl (lv_at hl 0 rfl) ?_
      refine lv_bipush (v := 116) hx hb dX10_high_24 (by decide) ?_
      refine lv_iload_n hx hb dX10_high_26 rfl (lv_at hl 1 rfl) ?_
      refine lv_iadd hx hb dX10_high_27 ?_
      refine lv_topi (fun v26 ev26 => ?_)
      have bv26 : v26.toInt = 116 + p0.toInt := by rw [ev26]; exact add_k rfl rfl ⟨Int.le_refl _, Int.le_refl _⟩ k13 (by decide)
      have k27 : 116 ≤ v26.toInt ∧ v26.toInt ≤ 127 := add_r bv26 ⟨Int.le_refl _, Int.le_refl _⟩ k13 (by decide)
      refine lv_iload_n hx hb dX10_high_28 rfl (lv_at hl 2 rfl) ?_
      have n28 : F1 39 = .ref h_undone := (get_ne eF1 (by decide) e_undone)
      have n29 : F1 41 = .int x_undoMany := (get_ne eF1 (by decide) e_undoMany)
      refine call_Vi (wr := []) (As := [.int v26, .int p1]) (rest := []) hx hb hml hown hw (m_X10_becomes l D cI cJ cB cP cM cZ h0 h_s h_undone F1 x_undoMany f_s f_undone v26 p1 bs _ n2 n28 n29 i_x_undoMany s_s_K0 s_s_US s_s_0 s_s_105 s_s_114 s_s_130 s_s_139 s_s_153 s_s_44 s_s_5 s_s_6 s_s_7 s_undone_1 s_undone_10 s_undone_106 s_undone_121 s_undone_130 s_undone_145 s_undone_154 s_undone_169 s_undone_178 s_undone_25 s_undone_34 s_undone_49 s_undone_58 s_undone_73 s_undone_82 s_undone_97 (ir_wk k27 (by decide) (by decide)) (by omega)) wV_X10_374_X10_becomes dX10_high_29 hK hP hD hS hA [1, 2, 0] [] rfl rfl (by decide) (by decide) (by decide) 0 10 rfl rfl GG.fb hG.at hl.1 rfl (Nat.le_of_ble_eq_true rfl) ⟨(Nat.le_of_ble_eq_true rfl), (Nat.le_of_ble_eq_true rfl)⟩ ⟨(Nat.le_of_ble_eq_true rfl), (Nat.le_of_ble_eq_true rfl)⟩ (fun r30 u H locs hp hP hD hS => ?_)
      refine hp.elim (fun F31 h9z0 => h9z0.elim (fun y32 h9z1 => h9z1.elim (fun g33 h9z2 => h9z2.elim (fun g34 h9z3 => h9z3.elim (fun t35 h9z4 => h9z4.elim (fun t36 h9z5 => h9z5.elim (fun t37 h9z6 => h9z6.elim (fun t38 h9z7 => h9z7.elim (fun t39 h9z8 => h9z8.elim (fun t40 h9z9 => h9z9.elim (fun t41 h9z10 => h9z10.elim (fun t42 h9z11 => h9z11.elim (fun t43 h9z12 => h9z12.elim (fun t44 h9z13 => h9z13.elim (fun t45 h9z14 => h9z14.elim (fun t46 h9z15 => h9z15.elim (fun t47 h9z16 => h9z16.elim (fun t48 h9z17 => h9z17.elim (fun t49 h9z18 => h9z18.elim (fun t50 h9z19 => h9z19.elim (fun t51 h9z20 => h9z20.elim (fun t52 h9z21 => h9z21.elim (fun t53 h9z22 => h9z22.elim (fun t54 h9z23 => h9z23.elim (fun t55 h9z24 => h9z24.elim (fun t56 h9z25 => h9z25.elim (fun t57 h9z26 => h9z26.elim (fun t58 h9z27 => h9z27.elim (fun t59 h9z28 => h9z28.elim (fun t60 h9z29 => h9z29.elim (fun t61 h9z30 => h9z30.elim (fun t62 h9z31 => h9z31.elim (fun t63 h9z32 => h9z32.elim (fun t64 h9z33 => h9z33.elim (fun t65 h9z34 => h9z34.elim (fun t66 h9z35 => ?_))))))))))))))))))))))))))))))))))))
      clear h9z0 h9z1 h9z2 h9z3 h9z4 h9z5 h9z6 h9z7 h9z8 h9z9 h9z10 h9z11 h9z12 h9z13 h9z14 h9z15 h9z16 h9z17 h9z18 h9z19 h9z20 h9z21 h9z22 h9z23 h9z24 h9z25 h9z26 h9z27 h9z28 h9z29 h9z30 h9z31 h9z32 h9z33 h9z34
      subst h9z35
      have hP : va_P D vwCl [(h0, .inr (10, vL 67 F31)), (h_s, .inl (cI, 335, .inl g33)), (h_undone, .inl (cI, 192, .inl g34))] H := hP
      have hD : va_D A [(h0, .inr (10, vL 67 F31)), (h_s, .inl (cI, 335, .inl g33)), (h_undone, .inl (cI, 192, .inl g34))] := hD
      refine W.widen (k := 0) (n := 0) (Nat.le_of_ble_eq_true rfl) (Nat.le_of_ble_eq_true rfl) ?_
      refine lv_if_eq (tgt := 39) hx hb dX10_high_32 (by decide) (fun c68 => ?_) (fun c68 => ?_)
      · have dc68 : r30.toInt = 0 := eq_i (a := r30.toInt) (b := 0) rfl rfl c68
        have k69 : 0 ≤ r30.toInt ∧ r30.toInt ≤ 0 := ⟨t66.1, Int.le_trans (Int.le_of_eq dc68) (Int.le_refl _)⟩
        refine lv_iconst (v := 0) hx hb dX10_high_39 (by decide) ?_
        exact ret_i (v := 0) hx hb hr hlocks hS hP hD dX10_high_40 rfl (Nat.le_of_ble_eq_true rfl) (Nat.le_of_ble_eq_true rfl) ⟨F31, y32, g33, g34, (SAME.tr (SAME.up eF1 SAME.rf (by decide)) t35 (by decide)), (SAME.at t35 (by decide) (get_eq eF1)), t36, t37, t38, t39, t40, t41, t42, t43, t44, t45, t46, t47, t48, t49, t50, t51, t52, t53, t54, t55, t56, t57, t58, t59, t60, t61, t62, t63, t64, t65, (show 0 ≤ (0 : Int32).toInt ∧ (0 : Int32).toInt ≤ 1 by decide), rfl⟩
      · have dc68 : r30.toInt ≠ 0 := ne_i (a := r30.toInt) (b := 0) rfl rfl c68
        have k70 : 1 ≤ r30.toInt ∧ r30.toInt ≤ 1 := ⟨ne_lo dc68 t66.1 ⟨Int.le_refl _, Int.le_refl _⟩ (by decide), t66.2⟩
        refine lv_iconst (v := 1) hx hb dX10_high_35 (by decide) ?_
        refine lv_goto (tgt := 40) hx hb dX10_high_36 (by decide) ?_
        exact ret_i (v := 1) hx hb hr hlocks hS hP hD dX10_high_40 rfl (Nat.le_of_ble_eq_true rfl) (Nat.le_of_ble_eq_true rfl) ⟨F31, y32, g33, g34, (SAME.tr (SAME.up eF1 SAME.rf (by decide)) t35 (by decide)), (SAME.at t35 (by decide) (get_eq eF1)), t36, t37, t38, t39, t40, t41, t42, t43, t44, t45, t46, t47, t48, t49, t50, t51, t52, t53, t54, t55, t56, t57, t58, t59, t60, t61, t62, t63, t64, t65, (show 0 ≤ (1 : Int32).toInt ∧ (1 : Int32).toInt ≤ 1 by decide), rfl⟩
set_option maxHeartbeats 4000000 in
set_option maxRecDepth 100000 in
theorem m_X10_set (l : Launch) (D : va_G) (cI cJ cB cP cM cZ : ClassId) (h0 : Nat) (h_s : Nat) (h_undone : Nat) (Fh : Nat → Value) (x_undoMany : Int32) (f_s : Nat → Int32) (f_undone : Nat → Int32) (p0 : Int32) (p1 : Int32) (bs : Nat → Int32) (sz : Nat) (e_s : Fh 6 = .ref h_s) (e_undone : Fh 39 = .ref h_undone) (e_undoMany : Fh 41 = .int x_undoMany) (i_x_undoMany : IR 0 8 x_undoMany) (s_s_K0 : KW 0 f_s) (s_s_US : US bs f_s) (s_s_0 : SG 0 0 0 40 f_s) (s_s_105 : SG 105 108 0 11 f_s) (s_s_114 : SG 114 114 0 5 f_s) (s_s_130 : SG 130 133 0 11 f_s) (s_s_139 : SG 139 139 0 5 f_s) (s_s_153 : SG 153 153 0 44 f_s) (s_s_44 : SG 44 55 0 9 f_s) (s_s_5 : SG 5 5 0 12 f_s) (s_s_6 : SG 6 6 0 12 f_s) (s_s_7 : SG 7 7 0 6 f_s) (s_undone_1 : SG 1 4 0 11 f_undone) (s_undone_10 : SG 10 10 0 5 f_undone) (s_undone_106 : SG 106 106 0 5 f_undone) (s_undone_121 : SG 121 124 0 11 f_undone) (s_undone_130 : SG 130 130 0 5 f_undone) (s_undone_145 : SG 145 148 0 11 f_undone) (s_undone_154 : SG 154 154 0 5 f_undone) (s_undone_169 : SG 169 172 0 11 f_undone) (s_undone_178 : SG 178 178 0 5 f_undone) (s_undone_25 : SG 25 28 0 11 f_undone) (s_undone_34 : SG 34 34 0 5 f_undone) (s_undone_49 : SG 49 52 0 11 f_undone) (s_undone_58 : SG 58 58 0 5 f_undone) (s_undone_73 : SG 73 76 0 11 f_undone) (s_undone_82 : SG 82 82 0 5 f_undone) (s_undone_97 : SG 97 100 0 11 f_undone) : CI l yX10_set cX10_set 3 (some .boolean) { frames := 2, cells := 0, slots := 0, locals := 43 } (GG D cI cJ cB cP cM cZ) D [(h0, .inr (10, vL 67 Fh)), (h_s, .inl (cI, 335, .inl f_s)), (h_undone, .inl (cI, 192, .inl f_undone))] sz [.ref h0, .int p0, .int p1] (fun (r : Int32) (u : va_W) => ∃ (Gh : Nat → Value) (y_undoMany : Int32) (g_s : Nat → Int32) (g_undone : Nat → Int32), SAME [0, 41] Fh Gh ∧ Gh 0 = .int 0 ∧ Gh 41 = .int y_undoMany ∧ IR 0 8 y_undoMany ∧ SG 153 153 0 44 g_s ∧ SG 0 0 0 40 g_s ∧ SG 5 5 0 12 g_s ∧ SG 6 6 0 12 g_s ∧ SG 7 7 0 6 g_s ∧ SG 44 55 0 9 g_s ∧ KW 0 g_s ∧ SG 105 108 0 11 g_s ∧ SG 114 114 0 5 g_s ∧ SG 130 133 0 11 g_s ∧ SG 139 139 0 5 g_s ∧ US bs g_s ∧ SG 1 4 0 11 g_undone ∧ SG 10 10 0 5 g_undone ∧ SG 25 28 0 11 g_undone ∧ SG 34 34 0 5 g_undone ∧ SG 49 52 0 11 g_undone ∧ SG 58 58 0 5 g_undone ∧ SG 73 76 0 11 g_undone ∧ SG 82 82 0 5 g_undone ∧ SG 97 100 0 11 g_undone ∧ SG 106 106 0 5 g_undone ∧ SG 121 124 0 11 g_undone ∧ SG 130 130 0 5 g_undone ∧ SG 145 148 0 11 g_undone ∧ SG 154 154 0 5 g_undone ∧ SG 169 172 0 11 g_undone ∧ SG 178 178 0 5 g_undone ∧ IR 0 1 r ∧ u = [(h0, .inr (10, vL 67 Gh)), (h_s, .inl (cI, 335, .inl g_s)), (h_undone, .inl (cI, 192, .inl g_undone))]) := by
  refine CI_mk (by decide) (Nat.le_of_ble_eq_true rfl) ?_
  intro p e s m below meth c A ls E hAe hG hsz hP hD hA hS hl
  obtain ⟨hx, hb, hr, hw, hown, hlocks, hml, hnm⟩ := E
  have hK := hG.1
  have i_x_undoMany : 0 ≤ x_undoMany.toInt ∧ x_undoMany.toInt ≤ 8 := i_x_undoMany
  have hl : lv_has ls 3 [(0, .ref h0), (1, .int p0), (2, .int p1)] := hl
  refine lv_aload_n hx hb dX10_set_0 rfl (lv_at hl 0 rfl) ?_
  refine lv_iconst (v := 0) hx hb dX10_set_1 (by decide) ?_
  refine put_f (D := D) (ci := 10) (v := .int 0) (ty := .int) (C := RX10) (T := TX10) (N := 67) hx hb hw inAX10 tyX10 tyX10_ok nmX10 hown hK hP hD hS 0 rfl rfl 0 (by decide) (hw _ q_1261) (fun _ h9 => h9) rfl (by decide +kernel) rfl rfl dX10_set_2 (fun H locs F1 eF1 hP hD hS => ?_)
  have hP : va_P D vwCl [(h0, .inr (10, vL 67 F1)), (h_s, .inl (cI, 335, .inl f_s)), (h_undone, .inl (cI, 192, .inl f_undone))] H := hP
  have hD : va_D A [(h0, .inr (10, vL 67 F1)), (h_s, .inl (cI, 335, .inl f_s)), (h_undone, .inl (cI, 192, .inl f_undone))] := hD
  refine lv_iload_n hx hb dX10_set_5 rfl (lv_at hl 1 rfl) ?_
  refine lv_if_ne (tgt := 35) hx hb dX10_set_6 (by decide) (fun c2 => ?_) (fun c2 => ?_)
  · have dc2 : p0.toInt ≠ 0 := ne_i (a := p0.toInt) (b := 0) rfl rfl c2
    refine lv_iload_n hx hb dX10_set_35 rfl (lv_at hl 1 rfl) ?_
    refine lv_iconst (v := 1) hx hb dX10_set_36 (by decide) ?_
    refine lv_icmp_ne (tgt := 64) hx hb dX10_set_37 (by decide) (fun c3 => ?_) (fun c3 => ?_)
    · have dc3 : p0.toInt ≠ 1 := ne_i (a := p0.toInt) (b := 1) rfl rfl c3
      refine lv_iload_n hx hb dX10_set_64 rfl (lv_at hl 1 rfl) ?_
      refine lv_iconst (v := 2) hx hb dX10_set_65 (by decide) ?_
      refine lv_icmp_ne (tgt := 93) hx hb dX10_set_66 (by decide) (fun c4 => ?_) (fun c4 => ?_)
      · have dc4 : p0.toInt ≠ 2 := ne_i (a := p0.toInt) (b := 2) rfl rfl c4
        refine lv_iconst (v := 0) hx hb dX10_set_93 (by decide) ?_
        exact ret_i (v := 0) hx hb hr hlocks hS hP hD dX10_set_94 rfl (Nat.le_of_ble_eq_true rfl) (Nat.le_of_ble_eq_true rfl) ⟨F1, x_undoMany, f_s, f_undone, (SAME.up eF1 SAME.rf (by decide)), (get_eq eF1), (get_ne eF1 (by decide) e_undoMany), i_x_undoMany, s_s_153, s_s_0, s_s_5, s_s_6, s_s_7, s_s_44, s_s_K0, s_s_105, s_s_114, s_s_130, s_s_139, s_s_US, s_undone_1, s_undone_10, s_undone_25, s_undone_34, s_undone_49, s_undone_58, s_undone_73, s_undone_82, s_undone_97, s_undone_106, s_undone_121, s_undone_130, s_undone_145, s_undone_154, s_undone_169, s_undone_178, (show 0 ≤ (0 : Int32).toInt ∧ (0 : Int32).toInt ≤ 1 by decide), rfl⟩
      · have dc4 : p0.toInt = 2 := eq_i (a := p0.toInt) (b := 2) rfl rfl c4
        have k5 : 2 ≤ p0.toInt ∧ p0.toInt ≤ 2 := ⟨Int.le_trans (Int.le_refl _) (Int.le_of_eq dc4.symm), Int.le_trans (Int.le_of_eq dc4) (Int.le_refl _)⟩
        refine lv_iload_n hx hb dX10_set_69 rfl (lv_at hl 2 rfl) ?_
        refine lv_iconst (v := 1) hx hb dX10_set_70 (by decide) ?_
        refine lv_bipush (v := 60) hx hb dX10_set_71 (by decide) ?_
        refine call_Si (wr := [(h0, .inr (10, vL 67 F1)), (h_s, .inl (cI, 335, .inl f_s)), (h_undone, .inl (cI, 192, .inl f_undone))]) (As := [.int p1, .int 1, .int 60]) (rest := []) hx hb hml hown hw (m_X10_isIn l D cI cJ cB cP cM cZ p1 1 60 _ ) wS_X10_211_X10_isIn dX10_set_73 hP hD hS hA [] [0, 1, 2] rfl rfl (by decide) (by decide) (by decide) GG.fb hG.at hl.1 rfl (Nat.le_of_ble_eq_true rfl) ⟨(Nat.le_of_ble_eq_true rfl), (Nat.le_of_ble_eq_true rfl)⟩ ⟨(Nat.le_of_ble_eq_true rfl), (Nat.le_of_ble_eq_true rfl)⟩ (fun r6 u H locs hp hP hD hS => ?_)
        have zl1 : (1 : Int32).toInt = 1 := by decide
        have zl60 : (60 : Int32).toInt = 60 := by decide
        rcases hp with ⟨t7, rfl, rfl⟩ | ⟨t8, t9, rfl, rfl⟩ | ⟨t10, t11, rfl, rfl⟩
        · have hP : va_P D vwCl [(h0, .inr (10, vL 67 F1)), (h_s, .inl (cI, 335, .inl f_s)), (h_undone, .inl (cI, 192, .inl f_undone))] H := hP
          have hD : va_D A [(h0, .inr (10, vL 67 F1)), (h_s, .inl (cI, 335, .inl f_s)), (h_undone, .inl (cI, 192, .inl f_undone))] := hD
          refine W.widen (k := 0) (n := 0) (Nat.le_of_ble_eq_true rfl) (Nat.le_of_ble_eq_true rfl) ?_
          have k13 : (-2147483648) ≤ p1.toInt ∧ p1.toInt ≤ 0 := ⟨(ir_any _).1, up_lt t7 (Int.le_refl _) (by decide)⟩
          refine lv_if_eq (tgt := 93) hx hb dX10_set_76 (by decide) (fun _ => ?_) (fun g => absurd (by decide) g)
          refine lv_iconst (v := 0) hx hb dX10_set_93 (by decide) ?_
          exact ret_i (v := 0) hx hb hr hlocks hS hP hD dX10_set_94 rfl (Nat.le_of_ble_eq_true rfl) (Nat.le_of_ble_eq_true rfl) ⟨F1, x_undoMany, f_s, f_undone, (SAME.up eF1 SAME.rf (by decide)), (get_eq eF1), (get_ne eF1 (by decide) e_undoMany), i_x_undoMany, s_s_153, s_s_0, s_s_5, s_s_6, s_s_7, s_s_44, s_s_K0, s_s_105, s_s_114, s_s_130, s_s_139, s_s_US, s_undone_1, s_undone_10, s_undone_25, s_undone_34, s_undone_49, s_undone_58, s_undone_73, s_undone_82, s_undone_97, s_undone_106, s_undone_121, s_undone_130, s_undone_145, s_undone_154, s_undone_169, s_undone_178, (show 0 ≤ (0 : Int32).toInt ∧ (0 : Int32).toInt ≤ 1 by decide), rfl⟩
        · have hP : va_P D vwCl [(h0, .inr (10, vL 67 F1)), (h_s, .inl (cI, 335, .inl f_s)), (h_undone, .inl (cI, 192, .inl f_undone))] H := hP
          have hD : va_D A [(h0, .inr (10, vL 67 F1)), (h_s, .inl (cI, 335, .inl f_s)), (h_undone, .inl (cI, 192, .inl f_undone))] := hD
          refine W.widen (k := 0) (n := 0) (Nat.le_of_ble_eq_true rfl) (Nat.le_of_ble_eq_true rfl) ?_
          have k14 : 1 ≤ p1.toInt ∧ p1.toInt ≤ 2147483647 := ⟨Int.le_trans (Int.le_refl _) t8, (ir_any _).2⟩
          have k15 : 61 ≤ p1.toInt ∧ p1.toInt ≤ 2147483647 := ⟨lo_lt t9 (Int.le_refl _) (by decide), k14.2⟩
          refine lv_if_eq (tgt := 93) hx hb dX10_set_76 (by decide) (fun _ => ?_) (fun g => absurd (by decide) g)
          refine lv_iconst (v := 0) hx hb dX10_set_93 (by decide) ?_
          exact ret_i (v := 0) hx hb hr hlocks hS hP hD dX10_set_94 rfl (Nat.le_of_ble_eq_true rfl) (Nat.le_of_ble_eq_true rfl) ⟨F1, x_undoMany, f_s, f_undone, (SAME.up eF1 SAME.rf (by decide)), (get_eq eF1), (get_ne eF1 (by decide) e_undoMany), i_x_undoMany, s_s_153, s_s_0, s_s_5, s_s_6, s_s_7, s_s_44, s_s_K0, s_s_105, s_s_114, s_s_130, s_s_139, s_s_US, s_undone_1, s_undone_10, s_undone_25, s_undone_34, s_undone_49, s_undone_58, s_undone_73, s_undone_82, s_undone_97, s_undone_106, s_undone_121, s_undone_130, s_undone_145, s_undone_154, s_undone_169, s_undone_178, (show 0 ≤ (0 : Int32).toInt ∧ (0 : Int32).toInt ≤ 1 by decide), rfl⟩
        · have hP : va_P D vwCl [(h0, .inr (10, vL 67 F1)), (h_s, .inl (cI, 335, .inl f_s)), (h_undone, .inl (cI, 192, .inl f_undone))] H := hP
          have hD : va_D A [(h0, .inr (10, vL 67 F1)), (h_s, .inl (cI, 335, .inl f_s)), (h_undone, .inl (cI, 192, .inl f_undone))] := hD
          refine W.widen (k := 0) (n := 0) (Nat.le_of_ble_eq_true rfl) (Nat.le_of_ble_eq_true rfl) ?_
          have k16 : 1 ≤ p1.toInt ∧ p1.toInt ≤ 2147483647 := ⟨Int.le_trans (Int.le_refl _) t10, (ir_any _).2⟩
          have k17 : 1 ≤ p1.toInt ∧ p1.toInt ≤ 60 := ⟨k16.1, Int.le_trans t11 (Int.le_refl _)⟩
          refine lv_if_eq (tgt := 93) hx hb dX10_set_76 (by decide) (fun g => absurd g (by decide)) (fun _ => ?_)
          refine lv_aload_n hx hb dX10_set_79 rfl (lv_at hl 0 rfl) ?_
          refine lv_bipush (v := 115) hx hb dX10_set_80 (by decide) ?_
          refine lv_iload_n hx hb dX10_set_82 rfl (lv_at hl 2 rfl) ?_
          have n18 : F1 6 = .ref h_s := (get_ne eF1 (by decide) e_s)
          have n19 : F1 39 = .ref h_undone := (get_ne eF1 (by decide) e_undone)
          have n20 : F1 41 = .int x_undoMany := (get_ne eF1 (by decide) e_undoMany)
          refine call_Vi (wr := []) (As := [.int 115, .int p1]) (rest := []) hx hb hml hown hw (m_X10_becomes l D cI cJ cB cP cM cZ h0 h_s h_undone F1 x_undoMany f_s f_undone 115 p1 bs _ n18 n19 n20 i_x_undoMany s_s_K0 s_s_US s_s_0 s_s_105 s_s_114 s_s_130 s_s_139 s_s_153 s_s_44 s_s_5 s_s_6 s_s_7 s_undone_1 s_undone_10 s_undone_106 s_undone_121 s_undone_130 s_undone_145 s_undone_154 s_undone_169 s_undone_178 s_undone_25 s_undone_34 s_undone_49 s_undone_58 s_undone_73 s_undone_82 s_undone_97 (show 0 ≤ (115 : Int32).toInt ∧ (115 : Int32).toInt ≤ 334 by decide) (by have z0 : (115 : Int32).toInt = 115 := rfl; omega)) wV_X10_374_X10_becomes dX10_set_83 hK hP hD hS hA [0, 1, 2] [] rfl rfl (by decide) (by decide) (by decide) 0 10 rfl rfl GG.fb hG.at hl.1 rfl (Nat.le_of_ble_eq_true rfl) ⟨(Nat.le_of_ble_eq_true rfl), (Nat.le_of_ble_eq_true rfl)⟩ ⟨(Nat.le_of_ble_eq_true rfl), (Nat.le_of_ble_eq_true rfl)⟩ (fun r21 u H locs hp hP hD hS => ?_)
          have zl115 : (115 : Int32).toInt = 115 := by decide
          refine hp.elim (fun F22 h9z0 => h9z0.elim (fun y23 h9z1 => h9z1.elim (fun g24 h9z2 => h9z2.elim (fun g25 h9z3 => h9z3.elim (fun t26 h9z4 => h9z4.elim (fun t27 h9z5 => h9z5.elim (fun t28 h9z6 => h9z6.elim (fun t29 h9z7 => h9z7.elim (fun t30 h9z8 => h9z8.elim (fun t31 h9z9 => h9z9.elim (fun t32 h9z10 => h9z10.elim (fun t33 h9z11 => h9z11.elim (fun t34 h9z12 => h9z12.elim (fun t35 h9z13 => h9z13.elim (fun t36 h9z14 => h9z14.elim (fun t37 h9z15 => h9z15.elim (fun t38 h9z16 => h9z16.elim (fun t39 h9z17 => h9z17.elim (fun t40 h9z18 => h9z18.elim (fun t41 h9z19 => h9z19.elim (fun t42 h9z20 => h9z20.elim (fun t43 h9z21 => h9z21.elim (fun t44 h9z22 => h9z22.elim (fun t45 h9z23 => h9z23.elim (fun t46 h9z24 => h9z24.elim (fun t47 h9z25 => h9z25.elim (fun t48 h9z26 => h9z26.elim (fun t49 h9z27 => h9z27.elim (fun t50 h9z28 => h9z28.elim (fun t51 h9z29 => h9z29.elim (fun t52 h9z30 => h9z30.elim (fun t53 h9z31 => h9z31.elim (fun t54 h9z32 => h9z32.elim (fun t55 h9z33 => h9z33.elim (fun t56 h9z34 => h9z34.elim (fun t57 h9z35 => ?_))))))))))))))))))))))))))))))))))))
          clear h9z0 h9z1 h9z2 h9z3 h9z4 h9z5 h9z6 h9z7 h9z8 h9z9 h9z10 h9z11 h9z12 h9z13 h9z14 h9z15 h9z16 h9z17 h9z18 h9z19 h9z20 h9z21 h9z22 h9z23 h9z24 h9z25 h9z26 h9z27 h9z28 h9z29 h9z30 h9z31 h9z32 h9z33 h9z34
          subst h9z35
          have hP : va_P D vwCl [(h0, .inr (10, vL 67 F22)), (h_s, .inl (cI, 335, .inl g24)), (h_undone, .inl (cI, 192, .inl g25))] H := hP
          have hD : va_D A [(h0, .inr (10, vL 67 F22)), (h_s, .inl (cI, 335, .inl g24)), (h_undone, .inl (cI, 192, .inl g25))] := hD
          refine W.widen (k := 0) (n := 0) (Nat.le_of_ble_eq_true rfl) (Nat.le_of_ble_eq_true rfl) ?_
          refine lv_if_eq (tgt := 93) hx hb dX10_set_86 (by decide) (fun c59 => ?_) (fun c59 => ?_)
          · have dc59 : r21.toInt = 0 := eq_i (a := r21.toInt) (b := 0) rfl rfl c59
            have k60 : 0 ≤ r21.toInt ∧ r21.toInt ≤ 0 := ⟨t57.1, Int.le_trans (Int.le_of_eq dc59) (Int.le_refl _)⟩
            refine lv_iconst (v := 0) hx hb dX10_set_93 (by decide) ?_
            exact ret_i (v := 0) hx hb hr hlocks hS hP hD dX10_set_94 rfl (Nat.le_of_ble_eq_true rfl) (Nat.le_of_ble_eq_true rfl) ⟨F22, y23, g24, g25, (SAME.tr (SAME.up eF1 SAME.rf (by decide)) t26 (by decide)), (SAME.at t26 (by decide) (get_eq eF1)), t27, t28, t29, t30, t31, t32, t33, t34, t35, t36, t37, t38, t39, t40, t41, t42, t43, t44, t45, t46, t47, t48, t49, t50, t51, t52, t53, t54, t55, t56, (show 0 ≤ (0 : Int32).toInt ∧ (0 : Int32).toInt ≤ 1 by decide), rfl⟩
          · have dc59 : r21.toInt ≠ 0 := ne_i (a := r21.toInt) (b := 0) rfl rfl c59
            have k61 : 1 ≤ r21.toInt ∧ r21.toInt ≤ 1 := ⟨ne_lo dc59 t57.1 ⟨Int.le_refl _, Int.le_refl _⟩ (by decide), t57.2⟩
            refine lv_iconst (v := 1) hx hb dX10_set_89 (by decide) ?_
            refine lv_goto (tgt := 94) hx hb dX10_set_90 (by decide) ?_
            exact ret_i (v := 1) hx hb hr hlocks hS hP hD dX10_set_94 rfl (Nat.le_of_ble_eq_true rfl) (Nat.le_of_ble_eq_true rfl) ⟨F22, y23, g24, g25, (SAME.tr (SAME.up eF1 SAME.rf (by decide)) t26 (by decide)), (SAME.at t26 (by decide) (get_eq eF1)), t27, t28, t29, t30, t31, t32, t33, t34, t35, t36, t37, t38, t39, t40, t41, t42, t43, t44, t45, t46, t47, t48, t49, t50, t51, t52, t53, t54, t55, t56, (show 0 ≤ (1 : Int32).toInt ∧ (1 : Int32).toInt ≤ 1 by decide), rfl⟩
    · have dc3 : p0.toInt = 1 := eq_i (a := p0.toInt) (b := 1) rfl rfl c3
      have k62 : 1 ≤ p0.toInt ∧ p0.toInt ≤ 1 := ⟨Int.le_trans (Int.le_refl _) (Int.le_of_eq dc3.symm), Int.le_trans (Int.le_of_eq dc3) (Int.le_refl _)⟩
      refine lv_aload_n hx hb dX10_set_40 rfl (lv_at hl 0 rfl) ?_
      refine lv_iload_n hx hb dX10_set_41 rfl (lv_at hl 2 rfl) ?_
      have n63 : F1 6 = .ref h_s := (get_ne eF1 (by decide) e_s)
      refine call_Vi (wr := [(h_undone, .inl (cI, 192, .inl f_undone))]) (As := [.int p1]) (rest := []) hx hb hml hown hw (m_X10_isRunner l D cI cJ cB cP cM cZ h0 h_s F1 f_s p1 bs _ n63 s_s_K0 s_s_US s_s_0 s_s_105 s_s_114 s_s_130 s_s_139 s_s_153 s_s_44 s_s_5 s_s_6 s_s_7) wV_X10_298_X10_isRunner dX10_set_42 hK hP hD hS hA [0, 1] [2] rfl rfl (by decide) (by decide) (by decide) 0 10 rfl rfl GG.fb hG.at hl.1 rfl (Nat.le_of_ble_eq_true rfl) ⟨(Nat.le_of_ble_eq_true rfl), (Nat.le_of_ble_eq_true rfl)⟩ ⟨(Nat.le_of_ble_eq_true rfl), (Nat.le_of_ble_eq_true rfl)⟩ (fun r64 u H locs hp hP hD hS => ?_)
      rcases hp with ⟨t65, rfl, rfl⟩ | ⟨t66, t67, rfl, rfl⟩ | ⟨t68, t69, rfl, rfl⟩
      · have hP : va_P D vwCl [(h_undone, .inl (cI, 192, .inl f_undone)), (h0, .inr (10, vL 67 F1)), (h_s, .inl (cI, 335, .inl f_s))] H := hP
        have hD : va_D A [(h_undone, .inl (cI, 192, .inl f_undone)), (h0, .inr (10, vL 67 F1)), (h_s, .inl (cI, 335, .inl f_s))] := hD
        refine W.widen (k := 0) (n := 0) (Nat.le_of_ble_eq_true rfl) (Nat.le_of_ble_eq_true rfl) ?_
        have k71 : (-2147483648) ≤ p1.toInt ∧ p1.toInt ≤ (-1) := ⟨(ir_any _).1, up_lt t65 (Int.le_refl _) (by decide)⟩
        refine lv_if_eq (tgt := 62) hx hb dX10_set_45 (by decide) (fun _ => ?_) (fun g => absurd (by decide) g)
        refine lv_iconst (v := 0) hx hb dX10_set_62 (by decide) ?_
        exact ret_i (v := 0) hx hb hr hlocks hS (hP.sub (ws' := [(h0, .inr (10, vL 67 F1)), (h_s, .inl (cI, 335, .inl f_s)), (h_undone, .inl (cI, 192, .inl f_undone))]) [1, 2, 0] rfl) (hD.sub (ws' := [(h0, .inr (10, vL 67 F1)), (h_s, .inl (cI, 335, .inl f_s)), (h_undone, .inl (cI, 192, .inl f_undone))]) [1, 2, 0] (by decide) rfl) dX10_set_63 rfl (Nat.le_of_ble_eq_true rfl) (Nat.le_of_ble_eq_true rfl) ⟨F1, x_undoMany, f_s, f_undone, (SAME.up eF1 SAME.rf (by decide)), (get_eq eF1), (get_ne eF1 (by decide) e_undoMany), i_x_undoMany, s_s_153, s_s_0, s_s_5, s_s_6, s_s_7, s_s_44, s_s_K0, s_s_105, s_s_114, s_s_130, s_s_139, s_s_US, s_undone_1, s_undone_10, s_undone_25, s_undone_34, s_undone_49, s_undone_58, s_undone_73, s_undone_82, s_undone_97, s_undone_106, s_undone_121, s_undone_130, s_undone_145, s_undone_154, s_undone_169, s_undone_178, (show 0 ≤ (0 : Int32).toInt ∧ (0 : Int32).toInt ≤ 1 by decide), rfl⟩
      · have hP : va_P D vwCl [(h_undone, .inl (cI, 192, .inl f_undone)), (h0, .inr (10, vL 67 F1)), (h_s, .inl (cI, 335, .inl f_s))] H := hP
        have hD : va_D A [(h_undone, .inl (cI, 192, .inl f_undone)), (h0, .inr (10, vL 67 F1)), (h_s, .inl (cI, 335, .inl f_s))] := hD
        refine W.widen (k := 0) (n := 0) (Nat.le_of_ble_eq_true rfl) (Nat.le_of_ble_eq_true rfl) ?_
        have k72 : 0 ≤ p1.toInt ∧ p1.toInt ≤ 2147483647 := ⟨Int.le_trans (Int.le_refl _) t66, (ir_any _).2⟩
        refine lv_if_eq (tgt := 62) hx hb dX10_set_45 (by decide) (fun _ => ?_) (fun g => absurd (by decide) g)
        refine lv_iconst (v := 0) hx hb dX10_set_62 (by decide) ?_
        exact ret_i (v := 0) hx hb hr hlocks hS (hP.sub (ws' := [(h0, .inr (10, vL 67 F1)), (h_s, .inl (cI, 335, .inl f_s)), (h_undone, .inl (cI, 192, .inl f_undone))]) [1, 2, 0] rfl) (hD.sub (ws' := [(h0, .inr (10, vL 67 F1)), (h_s, .inl (cI, 335, .inl f_s)), (h_undone, .inl (cI, 192, .inl f_undone))]) [1, 2, 0] (by decide) rfl) dX10_set_63 rfl (Nat.le_of_ble_eq_true rfl) (Nat.le_of_ble_eq_true rfl) ⟨F1, x_undoMany, f_s, f_undone, (SAME.up eF1 SAME.rf (by decide)), (get_eq eF1), (get_ne eF1 (by decide) e_undoMany), i_x_undoMany, s_s_153, s_s_0, s_s_5, s_s_6, s_s_7, s_s_44, s_s_K0, s_s_105, s_s_114, s_s_130, s_s_139, s_s_US, s_undone_1, s_undone_10, s_undone_25, s_undone_34, s_undone_49, s_undone_58, s_undone_73, s_undone_82, s_undone_97, s_undone_106, s_undone_121, s_undone_130, s_undone_145, s_undone_154, s_undone_169, s_undone_178, (show 0 ≤ (0 : Int32).toInt ∧ (0 : Int32).toInt ≤ 1 by decide), rfl⟩
      · have hP : va_P D vwCl [(h_undone, .inl (cI, 192, .inl f_undone)), (h0, .inr (10, vL 67 F1)), (h_s, .inl (cI, 335, .inl f_s))] H := hP
        have hD : va_D A [(h_undone, .inl (cI, 192, .inl f_undone)), (h0, .inr (10, vL 67 F1)), (h_s, .inl (cI, 335, .inl f_s))] := hD
        refine W.widen (k := 0) (n := 0) (Nat.le_of_ble_eq_true rfl) (Nat.le_of_ble_eq_true rfl) ?_
        have k73 : 0 ≤ p1.toInt ∧ p1.toInt ≤ 2147483647 := ⟨Int.le_trans (Int.le_refl _) t68, (ir_any _).2⟩
        have k74 : 0 ≤ p1.toInt ∧ p1.toInt ≤ 5 := ⟨k73.1, Int.le_trans t69 (Int.le_refl _)⟩
        refine lv_if_eq (tgt := 62) hx hb dX10_set_45 (by decide) (fun g => absurd g (by decide)) (fun _ => ?_)
        refine lv_aload_n hx hb dX10_set_48 rfl (lv_at hl 0 rfl) ?_
        refine lv_bipush (v := 114) hx hb dX10_set_49 (by decide) ?_
        refine lv_iload_n hx hb dX10_set_51 rfl (lv_at hl 2 rfl) ?_
        have n75 : F1 39 = .ref h_undone := (get_ne eF1 (by decide) e_undone)
        have n76 : F1 41 = .int x_undoMany := (get_ne eF1 (by decide) e_undoMany)
        refine call_Vi (wr := []) (As := [.int 114, .int p1]) (rest := []) hx hb hml hown hw (m_X10_becomes l D cI cJ cB cP cM cZ h0 h_s h_undone F1 x_undoMany f_s f_undone 114 p1 bs _ n63 n75 n76 i_x_undoMany s_s_K0 s_s_US s_s_0 s_s_105 s_s_114 s_s_130 s_s_139 s_s_153 s_s_44 s_s_5 s_s_6 s_s_7 s_undone_1 s_undone_10 s_undone_106 s_undone_121 s_undone_130 s_undone_145 s_undone_154 s_undone_169 s_undone_178 s_undone_25 s_undone_34 s_undone_49 s_undone_58 s_undone_73 s_undone_82 s_undone_97 (show 0 ≤ (114 : Int32).toInt ∧ (114 : Int32).toInt ≤ 334 by decide) (by have z0 : (114 : Int32).toInt = 114 := rfl; omega)) wV_X10_374_X10_becomes dX10_set_52 hK hP hD hS hA [1, 2, 0] [] rfl rfl (by decide) (by decide) (by decide) 0 10 rfl rfl GG.fb hG.at hl.1 rfl (Nat.le_of_ble_eq_true rfl) ⟨(Nat.le_of_ble_eq_true rfl), (Nat.le_of_ble_eq_true rfl)⟩ ⟨(Nat.le_of_ble_eq_true rfl), (Nat.le_of_ble_eq_true rfl)⟩ (fun r77 u H locs hp hP hD hS => ?_)
        have zl114 : (114 : Int32).toInt = 114 := by decide
        refine hp.elim (fun F78 h9z0 => h9z0.elim (fun y79 h9z1 => h9z1.elim (fun g80 h9z2 => h9z2.elim (fun g81 h9z3 => h9z3.elim (fun t82 h9z4 => h9z4.elim (fun t83 h9z5 => h9z5.elim (fun t84 h9z6 => h9z6.elim (fun t85 h9z7 => h9z7.elim (fun t86 h9z8 => h9z8.elim (fun t87 h9z9 => h9z9.elim (fun t88 h9z10 => h9z10.elim (fun t89 h9z11 => h9z11.elim (fun t90 h9z12 => h9z12.elim (fun t91 h9z13 => h9z13.elim (fun t92 h9z14 => h9z14.elim (fun t93 h9z15 => h9z15.elim (fun t94 h9z16 => h9z16.elim (fun t95 h9z17 => h9z17.elim (fun t96 h9z18 => h9z18.elim (fun t97 h9z19 => h9z19.elim (fun t98 h9z20 => h9z20.elim (fun t99 h9z21 => h9z21.elim (fun t100 h9z22 => h9z22.elim (fun t101 h9z23 => h9z23.elim (fun t102 h9z24 => h9z24.elim (fun t103 h9z25 => h9z25.elim (fun t104 h9z26 => h9z26.elim (fun t105 h9z27 => h9z27.elim (fun t106 h9z28 => h9z28.elim (fun t107 h9z29 => h9z29.elim (fun t108 h9z30 => h9z30.elim (fun t109 h9z31 => h9z31.elim (fun t110 h9z32 => h9z32.elim (fun t111 h9z33 => h9z33.elim (fun t112 h9z34 => h9z34.elim (fun t113 h9z35 => ?_))))))))))))))))))))))))))))))))))))
        clear h9z0 h9z1 h9z2 h9z3 h9z4 h9z5 h9z6 h9z7 h9z8 h9z9 h9z10 h9z11 h9z12 h9z13 h9z14 h9z15 h9z16 h9z17 h9z18 h9z19 h9z20 h9z21 h9z22 h9z23 h9z24 h9z25 h9z26 h9z27 h9z28 h9z29 h9z30 h9z31 h9z32 h9z33 h9z34
        subst h9z35
        have hP : va_P D vwCl [(h0, .inr (10, vL 67 F78)), (h_s, .inl (cI, 335, .inl g80)), (h_undone, .inl (cI, 192, .inl g81))] H := hP
        have hD : va_D A [(h0, .inr (10, vL 67 F78)), (h_s, .inl (cI, 335, .inl g80)), (h_undone, .inl (cI, 192, .inl g81))] := hD
        refine W.widen (k := 0) (n := 0) (Nat.le_of_ble_eq_true rfl) (Nat.le_of_ble_eq_true rfl) ?_
        refine lv_if_eq (tgt := 62) hx hb dX10_set_55 (by decide) (fun c115 => ?_) (fun c115 => ?_)
        · have dc115 : r77.toInt = 0 := eq_i (a := r77.toInt) (b := 0) rfl rfl c115
          have k116 : 0 ≤ r77.toInt ∧ r77.toInt ≤ 0 := ⟨t113.1, Int.le_trans (Int.le_of_eq dc115) (Int.le_refl _)⟩
          refine lv_iconst (v := 0) hx hb dX10_set_62 (by decide) ?_
          exact ret_i (v := 0) hx hb hr hlocks hS hP hD dX10_set_63 rfl (Nat.le_of_ble_eq_true rfl) (Nat.le_of_ble_eq_true rfl) ⟨F78, y79, g80, g81, (SAME.tr (SAME.up eF1 SAME.rf (by decide)) t82 (by decide)), (SAME.at t82 (by decide) (get_eq eF1)), t83, t84, t85, t86, t87, t88, t89, t90, t91, t92, t93, t94, t95, t96, t97, t98, t99, t100, t101, t102, t103, t104, t105, t106, t107, t108, t109, t110, t111, t112, (show 0 ≤ (0 : Int32).toInt ∧ (0 : Int32).toInt ≤ 1 by decide), rfl⟩
        · have dc115 : r77.toInt ≠ 0 := ne_i (a := r77.toInt) (b := 0) rfl rfl c115
          have k117 : 1 ≤ r77.toInt ∧ r77.toInt ≤ 1 := ⟨ne_lo dc115 t113.1 ⟨Int.le_refl _, Int.le_refl _⟩ (by decide), t113.2⟩
          refine lv_iconst (v := 1) hx hb dX10_set_58 (by decide) ?_
          refine lv_goto (tgt := 63) hx hb dX10_set_59 (by decide) ?_
          exact ret_i (v := 1) hx hb hr hlocks hS hP hD dX10_set_63 rfl (Nat.le_of_ble_eq_true rfl) (Nat.le_of_ble_eq_true rfl) ⟨F78, y79, g80, g81, (SAME.tr (SAME.up eF1 SAME.rf (by decide)) t82 (by decide)), (SAME.at t82 (by decide) (get_eq eF1)), t83, t84, t85, t86, t87, t88, t89, t90, t91, t92, t93, t94, t95, t96, t97, t98, t99, t100, t101, t102, t103, t104, t105, t106, t107, t108, t109, t110, t111, t112, (show 0 ≤ (1 : Int32).toInt ∧ (1 : Int32).toInt ≤ 1 by decide), rfl⟩
  · have dc2 : p0.toInt = 0 := eq_i (a := p0.toInt) (b := 0) rfl rfl c2
    have k118 : 0 ≤ p0.toInt ∧ p0.toInt ≤ 0 := ⟨Int.le_trans (Int.le_refl _) (Int.le_of_eq dc2.symm), Int.le_trans (Int.le_of_eq dc2) (Int.le_refl _)⟩
    refine lv_iload_n hx hb dX10_set_9 rfl (lv_at hl 2 rfl) ?_
    refine lv_iconst (v := 0) hx hb dX10_set_10 (by decide) ?_
    refine lv_bipush (v := 99) hx hb dX10_set_11 (by decide) ?_
    refine call_Si (wr := [(h0, .inr (10, vL 67 F1)), (h_s, .inl (cI, 335, .inl f_s)), (h_undone, .inl (cI, 192, .inl f_undone))]) (As := [.int p1, .int 0, .int 99]) (rest := []) hx hb hml hown hw (m_X10_isIn l D cI cJ cB cP cM cZ p1 0 99 _ ) wS_X10_211_X10_isIn dX10_set_13 hP hD hS hA [] [0, 1, 2] rfl rfl (by decide) (by decide) (by decide) GG.fb hG.at hl.1 rfl (Nat.le_of_ble_eq_true rfl) ⟨(Nat.le_of_ble_eq_true rfl), (Nat.le_of_ble_eq_true rfl)⟩ ⟨(Nat.le_of_ble_eq_true rfl), (Nat.le_of_ble_eq_true rfl)⟩ (fun r119 u H locs hp hP hD hS => ?_)
    have zl0 : (0 : Int32).toInt = 0 := by decide
    have zl99 : (99 : Int32).toInt = 99 := by decide
    rcases hp with ⟨t120, rfl, rfl⟩ | ⟨t121, t122, rfl, rfl⟩ | ⟨t123, t124, rfl, rfl⟩
    · have hP : va_P D vwCl [(h0, .inr (10, vL 67 F1)), (h_s, .inl (cI, 335, .inl f_s)), (h_undone, .inl (cI, 192, .inl f_undone))] H := hP
      have hD : va_D A [(h0, .inr (10, vL 67 F1)), (h_s, .inl (cI, 335, .inl f_s)), (h_undone, .inl (cI, 192, .inl f_undone))] := hD
      refine W.widen (k := 0) (n := 0) (Nat.le_of_ble_eq_true rfl) (Nat.le_of_ble_eq_true rfl) ?_
      have k126 : (-2147483648) ≤ p1.toInt ∧ p1.toInt ≤ (-1) := ⟨(ir_any _).1, up_lt t120 (Int.le_refl _) (by decide)⟩
      refine lv_if_eq (tgt := 33) hx hb dX10_set_16 (by decide) (fun _ => ?_) (fun g => absurd (by decide) g)
      refine lv_iconst (v := 0) hx hb dX10_set_33 (by decide) ?_
      exact ret_i (v := 0) hx hb hr hlocks hS hP hD dX10_set_34 rfl (Nat.le_of_ble_eq_true rfl) (Nat.le_of_ble_eq_true rfl) ⟨F1, x_undoMany, f_s, f_undone, (SAME.up eF1 SAME.rf (by decide)), (get_eq eF1), (get_ne eF1 (by decide) e_undoMany), i_x_undoMany, s_s_153, s_s_0, s_s_5, s_s_6, s_s_7, s_s_44, s_s_K0, s_s_105, s_s_114, s_s_130, s_s_139, s_s_US, s_undone_1, s_undone_10, s_undone_25, s_undone_34, s_undone_49, s_undone_58, s_undone_73, s_undone_82, s_undone_97, s_undone_106, s_undone_121, s_undone_130, s_undone_145, s_undone_154, s_undone_169, s_undone_178, (show 0 ≤ (0 : Int32).toInt ∧ (0 : Int32).toInt ≤ 1 by decide), rfl⟩
    · have hP : va_P D vwCl [(h0, .inr (10, vL 67 F1)), (h_s, .inl (cI, 335, .inl f_s)), (h_undone, .inl (cI, 192, .inl f_undone))] H := hP
      have hD : va_D A [(h0, .inr (10, vL 67 F1)), (h_s, .inl (cI, 335, .inl f_s)), (h_undone, .inl (cI, 192, .inl f_undone))] := hD
      refine W.widen (k := 0) (n := 0) (Nat.le_of_ble_eq_true rfl) (Nat.le_of_ble_eq_true rfl) ?_
      have k127 : 0 ≤ p1.toInt ∧ p1.toInt ≤ 2147483647 := ⟨Int.le_trans (Int.le_refl _) t121, (ir_any _).2⟩
      have k128 : 100 ≤ p1.toInt ∧ p1.toInt ≤ 2147483647 := ⟨lo_lt t122 (Int.le_refl _) (by decide), k127.2⟩
      refine lv_if_eq (tgt := 33) hx hb dX10_set_16 (by decide) (fun _ => ?_) (fun g => absurd (by decide) g)
      refine lv_iconst (v := 0) hx hb dX10_set_33 (by decide) ?_
      exact ret_i (v := 0) hx hb hr hlocks hS hP hD dX10_set_34 rfl (Nat.le_of_ble_eq_true rfl) (Nat.le_of_ble_eq_true rfl) ⟨F1, x_undoMany, f_s, f_undone, (SAME.up eF1 SAME.rf (by decide)), (get_eq eF1), (get_ne eF1 (by decide) e_undoMany), i_x_undoMany, s_s_153, s_s_0, s_s_5, s_s_6, s_s_7, s_s_44, s_s_K0, s_s_105, s_s_114, s_s_130, s_s_139, s_s_US, s_undone_1, s_undone_10, s_undone_25, s_undone_34, s_undone_49, s_undone_58, s_undone_73, s_undone_82, s_undone_97, s_undone_106, s_undone_121, s_undone_130, s_undone_145, s_undone_154, s_undone_169, s_undone_178, (show 0 ≤ (0 : Int32).toInt ∧ (0 : Int32).toInt ≤ 1 by decide), rfl⟩
    · have hP : va_P D vwCl [(h0, .inr (10, vL 67 F1)), (h_s, .inl (cI, 335, .inl f_s)), (h_undone, .inl (cI, 192, .inl f_undone))] H := hP
      have hD : va_D A [(h0, .inr (10, vL 67 F1)), (h_s, .inl (cI, 335, .inl f_s)), (h_undone, .inl (cI, 192, .inl f_undone))] := hD
      refine W.widen (k := 0) (n := 0) (Nat.le_of_ble_eq_true rfl) (Nat.le_of_ble_eq_true rfl) ?_
      have k129 : 0 ≤ p1.toInt ∧ p1.toInt ≤ 2147483647 := ⟨Int.le_trans (Int.le_refl _) t123, (ir_any _).2⟩
      have k130 : 0 ≤ p1.toInt ∧ p1.toInt ≤ 99 := ⟨k129.1, Int.le_trans t124 (Int.le_refl _)⟩
      refine lv_if_eq (tgt := 33) hx hb dX10_set_16 (by decide) (fun g => absurd g (by decide)) (fun _ => ?_)
      refine lv_aload_n hx hb dX10_set_19 rfl (lv_at hl 0 rfl) ?_
      refine lv_bipush (v := 113) hx hb dX10_set_20 (by decide) ?_
      refine lv_iload_n hx hb dX10_set_22 rfl (lv_at hl 2 rfl) ?_
      have n131 : F1 6 = .ref h_s := (get_ne eF1 (by decide) e_s)
      have n132 : F1 39 = .ref h_undone := (get_ne eF1 (by decide) e_undone)
      have n133 : F1 41 = .int x_undoMany := (get_ne eF1 (by decide) e_undoMany)
      refine call_Vi (wr := []) (As := [.int 113, .int p1]) (rest := []) hx hb hml hown hw (m_X10_becomes l D cI cJ cB cP cM cZ h0 h_s h_undone F1 x_undoMany f_s f_undone 113 p1 bs _ n131 n132 n133 i_x_undoMany s_s_K0 s_s_US s_s_0 s_s_105 s_s_114 s_s_130 s_s_139 s_s_153 s_s_44 s_s_5 s_s_6 s_s_7 s_undone_1 s_undone_10 s_undone_106 s_undone_121 s_undone_130 s_undone_145 s_undone_154 s_undone_169 s_undone_178 s_undone_25 s_undone_34 s_undone_49 s_undone_58 s_undone_73 s_undone_82 s_undone_97 (show 0 ≤ (113 : Int32).toInt ∧ (113 : Int32).toInt ≤ 334 by decide) (by have z0 : (113 : Int32).toInt = 113 := rfl; omega)) wV_X10_374_X10_becomes dX10_set_23 hK hP hD hS hA [0, 1, 2] [] rfl rfl (by decide) (by decide) (by decide) 0 10 rfl rfl GG.fb hG.at hl.1 rfl (Nat.le_of_ble_eq_true rfl) ⟨(Nat.le_of_ble_eq_true rfl), (Nat.le_of_ble_eq_true rfl)⟩ ⟨(Nat.le_of_ble_eq_true rfl), (Nat.le_of_ble_eq_true rfl)⟩ (fun r134 u H locs hp hP hD hS => ?_)
      have zl113 : (113 : Int32).toInt = 113 := by decide
      refine hp.elim (fun F135 h9z0 => h9z0.elim (fun y136 h9z1 => h9z1.elim (fun g137 h9z2 => h9z2.elim (fun g138 h9z3 => h9z3.elim (fun t139 h9z4 => h9z4.elim (fun t140 h9z5 => h9z5.elim (fun t141 h9z6 => h9z6.elim (fun t142 h9z7 => h9z7.elim (fun t143 h9z8 => h9z8.elim (fun t144 h9z9 => h9z9.elim (fun t145 h9z10 => h9z10.elim (fun t146 h9z11 => h9z11.elim (fun t147 h9z12 => h9z12.elim (fun t148 h9z13 => h9z13.elim (fun t149 h9z14 => h9z14.elim (fun t150 h9z15 => h9z15.elim (fun t151 h9z16 => h9z16.elim (fun t152 h9z17 => h9z17.elim (fun t153 h9z18 => h9z18.elim (fun t154 h9z19 => h9z19.elim (fun t155 h9z20 => h9z20.elim (fun t156 h9z21 => h9z21.elim (fun t157 h9z22 => h9z22.elim (fun t158 h9z23 => h9z23.elim (fun t159 h9z24 => h9z24.elim (fun t160 h9z25 => h9z25.elim (fun t161 h9z26 => h9z26.elim (fun t162 h9z27 => h9z27.elim (fun t163 h9z28 => h9z28.elim (fun t164 h9z29 => h9z29.elim (fun t165 h9z30 => h9z30.elim (fun t166 h9z31 => h9z31.elim (fun t167 h9z32 => h9z32.elim (fun t168 h9z33 => h9z33.elim (fun t169 h9z34 => h9z34.elim (fun t170 h9z35 => ?_))))))))))))))))))))))))))))))))))))
      clear h9z0 h9z1 h9z2 h9z3 h9z4 h9z5 h9z6 h9z7 h9z8 h9z9 h9z10 h9z11 h9z12 h9z13 h9z14 h9z15 h9z16 h9z17 h9z18 h9z19 h9z20 h9z21 h9z22 h9z23 h9z24 h9z25 h9z26 h9z27 h9z28 h9z29 h9z30 h9z31 h9z32 h9z33 h9z34
      subst h9z35
      have hP : va_P D vwCl [(h0, .inr (10, vL 67 F135)), (h_s, .inl (cI, 335, .inl g137)), (h_undone, .inl (cI, 192, .inl g138))] H := hP
      have hD : va_D A [(h0, .inr (10, vL 67 F135)), (h_s, .inl (cI, 335, .inl g137)), (h_undone, .inl (cI, 192, .inl g138))] := hD
      refine W.widen (k := 0) (n := 0) (Nat.le_of_ble_eq_true rfl) (Nat.le_of_ble_eq_true rfl) ?_
      refine lv_if_eq (tgt := 33) hx hb dX10_set_26 (by decide) (fun c172 => ?_) (fun c172 => ?_)
      · have dc172 : r134.toInt = 0 := eq_i (a := r134.toInt) (b := 0) rfl rfl c172
        have k173 : 0 ≤ r134.toInt ∧ r134.toInt ≤ 0 := ⟨t170.1, Int.le_trans (Int.le_of_eq dc172) (Int.le_refl _)⟩
        refine lv_iconst (v := 0) hx hb dX10_set_33 (by decide) ?_
        exact ret_i (v := 0) hx hb hr hlocks hS hP hD dX10_set_34 rfl (Nat.le_of_ble_eq_true rfl) (Nat.le_of_ble_eq_true rfl) ⟨F135, y136, g137, g138, (SAME.tr (SAME.up eF1 SAME.rf (by decide)) t139 (by decide)), (SAME.at t139 (by decide) (get_eq eF1)), t140, t141, t142, t143, t144, t145, t146, t147, t148, t149, t150, t151, t152, t153, t154, t155, t156, t157, t158, t159, t160, t161, t162, t163, t164, t165, t166, t167, t168, t169, (show 0 ≤ (0 : Int32).toInt ∧ (0 : Int32).toInt ≤ 1 by decide), rfl⟩
      · have dc172 : r134.toInt ≠ 0 := ne_i (a := r134.toInt) (b := 0) rfl rfl c172
        have k174 : 1 ≤ r134.toInt ∧ r134.toInt ≤ 1 := ⟨ne_lo dc172 t170.1 ⟨Int.le_refl _, Int.le_refl _⟩ (by decide), t170.2⟩
        refine lv_iconst (v := 1) hx hb dX10_set_29 (by decide) ?_
        refine lv_goto (tgt := 34) hx hb dX10_set_30 (by decide) ?_
        exact ret_i (v := 1) hx hb hr hlocks hS hP hD dX10_set_34 rfl (Nat.le_of_ble_eq_true rfl) (Nat.le_of_ble_eq_true rfl) ⟨F135, y136, g137, g138, (SAME.tr (SAME.up eF1 SAME.rf (by decide)) t139 (by decide)), (SAME.at t139 (by decide) (get_eq eF1)), t140, t141, t142, t143, t144, t145, t146, t147, t148, t149, t150, t151, t152, t153, t154, t155, t156, t157, t158, t159, t160, t161, t162, t163, t164, t165, t166, t167, t168, t169, (show 0 ≤ (1 : Int32).toInt ∧ (1 : Int32).toInt ≤ 1 by decide), rfl⟩
set_option maxHeartbeats 4000000 in
set_option maxRecDepth 100000 in
theorem m_X10_swap (l : Launch) (D : va_G) (cI cJ cB cP cM cZ : ClassId) (h0 : Nat) (h_s : Nat) (h_undone : Nat) (Fh : Nat → Value) (x_undoMany : Int32) (f_s : Nat → Int32) (f_undone : Nat → Int32) (p0 : Int32) (p1 : Int32) (bs : Nat → Int32) (sz : Nat) (e_s : Fh 6 = .ref h_s) (e_undone : Fh 39 = .ref h_undone) (e_undoMany : Fh 41 = .int x_undoMany) (i_x_undoMany : IR 0 8 x_undoMany) (s_s_K0 : KW 0 f_s) (s_s_US : US bs f_s) (s_s_0 : SG 0 0 0 40 f_s) (s_s_105 : SG 105 108 0 11 f_s) (s_s_114 : SG 114 114 0 5 f_s) (s_s_130 : SG 130 133 0 11 f_s) (s_s_139 : SG 139 139 0 5 f_s) (s_s_153 : SG 153 153 0 44 f_s) (s_s_44 : SG 44 55 0 9 f_s) (s_s_5 : SG 5 5 0 12 f_s) (s_s_6 : SG 6 6 0 12 f_s) (s_s_7 : SG 7 7 0 6 f_s) (s_undone_1 : SG 1 4 0 11 f_undone) (s_undone_10 : SG 10 10 0 5 f_undone) (s_undone_106 : SG 106 106 0 5 f_undone) (s_undone_121 : SG 121 124 0 11 f_undone) (s_undone_130 : SG 130 130 0 5 f_undone) (s_undone_145 : SG 145 148 0 11 f_undone) (s_undone_154 : SG 154 154 0 5 f_undone) (s_undone_169 : SG 169 172 0 11 f_undone) (s_undone_178 : SG 178 178 0 5 f_undone) (s_undone_25 : SG 25 28 0 11 f_undone) (s_undone_34 : SG 34 34 0 5 f_undone) (s_undone_49 : SG 49 52 0 11 f_undone) (s_undone_58 : SG 58 58 0 5 f_undone) (s_undone_73 : SG 73 76 0 11 f_undone) (s_undone_82 : SG 82 82 0 5 f_undone) (s_undone_97 : SG 97 100 0 11 f_undone) : CI l yX10_swap cX10_swap 5 (some .boolean) { frames := 1, cells := 0, slots := 0, locals := 22 } (GG D cI cJ cB cP cM cZ) D [(h0, .inr (10, vL 67 Fh)), (h_s, .inl (cI, 335, .inl f_s)), (h_undone, .inl (cI, 192, .inl f_undone))] sz [.ref h0, .int p0, .int p1] (fun (r : Int32) (u : va_W) => ∃ (Gh : Nat → Value) (y_undoMany : Int32) (g_s : Nat → Int32) (g_undone : Nat → Int32), SAME [0, 41] Fh Gh ∧ Gh 0 = .int 0 ∧ Gh 41 = .int y_undoMany ∧ IR 0 8 y_undoMany ∧ SG 153 153 0 44 g_s ∧ SG 0 0 0 40 g_s ∧ SG 5 5 0 12 g_s ∧ SG 6 6 0 12 g_s ∧ SG 7 7 0 6 g_s ∧ SG 44 55 0 9 g_s ∧ KW 0 g_s ∧ SG 105 108 0 11 g_s ∧ SG 114 114 0 5 g_s ∧ SG 130 133 0 11 g_s ∧ SG 139 139 0 5 g_s ∧ US bs g_s ∧ SG 1 4 0 11 g_undone ∧ SG 10 10 0 5 g_undone ∧ SG 25 28 0 11 g_undone ∧ SG 34 34 0 5 g_undone ∧ SG 49 52 0 11 g_undone ∧ SG 58 58 0 5 g_undone ∧ SG 73 76 0 11 g_undone ∧ SG 82 82 0 5 g_undone ∧ SG 97 100 0 11 g_undone ∧ SG 106 106 0 5 g_undone ∧ SG 121 124 0 11 g_undone ∧ SG 130 130 0 5 g_undone ∧ SG 145 148 0 11 g_undone ∧ SG 154 154 0 5 g_undone ∧ SG 169 172 0 11 g_undone ∧ SG 178 178 0 5 g_undone ∧ IR 0 1 r ∧ u = [(h0, .inr (10, vL 67 Gh)), (h_s, .inl (cI, 335, .inl g_s)), (h_undone, .inl (cI, 192, .inl g_undone))]) := by
  refine CI_mk (by decide) (Nat.le_of_ble_eq_true rfl) ?_
  intro p e s m below meth c A ls E hAe hG hsz hP hD hA hS hl
  obtain ⟨hx, hb, hr, hw, hown, hlocks, hml, hnm⟩ := E
  have hK := hG.1
  have i_x_undoMany : 0 ≤ x_undoMany.toInt ∧ x_undoMany.toInt ≤ 8 := i_x_undoMany
  have hl : lv_has ls 5 [(0, .ref h0), (1, .int p0), (2, .int p1)] := hl
  refine lv_aload_n hx hb dX10_swap_0 rfl (lv_at hl 0 rfl) ?_
  refine lv_iconst (v := 0) hx hb dX10_swap_1 (by decide) ?_
  refine put_f (D := D) (ci := 10) (v := .int 0) (ty := .int) (C := RX10) (T := TX10) (N := 67) hx hb hw inAX10 tyX10 tyX10_ok nmX10 hown hK hP hD hS 0 rfl rfl 0 (by decide) (hw _ q_1261) (fun _ h9 => h9) rfl (by decide +kernel) rfl rfl dX10_swap_2 (fun H locs F1 eF1 hP hD hS => ?_)
  have hP : va_P D vwCl [(h0, .inr (10, vL 67 F1)), (h_s, .inl (cI, 335, .inl f_s)), (h_undone, .inl (cI, 192, .inl f_undone))] H := hP
  have hD : va_D A [(h0, .inr (10, vL 67 F1)), (h_s, .inl (cI, 335, .inl f_s)), (h_undone, .inl (cI, 192, .inl f_undone))] := hD
  refine lv_aload_n hx hb dX10_swap_5 rfl (lv_at hl 0 rfl) ?_
  have n2 : F1 6 = .ref h_s := (get_ne eF1 (by decide) e_s)
  refine call_Vi (wr := [(h_undone, .inl (cI, 192, .inl f_undone))]) (As := []) (rest := []) hx hb hml hown hw (m_X10_hasCrew l D cI cJ cB cP cM cZ h0 h_s F1 f_s bs _ n2 s_s_K0 s_s_US s_s_0 s_s_105 s_s_114 s_s_130 s_s_139 s_s_153 s_s_44 s_s_5 s_s_6 s_s_7) wV_X10_281_X10_hasCrew dX10_swap_6 hK hP hD hS hA [0, 1] [2] rfl rfl (by decide) (by decide) (by decide) 0 10 rfl rfl GG.fb hG.at hl.1 rfl (Nat.le_of_ble_eq_true rfl) ⟨(Nat.le_of_ble_eq_true rfl), (Nat.le_of_ble_eq_true rfl)⟩ ⟨(Nat.le_of_ble_eq_true rfl), (Nat.le_of_ble_eq_true rfl)⟩ (fun r3 u H locs hp hP hD hS => ?_)
  rcases hp with ⟨rfl, rfl⟩ | ⟨rfl, rfl⟩
  · have hP : va_P D vwCl [(h_undone, .inl (cI, 192, .inl f_undone)), (h0, .inr (10, vL 67 F1)), (h_s, .inl (cI, 335, .inl f_s))] H := hP
    have hD : va_D A [(h_undone, .inl (cI, 192, .inl f_undone)), (h0, .inr (10, vL 67 F1)), (h_s, .inl (cI, 335, .inl f_s))] := hD
    refine W.widen (k := 0) (n := 0) (Nat.le_of_ble_eq_true rfl) (Nat.le_of_ble_eq_true rfl) ?_
    refine lv_if_eq (tgt := 35) hx hb dX10_swap_9 (by decide) (fun _ => ?_) (fun g => absurd (by decide) g)
    refine lv_iconst (v := 0) hx hb dX10_swap_35 (by decide) ?_
    exact ret_i (v := 0) hx hb hr hlocks hS (hP.sub (ws' := [(h0, .inr (10, vL 67 F1)), (h_s, .inl (cI, 335, .inl f_s)), (h_undone, .inl (cI, 192, .inl f_undone))]) [1, 2, 0] rfl) (hD.sub (ws' := [(h0, .inr (10, vL 67 F1)), (h_s, .inl (cI, 335, .inl f_s)), (h_undone, .inl (cI, 192, .inl f_undone))]) [1, 2, 0] (by decide) rfl) dX10_swap_36 rfl (Nat.le_of_ble_eq_true rfl) (Nat.le_of_ble_eq_true rfl) ⟨F1, x_undoMany, f_s, f_undone, (SAME.up eF1 SAME.rf (by decide)), (get_eq eF1), (get_ne eF1 (by decide) e_undoMany), i_x_undoMany, s_s_153, s_s_0, s_s_5, s_s_6, s_s_7, s_s_44, s_s_K0, s_s_105, s_s_114, s_s_130, s_s_139, s_s_US, s_undone_1, s_undone_10, s_undone_25, s_undone_34, s_undone_49, s_undone_58, s_undone_73, s_undone_82, s_undone_97, s_undone_106, s_undone_121, s_undone_130, s_undone_145, s_undone_154, s_undone_169, s_undone_178, (show 0 ≤ (0 : Int32).toInt ∧ (0 : Int32).toInt ≤ 1 by decide), rfl⟩
  · have hP : va_P D vwCl [(h_undone, .inl (cI, 192, .inl f_undone)), (h0, .inr (10, vL 67 F1)), (h_s, .inl (cI, 335, .inl f_s))] H := hP
    have hD : va_D A [(h_undone, .inl (cI, 192, .inl f_undone)), (h0, .inr (10, vL 67 F1)), (h_s, .inl (cI, 335, .inl f_s))] := hD
    refine W.widen (k := 0) (n := 0) (Nat.le_of_ble_eq_true rfl) (Nat.le_of_ble_eq_true rfl) ?_
    refine lv_if_eq (tgt := 35) hx hb dX10_swap_9 (by decide) (fun g => absurd g (by decide)) (fun _ => ?_)
    refine lv_iload_n hx hb dX10_swap_12 rfl (lv_at hl 1 rfl) ?_
    refine lv_iconst (v := 0) hx hb dX10_swap_13 (by decide) ?_
    refine lv_iconst (v := 3) hx hb dX10_swap_14 (by decide) ?_
    refine call_Si (wr := [(h_undone, .inl (cI, 192, .inl f_undone)), (h0, .inr (10, vL 67 F1)), (h_s, .inl (cI, 335, .inl f_s))]) (As := [.int p0, .int 0, .int 3]) (rest := []) hx hb hml hown hw (m_X10_isIn l D cI cJ cB cP cM cZ p0 0 3 _ ) wS_X10_211_X10_isIn dX10_swap_15 hP hD hS hA [] [0, 1, 2] rfl rfl (by decide) (by decide) (by decide) GG.fb hG.at hl.1 rfl (Nat.le_of_ble_eq_true rfl) ⟨(Nat.le_of_ble_eq_true rfl), (Nat.le_of_ble_eq_true rfl)⟩ ⟨(Nat.le_of_ble_eq_true rfl), (Nat.le_of_ble_eq_true rfl)⟩ (fun r5 u H locs hp hP hD hS => ?_)
    have zl0 : (0 : Int32).toInt = 0 := by decide
    have zl3 : (3 : Int32).toInt = 3 := by decide
    rcases hp with ⟨t6, rfl, rfl⟩ | ⟨t7, t8, rfl, rfl⟩ | ⟨t9, t10, rfl, rfl⟩
    · have hP : va_P D vwCl [(h_undone, .inl (cI, 192, .inl f_undone)), (h0, .inr (10, vL 67 F1)), (h_s, .inl (cI, 335, .inl f_s))] H := hP
      have hD : va_D A [(h_undone, .inl (cI, 192, .inl f_undone)), (h0, .inr (10, vL 67 F1)), (h_s, .inl (cI, 335, .inl f_s))] := hD
      refine W.widen (k := 0) (n := 0) (Nat.le_of_ble_eq_true rfl) (Nat.le_of_ble_eq_true rfl) ?_
      have k12 : (-2147483648) ≤ p0.toInt ∧ p0.toInt ≤ (-1) := ⟨(ir_any _).1, up_lt t6 (Int.le_refl _) (by decide)⟩
      refine lv_if_eq (tgt := 35) hx hb dX10_swap_18 (by decide) (fun _ => ?_) (fun g => absurd (by decide) g)
      refine lv_iconst (v := 0) hx hb dX10_swap_35 (by decide) ?_
      exact ret_i (v := 0) hx hb hr hlocks hS (hP.sub (ws' := [(h0, .inr (10, vL 67 F1)), (h_s, .inl (cI, 335, .inl f_s)), (h_undone, .inl (cI, 192, .inl f_undone))]) [1, 2, 0] rfl) (hD.sub (ws' := [(h0, .inr (10, vL 67 F1)), (h_s, .inl (cI, 335, .inl f_s)), (h_undone, .inl (cI, 192, .inl f_undone))]) [1, 2, 0] (by decide) rfl) dX10_swap_36 rfl (Nat.le_of_ble_eq_true rfl) (Nat.le_of_ble_eq_true rfl) ⟨F1, x_undoMany, f_s, f_undone, (SAME.up eF1 SAME.rf (by decide)), (get_eq eF1), (get_ne eF1 (by decide) e_undoMany), i_x_undoMany, s_s_153, s_s_0, s_s_5, s_s_6, s_s_7, s_s_44, s_s_K0, s_s_105, s_s_114, s_s_130, s_s_139, s_s_US, s_undone_1, s_undone_10, s_undone_25, s_undone_34, s_undone_49, s_undone_58, s_undone_73, s_undone_82, s_undone_97, s_undone_106, s_undone_121, s_undone_130, s_undone_145, s_undone_154, s_undone_169, s_undone_178, (show 0 ≤ (0 : Int32).toInt ∧ (0 : Int32).toInt ≤ 1 by decide), rfl⟩
    · have hP : va_P D vwCl [(h_undone, .inl (cI, 192, .inl f_undone)), (h0, .inr (10, vL 67 F1)), (h_s, .inl (cI, 335, .inl f_s))] H := hP
      have hD : va_D A [(h_undone, .inl (cI, 192, .inl f_undone)), (h0, .inr (10, vL 67 F1)), (h_s, .inl (cI, 335, .inl f_s))] := hD
      refine W.widen (k := 0) (n := 0) (Nat.le_of_ble_eq_true rfl) (Nat.le_of_ble_eq_true rfl) ?_
      have k13 : 0 ≤ p0.toInt ∧ p0.toInt ≤ 2147483647 := ⟨Int.le_trans (Int.le_refl _) t7, (ir_any _).2⟩
      have k14 : 4 ≤ p0.toInt ∧ p0.toInt ≤ 2147483647 := ⟨lo_lt t8 (Int.le_refl _) (by decide), k13.2⟩
      refine lv_if_eq (tgt := 35) hx hb dX10_swap_18 (by decide) (fun _ => ?_) (fun g => absurd (by decide) g)
      refine lv_iconst (v := 0) hx hb dX10_swap_35 (by decide) ?_
      exact ret_i (v := 0) hx hb hr hlocks hS (hP.sub (ws' := [(h0, .inr (10, vL 67 F1)), (h_s, .inl (cI, 335, .inl f_s)), (h_undone, .inl (cI, 192, .inl f_undone))]) [1, 2, 0] rfl) (hD.sub (ws' := [(h0, .inr (10, vL 67 F1)), (h_s, .inl (cI, 335, .inl f_s)), (h_undone, .inl (cI, 192, .inl f_undone))]) [1, 2, 0] (by decide) rfl) dX10_swap_36 rfl (Nat.le_of_ble_eq_true rfl) (Nat.le_of_ble_eq_true rfl) ⟨F1, x_undoMany, f_s, f_undone, (SAME.up eF1 SAME.rf (by decide)), (get_eq eF1), (get_ne eF1 (by decide) e_undoMany), i_x_undoMany, s_s_153, s_s_0, s_s_5, s_s_6, s_s_7, s_s_44, s_s_K0, s_s_105, s_s_114, s_s_130, s_s_139, s_s_US, s_undone_1, s_undone_10, s_undone_25, s_undone_34, s_undone_49, s_undone_58, s_undone_73, s_undone_82, s_undone_97, s_undone_106, s_undone_121, s_undone_130, s_undone_145, s_undone_154, s_undone_169, s_undone_178, (show 0 ≤ (0 : Int32).toInt ∧ (0 : Int32).toInt ≤ 1 by decide), rfl⟩
    · have hP : va_P D vwCl [(h_undone, .inl (cI, 192, .inl f_undone)), (h0, .inr (10, vL 67 F1)), (h_s, .inl (cI, 335, .inl f_s))] H := hP
      have hD : va_D A [(h_undone, .inl (cI, 192, .inl f_undone)), (h0, .inr (10, vL 67 F1)), (h_s, .inl (cI, 335, .inl f_s))] := hD
      refine W.widen (k := 0) (n := 0) (Nat.le_of_ble_eq_true rfl) (Nat.le_of_ble_eq_true rfl) ?_
      have k15 : 0 ≤ p0.toInt ∧ p0.toInt ≤ 2147483647 := ⟨Int.le_trans (Int.le_refl _) t9, (ir_any _).2⟩
      have k16 : 0 ≤ p0.toInt ∧ p0.toInt ≤ 3 := ⟨k15.1, Int.le_trans t10 (Int.le_refl _)⟩
      refine lv_if_eq (tgt := 35) hx hb dX10_swap_18 (by decide) (fun g => absurd g (by decide)) (fun _ => ?_)
      refine lv_iload_n hx hb dX10_swap_21 rfl (lv_at hl 2 rfl) ?_
      refine lv_iconst (v := 0) hx hb dX10_swap_22 (by decide) ?_
      refine lv_iconst (v := 3) hx hb dX10_swap_23 (by decide) ?_
      refine call_Si (wr := [(h_undone, .inl (cI, 192, .inl f_undone)), (h0, .inr (10, vL 67 F1)), (h_s, .inl (cI, 335, .inl f_s))]) (As := [.int p1, .int 0, .int 3]) (rest := []) hx hb hml hown hw (m_X10_isIn l D cI cJ cB cP cM cZ p1 0 3 _ ) wS_X10_211_X10_isIn dX10_swap_24 hP hD hS hA [] [0, 1, 2] rfl rfl (by decide) (by decide) (by decide) GG.fb hG.at hl.1 rfl (Nat.le_of_ble_eq_true rfl) ⟨(Nat.le_of_ble_eq_true rfl), (Nat.le_of_ble_eq_true rfl)⟩ ⟨(Nat.le_of_ble_eq_true rfl), (Nat.le_of_ble_eq_true rfl)⟩ (fun r17 u H locs hp hP hD hS => ?_)
      rcases hp with ⟨t18, rfl, rfl⟩ | ⟨t19, t20, rfl, rfl⟩ | ⟨t21, t22, rfl, rfl⟩
      · have hP : va_P D vwCl [(h_undone, .inl (cI, 192, .inl f_undone)), (h0, .inr (10, vL 67 F1)), (h_s, .inl (cI, 335, .inl f_s))] H := hP
        have hD : va_D A [(h_undone, .inl (cI, 192, .inl f_undone)), (h0, .inr (10, vL 67 F1)), (h_s, .inl (cI, 335, .inl f_s))] := hD
        refine W.widen (k := 0) (n := 0) (Nat.le_of_ble_eq_true rfl) (Nat.le_of_ble_eq_true rfl) ?_
        have k24 : (-2147483648) ≤ p1.toInt ∧ p1.toInt ≤ (-1) := ⟨(ir_any _).1, up_lt t18 (Int.le_refl _) (by decide)⟩
        refine lv_if_eq (tgt := 35) hx hb dX10_swap_27 (by decide) (fun _ => ?_) (fun g => absurd (by decide) g)
        refine lv_iconst (v := 0) hx hb dX10_swap_35 (by decide) ?_
        exact ret_i (v := 0) hx hb hr hlocks hS (hP.sub (ws' := [(h0, .inr (10, vL 67 F1)), (h_s, .inl (cI, 335, .inl f_s)), (h_undone, .inl (cI, 192, .inl f_undone))]) [1, 2, 0] rfl) (hD.sub (ws' := [(h0, .inr (10, vL 67 F1)), (h_s, .inl (cI, 335, .inl f_s)), (h_undone, .inl (cI, 192, .inl f_undone))]) [1, 2, 0] (by decide) rfl) dX10_swap_36 rfl (Nat.le_of_ble_eq_true rfl) (Nat.le_of_ble_eq_true rfl) ⟨F1, x_undoMany, f_s, f_undone, (SAME.up eF1 SAME.rf (by decide)), (get_eq eF1), (get_ne eF1 (by decide) e_undoMany), i_x_undoMany, s_s_153, s_s_0, s_s_5, s_s_6, s_s_7, s_s_44, s_s_K0, s_s_105, s_s_114, s_s_130, s_s_139, s_s_US, s_undone_1, s_undone_10, s_undone_25, s_undone_34, s_undone_49, s_undone_58, s_undone_73, s_undone_82, s_undone_97, s_undone_106, s_undone_121, s_undone_130, s_undone_145, s_undone_154, s_undone_169, s_undone_178, (show 0 ≤ (0 : Int32).toInt ∧ (0 : Int32).toInt ≤ 1 by decide), rfl⟩
      · have hP : va_P D vwCl [(h_undone, .inl (cI, 192, .inl f_undone)), (h0, .inr (10, vL 67 F1)), (h_s, .inl (cI, 335, .inl f_s))] H := hP
        have hD : va_D A [(h_undone, .inl (cI, 192, .inl f_undone)), (h0, .inr (10, vL 67 F1)), (h_s, .inl (cI, 335, .inl f_s))] := hD
        refine W.widen (k := 0) (n := 0) (Nat.le_of_ble_eq_true rfl) (Nat.le_of_ble_eq_true rfl) ?_
        have k25 : 0 ≤ p1.toInt ∧ p1.toInt ≤ 2147483647 := ⟨Int.le_trans (Int.le_refl _) t19, (ir_any _).2⟩
        have k26 : 4 ≤ p1.toInt ∧ p1.toInt ≤ 2147483647 := ⟨lo_lt t20 (Int.le_refl _) (by decide), k25.2⟩
        refine lv_if_eq (tgt := 35) hx hb dX10_swap_27 (by decide) (fun _ => ?_) (fun g => absurd (by decide) g)
        refine lv_iconst (v := 0) hx hb dX10_swap_35 (by decide) ?_
        exact ret_i (v := 0) hx hb hr hlocks hS (hP.sub (ws' := [(h0, .inr (10, vL 67 F1)), (h_s, .inl (cI, 335, .inl f_s)), (h_undone, .inl (cI, 192, .inl f_undone))]) [1, 2, 0] rfl) (hD.sub (ws' := [(h0, .inr (10, vL 67 F1)), (h_s, .inl (cI, 335, .inl f_s)), (h_undone, .inl (cI, 192, .inl f_undone))]) [1, 2, 0] (by decide) rfl) dX10_swap_36 rfl (Nat.le_of_ble_eq_true rfl) (Nat.le_of_ble_eq_true rfl) ⟨F1, x_undoMany, f_s, f_undone, (SAME.up eF1 SAME.rf (by decide)), (get_eq eF1), (get_ne eF1 (by decide) e_undoMany), i_x_undoMany, s_s_153, s_s_0, s_s_5, s_s_6, s_s_7, s_s_44, s_s_K0, s_s_105, s_s_114, s_s_130, s_s_139, s_s_US, s_undone_1, s_undone_10, s_undone_25, s_undone_34, s_undone_49, s_undone_58, s_undone_73, s_undone_82, s_undone_97, s_undone_106, s_undone_121, s_undone_130, s_undone_145, s_undone_154, s_undone_169, s_undone_178, (show 0 ≤ (0 : Int32).toInt ∧ (0 : Int32).toInt ≤ 1 by decide), rfl⟩
      · have hP : va_P D vwCl [(h_undone, .inl (cI, 192, .inl f_undone)), (h0, .inr (10, vL 67 F1)), (h_s, .inl (cI, 335, .inl f_s))] H := hP
        have hD : va_D A [(h_undone, .inl (cI, 192, .inl f_undone)), (h0, .inr (10, vL 67 F1)), (h_s, .inl (cI, 335, .inl f_s))] := hD
        refine W.widen (k := 0) (n := 0) (Nat.le_of_ble_eq_true rfl) (Nat.le_of_ble_eq_true rfl) ?_
        have k27 : 0 ≤ p1.toInt ∧ p1.toInt ≤ 2147483647 := ⟨Int.le_trans (Int.le_refl _) t21, (ir_any _).2⟩
        have k28 : 0 ≤ p1.toInt ∧ p1.toInt ≤ 3 := ⟨k27.1, Int.le_trans t22 (Int.le_refl _)⟩
        refine lv_if_eq (tgt := 35) hx hb dX10_swap_27 (by decide) (fun g => absurd g (by decide)) (fun _ => ?_)
        refine lv_iload_n hx hb dX10_swap_30 rfl (lv_at hl 1 rfl) ?_
        refine lv_iload_n hx hb dX10_swap_31 rfl (lv_at hl 2 rfl) ?_
        refine lv_icmp_ne (tgt := 37) hx hb dX10_swap_32 (by decide) (fun c29 => ?_) (fun c29 => ?_)
        · have dc29 : p0.toInt ≠ p1.toInt := ne_i (a := p0.toInt) (b := p1.toInt) rfl rfl c29
          refine lv_aload_n hx hb dX10_swap_37 rfl (lv_at hl 0 rfl) ?_
          have n30 : F1 39 = .ref h_undone := (get_ne eF1 (by decide) e_undone)
          have n31 : F1 41 = .int x_undoMany := (get_ne eF1 (by decide) e_undoMany)
          refine call_Vv (wr := []) (As := []) (rest := []) hx hb hml hown hw (m_X10_keeps l D cI cJ cB cP cM cZ h0 h_s h_undone F1 x_undoMany f_s f_undone bs _ n2 n30 n31 i_x_undoMany s_s_K0 s_s_US s_s_0 s_s_105 s_s_114 s_s_130 s_s_139 s_s_153 s_s_44 s_s_5 s_s_6 s_s_7 s_undone_1 s_undone_10 s_undone_106 s_undone_121 s_undone_130 s_undone_145 s_undone_154 s_undone_169 s_undone_178 s_undone_25 s_undone_34 s_undone_49 s_undone_58 s_undone_73 s_undone_82 s_undone_97) wV_X10_371_X10_keeps dX10_swap_38 hK hP hD hS hA [1, 2, 0] [] rfl rfl (by decide) (by decide) (by decide) 0 10 rfl rfl GG.fb hG.at hl.1 rfl (Nat.le_of_ble_eq_true rfl) ⟨(Nat.le_of_ble_eq_true rfl), (Nat.le_of_ble_eq_true rfl)⟩ ⟨(Nat.le_of_ble_eq_true rfl), (Nat.le_of_ble_eq_true rfl)⟩ (fun u H locs hp hP hD hS => ?_)
          obtain ⟨F33, y34, g35, t36, t37, t38, t39, t40, t41, t42, t43, t44, t45, t46, t47, t48, t49, t50, t51, t52, t53, t54, rfl⟩ := hp
          have hP : va_P D vwCl [(h0, .inr (10, vL 67 F33)), (h_s, .inl (cI, 335, .inl f_s)), (h_undone, .inl (cI, 192, .inl g35))] H := hP
          have hD : va_D A [(h0, .inr (10, vL 67 F33)), (h_s, .inl (cI, 335, .inl f_s)), (h_undone, .inl (cI, 192, .inl g35))] := hD
          refine W.widen (k := 0) (n := 0) (Nat.le_of_ble_eq_true rfl) (Nat.le_of_ble_eq_true rfl) ?_
          refine lv_aload_n hx hb dX10_swap_41 rfl (lv_at hl 0 rfl) ?_
          have n56 : F33 6 = .ref h_s := (SAME.at t36 (by decide) n2)
          refine get_f (D := D) (ci := 10) (v := .ref h_s) (C := RX10) (T := TX10) (N := 67) hx hb hw inAX10 hown hK hP 0 rfl rfl 6 (by decide) (hw _ q_1267) (fun _ h9 => h9) n56 dX10_swap_42 ?_
          refine lv_bipush (v := 105) hx hb dX10_swap_45 (by decide) ?_
          refine lv_iload_n hx hb dX10_swap_47 rfl (lv_at hl 1 rfl) ?_
          refine lv_iadd hx hb dX10_swap_48 ?_
          refine lv_topi (fun v57 ev57 => ?_)
          have bv57 : v57.toInt = 105 + p0.toInt := by rw [ev57]; exact add_k rfl rfl ⟨Int.le_refl _, Int.le_refl _⟩ k16 (by decide)
          have k58 : 105 ≤ v57.toInt ∧ v57.toInt ≤ 108 := add_r bv57 ⟨Int.le_refl _, Int.le_refl _⟩ k16 (by decide)
          refine va_iald hx hb hK hP 1 0 rfl rfl (ix_k k58 (by decide) (by decide)) dX10_swap_49 ?_
          refine lv_topi (fun v59 ev59 => ?_)
          have k60 : 0 ≤ v59.toInt ∧ v59.toInt ≤ 11 := by rw [ev59]; exact s_s_105.at _ (Int.le_trans (by decide) k58.1) (Int.le_trans k58.2 (by decide))
          refine lv_istore_n (lv' := [(3, .int v59), (0, .ref h0), (1, .int p0), (2, .int p1)]) hx hb dX10_swap_50 rfl hl (by decide) rfl (fun ls hl => ?_)
          refine lv_aload_n hx hb dX10_swap_51 rfl (lv_at hl 1 rfl) ?_
          refine get_f (D := D) (ci := 10) (v := .ref h_s) (C := RX10) (T := TX10) (N := 67) hx hb hw inAX10 hown hK hP 0 rfl rfl 6 (by decide) (hw _ q_1267) (fun _ h9 => h9) n56 dX10_swap_52 ?_
          refine lv_bipush (v := 109) hx hb dX10_swap_55 (by decide) ?_
          refine lv_iload_n hx hb dX10_swap_57 rfl (lv_at hl 2 rfl) ?_
          refine lv_iadd hx hb dX10_swap_58 ?_
          refine lv_topi (fun v61 ev61 => ?_)
          have bv61 : v61.toInt = 109 + p0.toInt := by rw [ev61]; exact add_k rfl rfl ⟨Int.le_refl _, Int.le_refl _⟩ k16 (by decide)
          have k62 : 109 ≤ v61.toInt ∧ v61.toInt ≤ 112 := add_r bv61 ⟨Int.le_refl _, Int.le_refl _⟩ k16 (by decide)
          refine va_iald hx hb hK hP 1 0 rfl rfl (ix_k k62 (by decide) (by decide)) dX10_swap_59 ?_
          refine lv_topi (fun v63 ev63 => ?_)
          refine lv_istore (lv' := [(4, .int v63), (3, .int v59), (0, .ref h0), (1, .int p0), (2, .int p1)]) hx hb dX10_swap_60 hl (by decide) rfl (fun ls hl => ?_)
          refine lv_aload_n hx hb dX10_swap_62 rfl (lv_at hl 2 rfl) ?_
          refine get_f (D := D) (ci := 10) (v := .ref h_s) (C := RX10) (T := TX10) (N := 67) hx hb hw inAX10 hown hK hP 0 rfl rfl 6 (by decide) (hw _ q_1267) (fun _ h9 => h9) n56 dX10_swap_63 ?_
          refine lv_bipush (v := 105) hx hb dX10_swap_66 (by decide) ?_
          refine lv_iload_n hx hb dX10_swap_68 rfl (lv_at hl 3 rfl) ?_
          refine lv_iadd hx hb dX10_swap_69 ?_
          refine lv_ci (y := v57) ev57.symm ?_
          refine lv_aload_n hx hb dX10_swap_70 rfl (lv_at hl 2 rfl) ?_
          refine get_f (D := D) (ci := 10) (v := .ref h_s) (C := RX10) (T := TX10) (N := 67) hx hb hw inAX10 hown hK hP 0 rfl rfl 6 (by decide) (hw _ q_1267) (fun _ h9 => h9) n56 dX10_swap_71 ?_
          refine lv_bipush (v := 105) hx hb dX10_swap_74 (by decide) ?_
          refine lv_iload_n hx hb dX10_swap_76 rfl (lv_at hl 4 rfl) ?_
          refine lv_iadd hx hb dX10_swap_77 ?_
          refine lv_topi (fun v64 ev64 => ?_)
          have bv64 : v64.toInt = 105 + p1.toInt := by rw [ev64]; exact add_k rfl rfl ⟨Int.le_refl _, Int.le_refl _⟩ k28 (by decide)
          have k65 : 105 ≤ v64.toInt ∧ v64.toInt ≤ 108 := add_r bv64 ⟨Int.le_refl _, Int.le_refl _⟩ k28 (by decide)
          refine va_iald hx hb hK hP 1 0 rfl rfl (ix_k k65 (by decide) (by decide)) dX10_swap_78 ?_
          refine lv_topi (fun v66 ev66 => ?_)
          have k67 : 0 ≤ v66.toInt ∧ v66.toInt ≤ 11 := by rw [ev66]; exact s_s_105.at _ (Int.le_trans (by decide) k65.1) (Int.le_trans k65.2 (by decide))
          obtain ⟨g68, eg68⟩ : ∃ z : Nat → Int32, upd f_s v57.toNatClampNeg v66 = z := ⟨_, rfl⟩
          have r69 : KW 0 g68 := by rw [← eg68]; exact s_s_K0.up (Int.le_trans (by decide) k58.1) (Or.inl (lt_dec k58.2 (by decide)))
          have r70 : US bs g68 := by rw [← eg68]; exact US.up s_s_US (Int.le_trans (by decide) k58.1)
          have r71 : SG 0 0 0 40 g68 := by rw [← eg68]; exact s_s_0.up (Int.le_trans (by decide) k58.1) (Or.inr (Or.inr (ir_wk k67 (by decide) (by decide))))
          have r72 : SG 105 108 0 11 g68 := by rw [← eg68]; exact s_s_105.up (Int.le_trans (by decide) k58.1) (Or.inr (Or.inr (ir_wk k67 (by decide) (by decide))))
          have r73 : SG 114 114 0 5 g68 := by rw [← eg68]; exact s_s_114.up (Int.le_trans (by decide) k58.1) (Or.inl (lt_dec k58.2 (by decide)))
          have r74 : SG 130 133 0 11 g68 := by rw [← eg68]; exact s_s_130.up (Int.le_trans (by decide) k58.1) (Or.inr (Or.inr (ir_wk k67 (by decide) (by decide))))
          have r75 : SG 139 139 0 5 g68 := by rw [← eg68]; exact s_s_139.up (Int.le_trans (by decide) k58.1) (Or.inl (lt_dec k58.2 (by decide)))
          have r76 : SG 153 153 0 44 g68 := by rw [← eg68]; exact s_s_153.up (Int.le_trans (by decide) k58.1) (Or.inr (Or.inr (ir_wk k67 (by decide) (by decide))))
          have r77 : SG 44 55 0 9 g68 := by rw [← eg68]; exact s_s_44.up (Int.le_trans (by decide) k58.1) (Or.inr (Or.inl (dec_lt k58.1 (by decide))))
          have r78 : SG 5 5 0 12 g68 := by rw [← eg68]; exact s_s_5.up (Int.le_trans (by decide) k58.1) (Or.inr (Or.inr (ir_wk k67 (by decide) (by decide))))
          have r79 : SG 6 6 0 12 g68 := by rw [← eg68]; exact s_s_6.up (Int.le_trans (by decide) k58.1) (Or.inr (Or.inr (ir_wk k67 (by decide) (by decide))))
          have r80 : SG 7 7 0 6 g68 := by rw [← eg68]; exact s_s_7.up (Int.le_trans (by decide) k58.1) (Or.inr (Or.inl (dec_lt k58.1 (by decide))))
          refine iast_g hx hb hK hP hD hS 1 0 rfl rfl (ix_k k58 (by decide) (by decide)) eg68 dX10_swap_79 (fun H locs hP hD hS => ?_)
          have hP : va_P D vwCl [(h0, .inr (10, vL 67 F33)), (h_s, .inl (cI, 335, .inl g68)), (h_undone, .inl (cI, 192, .inl g35))] H := hP
          have hD : va_D A [(h0, .inr (10, vL 67 F33)), (h_s, .inl (cI, 335, .inl g68)), (h_undone, .inl (cI, 192, .inl g35))] := hD
          refine lv_aload_n hx hb dX10_swap_80 rfl (lv_at hl 2 rfl) ?_
          refine get_f (D := D) (ci := 10) (v := .ref h_s) (C := RX10) (T := TX10) (N := 67) hx hb hw inAX10 hown hK hP 0 rfl rfl 6 (by decide) (hw _ q_1267) (fun _ h9 => h9) n56 dX10_swap_81 ?_
          refine lv_bipush (v := 109) hx hb dX10_swap_84 (by decide) ?_
          refine lv_iload_n hx hb dX10_swap_86 rfl (lv_at hl 3 rfl) ?_
          refine lv_iadd hx hb dX10_swap_87 ?_
          refine lv_ci (y := v61) ev61.symm ?_
          refine lv_aload_n hx hb dX10_swap_88 rfl (lv_at hl 2 rfl) ?_
          refine get_f (D := D) (ci := 10) (v := .ref h_s) (C := RX10) (T := TX10) (N := 67) hx hb hw inAX10 hown hK hP 0 rfl rfl 6 (by decide) (hw _ q_1267) (fun _ h9 => h9) n56 dX10_swap_89 ?_
          refine lv_bipush (v := 109) hx hb dX10_swap_92 (by decide) ?_
          refine lv_iload_n hx hb dX10_swap_94 rfl (lv_at hl 4 rfl) ?_
          refine lv_iadd hx hb dX10_swap_95 ?_
          refine lv_topi (fun v81 ev81 => ?_)
          have bv81 : v81.toInt = 109 + p1.toInt := by rw [ev81]; exact add_k rfl rfl ⟨Int.le_refl _, Int.le_refl _⟩ k28 (by decide)
          have k82 : 109 ≤ v81.toInt ∧ v81.toInt ≤ 112 := add_r bv81 ⟨Int.le_refl _, Int.le_refl _⟩ k28 (by decide)
          refine va_iald hx hb hK hP 1 0 rfl rfl (ix_k k82 (by decide) (by decide)) dX10_swap_96 ?_
          refine lv_topi (fun v83 ev83 => ?_)
          obtain ⟨g84, eg84⟩ : ∃ z : Nat → Int32, upd g68 v61.toNatClampNeg v83 = z := ⟨_, rfl⟩
          have r85 : KW 0 g84 := by rw [← eg84]; exact r69.up (Int.le_trans (by decide) k62.1) (Or.inl (lt_dec k62.2 (by decide)))
          have r86 : US bs g84 := by rw [← eg84]; exact US.up r70 (Int.le_trans (by decide) k62.1)
          have r87 : SG 0 0 0 40 g84 := by rw [← eg84]; exact r71.up (Int.le_trans (by decide) k62.1) (Or.inr (Or.inl (dec_lt k62.1 (by decide))))
          have r88 : SG 105 108 0 11 g84 := by rw [← eg84]; exact r72.up (Int.le_trans (by decide) k62.1) (Or.inr (Or.inl (dec_lt k62.1 (by decide))))
          have r89 : SG 114 114 0 5 g84 := by rw [← eg84]; exact r73.up (Int.le_trans (by decide) k62.1) (Or.inl (lt_dec k62.2 (by decide)))
          have r90 : SG 130 133 0 11 g84 := by rw [← eg84]; exact r74.up (Int.le_trans (by decide) k62.1) (Or.inl (lt_dec k62.2 (by decide)))
          have r91 : SG 139 139 0 5 g84 := by rw [← eg84]; exact r75.up (Int.le_trans (by decide) k62.1) (Or.inl (lt_dec k62.2 (by decide)))
          have r92 : SG 153 153 0 44 g84 := by rw [← eg84]; exact r76.up (Int.le_trans (by decide) k62.1) (Or.inl (lt_dec k62.2 (by decide)))
          have r93 : SG 44 55 0 9 g84 := by rw [← eg84]; exact r77.up (Int.le_trans (by decide) k62.1) (Or.inr (Or.inl (dec_lt k62.1 (by decide))))
          have r94 : SG 5 5 0 12 g84 := by rw [← eg84]; exact r78.up (Int.le_trans (by decide) k62.1) (Or.inr (Or.inl (dec_lt k62.1 (by decide))))
          have r95 : SG 6 6 0 12 g84 := by rw [← eg84]; exact r79.up (Int.le_trans (by decide) k62.1) (Or.inr (Or.inl (dec_lt k62.1 (by decide))))
          have r96 : SG 7 7 0 6 g84 := by rw [← eg84]; exact r80.up (Int.le_trans (by decide) k62.1) (Or.inr (Or.inl (dec_lt k62.1 (by decide))))
          refine iast_g hx hb hK hP hD hS 1 0 rfl rfl (ix_k k62 (by decide) (by decide)) eg84 dX10_swap_97 (fun H locs hP hD hS => ?_)
          have hP : va_P D vwCl [(h0, .inr (10, vL 67 F33)), (h_s, .inl (cI, 335, .inl g84)), (h_undone, .inl (cI, 192, .inl g35))] H := hP
          have hD : va_D A [(h0, .inr (10, vL 67 F33)), (h_s, .inl (cI, 335, .inl g84)), (h_undone, .inl (cI, 192, .inl g35))] := hD
          refine lv_aload_n hx hb dX10_swap_98 rfl (lv_at hl 2 rfl) ?_
          refine get_f (D := D) (ci := 10) (v := .ref h_s) (C := RX10) (T := TX10) (N := 67) hx hb hw inAX10 hown hK hP 0 rfl rfl 6 (by decide) (hw _ q_1267) (fun _ h9 => h9) n56 dX10_swap_99 ?_
          refine lv_bipush (v := 105) hx hb dX10_swap_102 (by decide) ?_
          refine lv_iload_n hx hb dX10_swap_104 rfl (lv_at hl 4 rfl) ?_
          refine lv_iadd hx hb dX10_swap_105 ?_
          refine lv_ci (y := v64) ev64.symm ?_
          refine lv_iload_n hx hb dX10_swap_106 rfl (lv_at hl 1 rfl) ?_
          obtain ⟨g97, eg97⟩ : ∃ z : Nat → Int32, upd g84 v64.toNatClampNeg v59 = z := ⟨_, rfl⟩
          have r98 : KW 0 g97 := by rw [← eg97]; exact r85.up (Int.le_trans (by decide) k65.1) (Or.inl (lt_dec k65.2 (by decide)))
          have r99 : US bs g97 := by rw [← eg97]; exact US.up r86 (Int.le_trans (by decide) k65.1)
          have r100 : SG 0 0 0 40 g97 := by rw [← eg97]; exact r87.up (Int.le_trans (by decide) k65.1) (Or.inr (Or.inr (ir_wk k60 (by decide) (by decide))))
          have r101 : SG 105 108 0 11 g97 := by rw [← eg97]; exact r88.up (Int.le_trans (by decide) k65.1) (Or.inr (Or.inr (ir_wk k60 (by decide) (by decide))))
          have r102 : SG 114 114 0 5 g97 := by rw [← eg97]; exact r89.up (Int.le_trans (by decide) k65.1) (Or.inl (lt_dec k65.2 (by decide)))
          have r103 : SG 130 133 0 11 g97 := by rw [← eg97]; exact r90.up (Int.le_trans (by decide) k65.1) (Or.inr (Or.inr (ir_wk k60 (by decide) (by decide))))
          have r104 : SG 139 139 0 5 g97 := by rw [← eg97]; exact r91.up (Int.le_trans (by decide) k65.1) (Or.inl (lt_dec k65.2 (by decide)))
          have r105 : SG 153 153 0 44 g97 := by rw [← eg97]; exact r92.up (Int.le_trans (by decide) k65.1) (Or.inr (Or.inr (ir_wk k60 (by decide) (by decide))))
          have r106 : SG 44 55 0 9 g97 := by rw [← eg97]; exact r93.up (Int.le_trans (by decide) k65.1) (Or.inr (Or.inl (dec_lt k65.1 (by decide))))
          have r107 : SG 5 5 0 12 g97 := by rw [← eg97]; exact r94.up (Int.le_trans (by decide) k65.1) (Or.inr (Or.inr (ir_wk k60 (by decide) (by decide))))
          have r108 : SG 6 6 0 12 g97 := by rw [← eg97]; exact r95.up (Int.le_trans (by decide) k65.1) (Or.inr (Or.inr (ir_wk k60 (by decide) (by decide))))
          have r109 : SG 7 7 0 6 g97 := by rw [← eg97]; exact r96.up (Int.le_trans (by decide) k65.1) (Or.inr (Or.inl (dec_lt k65.1 (by decide))))
          refine iast_g hx hb hK hP hD hS 1 0 rfl rfl (ix_k k65 (by decide) (by decide)) eg97 dX10_swap_107 (fun H locs hP hD hS => ?_)
          have hP : va_P D vwCl [(h0, .inr (10, vL 67 F33)), (h_s, .inl (cI, 335, .inl g97)), (h_undone, .inl (cI, 192, .inl g35))] H := hP
          have hD : va_D A [(h0, .inr (10, vL 67 F33)), (h_s, .inl (cI, 335, .inl g97)), (h_undone, .inl (cI, 192, .inl g35))] := hD
          refine lv_aload_n hx hb dX10_swap_108 rfl (lv_at hl 2 rfl) ?_
          refine get_f (D := D) (ci := 10) (v := .ref h_s) (C := RX10) (T := TX10) (N := 67) hx hb hw inAX10 hown hK hP 0 rfl rfl 6 (by decide) (hw _ q_1267) (fun _ h9 => h9) n56 dX10_swap_109 ?_
          refine lv_bipush (v := 109) hx hb dX10_swap_112 (by decide) ?_
          refine lv_iload_n hx hb dX10_swap_114 rfl (lv_at hl 4 rfl) ?_
          refine lv_iadd hx hb dX10_swap_115 ?_
          refine lv_ci (y := v81) ev81.symm ?_
          refine lv_iload hx hb dX10_swap_116 (lv_at hl 0 rfl) ?_
          obtain ⟨g110, eg110⟩ : ∃ z : Nat → Int32, upd g97 v81.toNatClampNeg v63 = z := ⟨_, rfl⟩
          have r111 : KW 0 g110 := by rw [← eg110]; exact r98.up (Int.le_trans (by decide) k82.1) (Or.inl (lt_dec k82.2 (by decide)))
          have r112 : US bs g110 := by rw [← eg110]; exact US.up r99 (Int.le_trans (by decide) k82.1)
          have r113 : SG 0 0 0 40 g110 := by rw [← eg110]; exact r100.up (Int.le_trans (by decide) k82.1) (Or.inr (Or.inl (dec_lt k82.1 (by decide))))
          have r114 : SG 105 108 0 11 g110 := by rw [← eg110]; exact r101.up (Int.le_trans (by decide) k82.1) (Or.inr (Or.inl (dec_lt k82.1 (by decide))))
          have r115 : SG 114 114 0 5 g110 := by rw [← eg110]; exact r102.up (Int.le_trans (by decide) k82.1) (Or.inl (lt_dec k82.2 (by decide)))
          have r116 : SG 130 133 0 11 g110 := by rw [← eg110]; exact r103.up (Int.le_trans (by decide) k82.1) (Or.inl (lt_dec k82.2 (by decide)))
          have r117 : SG 139 139 0 5 g110 := by rw [← eg110]; exact r104.up (Int.le_trans (by decide) k82.1) (Or.inl (lt_dec k82.2 (by decide)))
          have r118 : SG 153 153 0 44 g110 := by rw [← eg110]; exact r105.up (Int.le_trans (by decide) k82.1) (Or.inl (lt_dec k82.2 (by decide)))
          have r119 : SG 44 55 0 9 g110 := by rw [← eg110]; exact r106.up (Int.le_trans (by decide) k82.1) (Or.inr (Or.inl (dec_lt k82.1 (by decide))))
          have r120 : SG 5 5 0 12 g110 := by rw [← eg110]; exact r107.up (Int.le_trans (by decide) k82.1) (Or.inr (Or.inl (dec_lt k82.1 (by decide))))
          have r121 : SG 6 6 0 12 g110 := by rw [← eg110]; exact r108.up (Int.le_trans (by decide) k82.1) (Or.inr (Or.inl (dec_lt k82.1 (by decide))))
          have r122 : SG 7 7 0 6 g110 := by rw [← eg110]; exact r109.up (Int.le_trans (by decide) k82.1) (Or.inr (Or.inl (dec_lt k82.1 (by decide))))
          refine iast_g hx hb hK hP hD hS 1 0 rfl rfl (ix_k k82 (by decide) (by decide)) eg110 dX10_swap_118 (fun H locs hP hD hS => ?_)
          have hP : va_P D vwCl [(h0, .inr (10, vL 67 F33)), (h_s, .inl (cI, 335, .inl g110)), (h_undone, .inl (cI, 192, .inl g35))] H := hP
          have hD : va_D A [(h0, .inr (10, vL 67 F33)), (h_s, .inl (cI, 335, .inl g110)), (h_undone, .inl (cI, 192, .inl g35))] := hD
          refine lv_iconst (v := 1) hx hb dX10_swap_119 (by decide) ?_
          exact ret_i (v := 1) hx hb hr hlocks hS hP hD dX10_swap_120 rfl (Nat.le_of_ble_eq_true rfl) (Nat.le_of_ble_eq_true rfl) ⟨F33, y34, g110, g35, (SAME.tr (SAME.up eF1 SAME.rf (by decide)) t36 (by decide)), (SAME.at t36 (by decide) (get_eq eF1)), t37, (ir_wk t38 (by decide) (by decide)), r118, r113, r120, r121, r122, r119, r111, r114, r115, r116, r117, r112, t39, t40, t41, t42, t43, t44, t45, t46, t47, t48, t49, t50, t51, t52, t53, t54, (show 0 ≤ (1 : Int32).toInt ∧ (1 : Int32).toInt ≤ 1 by decide), rfl⟩
        · have dc29 : p0.toInt = p1.toInt := eq_i (a := p0.toInt) (b := p1.toInt) rfl rfl c29
          refine lv_iconst (v := 0) hx hb dX10_swap_35 (by decide) ?_
          exact ret_i (v := 0) hx hb hr hlocks hS (hP.sub (ws' := [(h0, .inr (10, vL 67 F1)), (h_s, .inl (cI, 335, .inl f_s)), (h_undone, .inl (cI, 192, .inl f_undone))]) [1, 2, 0] rfl) (hD.sub (ws' := [(h0, .inr (10, vL 67 F1)), (h_s, .inl (cI, 335, .inl f_s)), (h_undone, .inl (cI, 192, .inl f_undone))]) [1, 2, 0] (by decide) rfl) dX10_swap_36 rfl (Nat.le_of_ble_eq_true rfl) (Nat.le_of_ble_eq_true rfl) ⟨F1, x_undoMany, f_s, f_undone, (SAME.up eF1 SAME.rf (by decide)), (get_eq eF1), (get_ne eF1 (by decide) e_undoMany), i_x_undoMany, s_s_153, s_s_0, s_s_5, s_s_6, s_s_7, s_s_44, s_s_K0, s_s_105, s_s_114, s_s_130, s_s_139, s_s_US, s_undone_1, s_undone_10, s_undone_25, s_undone_34, s_undone_49, s_undone_58, s_undone_73, s_undone_82, s_undone_97, s_undone_106, s_undone_121, s_undone_130, s_undone_145, s_undone_154, s_undone_169, s_undone_178, (show 0 ≤ (0 : Int32).toInt ∧ (0 : Int32).toInt ≤ 1 by decide), rfl⟩
