set_option maxHeartbeats 4000000 in
set_option maxRecDepth 100000 in
theorem m_X10_restore (l : Launch) (D : va_G) (cI cJ cB cP cM cZ : ClassId) (h0 : Nat) (h_s : Nat) (h_names : Nat) (h_images : Nat) (h_namesKept : Nat) (h_areKept : Nat) (Fh : Nat → Value) (f_s : Nat → Int32) (f_names : Nat → Int64) (f_images : Nat → Int32) (f_namesKept : Nat → Int64) (f_areKept : Nat → Int32) (p0 : Int32) (sz : Nat) (e_s : Fh 6 = .ref h_s) (e_names : Fh 9 = .ref h_names) (e_images : Fh 64 = .ref h_images) (e_namesKept : Fh 65 = .ref h_namesKept) (e_areKept : Fh 66 = .ref h_areKept) (s_s_K0 : KW 0 f_s) (s_s_0 : SG 0 0 0 40 f_s) (s_s_105 : SG 105 108 0 11 f_s) (s_s_114 : SG 114 114 0 5 f_s) (s_s_130 : SG 130 133 0 11 f_s) (s_s_139 : SG 139 139 0 5 f_s) (s_s_153 : SG 153 153 0 44 f_s) (s_s_44 : SG 44 55 0 9 f_s) (s_s_5 : SG 5 5 0 12 f_s) (s_s_6 : SG 6 6 0 12 f_s) (s_s_7 : SG 7 7 0 6 f_s) (s_images_K0 : KW 0 f_images) (s_images_K335 : KW 335 f_images) (s_images_0 : SG 0 0 0 40 f_images) (s_images_105 : SG 105 108 0 11 f_images) (s_images_114 : SG 114 114 0 5 f_images) (s_images_130 : SG 130 133 0 11 f_images) (s_images_139 : SG 139 139 0 5 f_images) (s_images_153 : SG 153 153 0 44 f_images) (s_images_335 : SG 335 335 0 40 f_images) (s_images_340 : SG 340 340 0 12 f_images) (s_images_341 : SG 341 341 0 12 f_images) (s_images_342 : SG 342 342 0 6 f_images) (s_images_379 : SG 379 390 0 9 f_images) (s_images_44 : SG 44 55 0 9 f_images) (s_images_440 : SG 440 443 0 11 f_images) (s_images_449 : SG 449 449 0 5 f_images) (s_images_465 : SG 465 468 0 11 f_images) (s_images_474 : SG 474 474 0 5 f_images) (s_images_488 : SG 488 488 0 44 f_images) (s_images_5 : SG 5 5 0 12 f_images) (s_images_6 : SG 6 6 0 12 f_images) (s_images_7 : SG 7 7 0 6 f_images) : CI l yX10_restore cX10_restore 3 (some .boolean) { frames := 1, cells := 0, slots := 0, locals := 22 } (GG D cI cJ cB cP cM cZ) D [(h0, .inr (10, vL 67 Fh)), (h_s, .inl (cI, 335, .inl f_s)), (h_names, .inl (cJ, 36, .inr (.inl f_names))), (h_images, .inl (cI, 670, .inl f_images)), (h_namesKept, .inl (cJ, 36, .inr (.inl f_namesKept))), (h_areKept, .inl (cZ, 2, .inl f_areKept))] sz [.ref h0, .int p0] (fun (r : Int32) (u : va_W) => (∃ (Gh : Nat → Value), SAME [0] Fh Gh ∧ Gh 0 = .int 0 ∧ ((0 ≤ p0.toInt → p0.toInt ≤ 1 → (r.toInt = 1 ↔ (f_areKept p0.toNatClampNeg).toInt ≠ 0)) ∧ (p0.toInt < 0 ∨ 1 < p0.toInt → r.toInt = 0)) ∧ r = 0 ∧ u = [(h0, .inr (10, vL 67 Gh)), (h_s, .inl (cI, 335, .inl f_s)), (h_names, .inl (cJ, 36, .inr (.inl f_names))), (h_images, .inl (cI, 670, .inl f_images)), (h_namesKept, .inl (cJ, 36, .inr (.inl f_namesKept))), (h_areKept, .inl (cZ, 2, .inl f_areKept))]) ∨ (∃ (Gh : Nat → Value) (g_s : Nat → Int32) (g_names : Nat → Int64), SAME [0, 41] Fh Gh ∧ Gh 0 = .int 0 ∧ Gh 41 = .int 0 ∧ SG 153 153 0 44 g_s ∧ SG 0 0 0 40 g_s ∧ SG 5 5 0 12 g_s ∧ SG 6 6 0 12 g_s ∧ SG 7 7 0 6 g_s ∧ SG 44 55 0 9 g_s ∧ KW 0 g_s ∧ SG 105 108 0 11 g_s ∧ SG 114 114 0 5 g_s ∧ SG 130 133 0 11 g_s ∧ SG 139 139 0 5 g_s ∧ ((0 ≤ p0.toInt → p0.toInt ≤ 1 → (r.toInt = 1 ↔ (f_areKept p0.toNatClampNeg).toInt ≠ 0)) ∧ (p0.toInt < 0 ∨ 1 < p0.toInt → r.toInt = 0)) ∧ r = 1 ∧ u = [(h0, .inr (10, vL 67 Gh)), (h_s, .inl (cI, 335, .inl g_s)), (h_names, .inl (cJ, 36, .inr (.inl g_names))), (h_images, .inl (cI, 670, .inl f_images)), (h_namesKept, .inl (cJ, 36, .inr (.inl f_namesKept))), (h_areKept, .inl (cZ, 2, .inl f_areKept))])) := by
  refine CI_mk (by decide) (Nat.le_of_ble_eq_true rfl) ?_
  intro p e s m below meth c A ls E hAe hG hsz hP hD hA hS hl
  obtain ⟨hx, hb, hr, hw, hown, hlocks, hml, hnm⟩ := E
  have hK := hG.1
  have hl : lv_has ls 3 [(0, .ref h0), (1, .int p0)] := hl
  refine lv_aload_n hx hb dX10_restore_0 rfl (lv_at hl 0 rfl) ?_
  refine lv_iconst (v := 0) hx hb dX10_restore_1 (by decide) ?_
  refine put_f (D := D) (ci := 10) (v := .int 0) (ty := .int) (C := RX10) (T := TX10) (N := 67) hx hb hw inAX10 tyX10 tyX10_ok nmX10 hown hK hP hD hS 0 rfl rfl 0 (by decide) (hw _ q_1261) (fun _ h9 => h9) rfl (by decide +kernel) rfl rfl dX10_restore_2 (fun H locs F1 eF1 hP hD hS => ?_)
  have hP : va_P D vwCl [(h0, .inr (10, vL 67 F1)), (h_s, .inl (cI, 335, .inl f_s)), (h_names, .inl (cJ, 36, .inr (.inl f_names))), (h_images, .inl (cI, 670, .inl f_images)), (h_namesKept, .inl (cJ, 36, .inr (.inl f_namesKept))), (h_areKept, .inl (cZ, 2, .inl f_areKept))] H := hP
  have hD : va_D A [(h0, .inr (10, vL 67 F1)), (h_s, .inl (cI, 335, .inl f_s)), (h_names, .inl (cJ, 36, .inr (.inl f_names))), (h_images, .inl (cI, 670, .inl f_images)), (h_namesKept, .inl (cJ, 36, .inr (.inl f_namesKept))), (h_areKept, .inl (cZ, 2, .inl f_areKept))] := hD
  refine lv_iload_n hx hb dX10_restore_5 rfl (lv_at hl 1 rfl) ?_
  refine lv_iconst (v := 0) hx hb dX10_restore_6 (by decide) ?_
  refine lv_iconst (v := 1) hx hb dX10_restore_7 (by decide) ?_
  refine call_Si (wr := [(h0, .inr (10, vL 67 F1)), (h_s, .inl (cI, 335, .inl f_s)), (h_names, .inl (cJ, 36, .inr (.inl f_names))), (h_images, .inl (cI, 670, .inl f_images)), (h_namesKept, .inl (cJ, 36, .inr (.inl f_namesKept))), (h_areKept, .inl (cZ, 2, .inl f_areKept))]) (As := [.int p0, .int 0, .int 1]) (rest := []) hx hb hml hown hw (m_X10_isIn l D cI cJ cB cP cM cZ p0 0 1 _ ) wS_X10_211_X10_isIn dX10_restore_8 hP hD hS hA [] [0, 1, 2, 3, 4, 5] rfl rfl (by decide) (by decide) (by decide) GG.fb hG.at hl.1 rfl (Nat.le_of_ble_eq_true rfl) ⟨(Nat.le_of_ble_eq_true rfl), (Nat.le_of_ble_eq_true rfl)⟩ ⟨(Nat.le_of_ble_eq_true rfl), (Nat.le_of_ble_eq_true rfl)⟩ (fun r2 u H locs hp hP hD hS => ?_)
  have zl0 : (0 : Int32).toInt = 0 := by decide
  have zl1 : (1 : Int32).toInt = 1 := by decide
  rcases hp with ⟨t3, rfl, rfl⟩ | ⟨t4, t5, rfl, rfl⟩ | ⟨t6, t7, rfl, rfl⟩
  · have hP : va_P D vwCl [(h0, .inr (10, vL 67 F1)), (h_s, .inl (cI, 335, .inl f_s)), (h_names, .inl (cJ, 36, .inr (.inl f_names))), (h_images, .inl (cI, 670, .inl f_images)), (h_namesKept, .inl (cJ, 36, .inr (.inl f_namesKept))), (h_areKept, .inl (cZ, 2, .inl f_areKept))] H := hP
    have hD : va_D A [(h0, .inr (10, vL 67 F1)), (h_s, .inl (cI, 335, .inl f_s)), (h_names, .inl (cJ, 36, .inr (.inl f_names))), (h_images, .inl (cI, 670, .inl f_images)), (h_namesKept, .inl (cJ, 36, .inr (.inl f_namesKept))), (h_areKept, .inl (cZ, 2, .inl f_areKept))] := hD
    refine W.widen (k := 0) (n := 0) (Nat.le_of_ble_eq_true rfl) (Nat.le_of_ble_eq_true rfl) ?_
    have k9 : (-2147483648) ≤ p0.toInt ∧ p0.toInt ≤ (-1) := ⟨(ir_any _).1, up_lt t3 (Int.le_refl _) (by decide)⟩
    refine lv_if_eq (tgt := 23) hx hb dX10_restore_11 (by decide) (fun _ => ?_) (fun g => absurd (by decide) g)
    refine lv_iconst (v := 0) hx hb dX10_restore_23 (by decide) ?_
    exact ret_i (v := 0) hx hb hr hlocks hS hP hD dX10_restore_24 rfl (Nat.le_of_ble_eq_true rfl) (Nat.le_of_ble_eq_true rfl) (Or.inl ⟨F1, (SAME.up eF1 SAME.rf (by decide)), (get_eq eF1), (by have zl0 : (0 : Int32).toInt = 0 := (by decide); omega), rfl, rfl⟩)
  · have hP : va_P D vwCl [(h0, .inr (10, vL 67 F1)), (h_s, .inl (cI, 335, .inl f_s)), (h_names, .inl (cJ, 36, .inr (.inl f_names))), (h_images, .inl (cI, 670, .inl f_images)), (h_namesKept, .inl (cJ, 36, .inr (.inl f_namesKept))), (h_areKept, .inl (cZ, 2, .inl f_areKept))] H := hP
    have hD : va_D A [(h0, .inr (10, vL 67 F1)), (h_s, .inl (cI, 335, .inl f_s)), (h_names, .inl (cJ, 36, .inr (.inl f_names))), (h_images, .inl (cI, 670, .inl f_images)), (h_namesKept, .inl (cJ, 36, .inr (.inl f_namesKept))), (h_areKept, .inl (cZ, 2, .inl f_areKept))] := hD
    refine W.widen (k := 0) (n := 0) (Nat.le_of_ble_eq_true rfl) (Nat.le_of_ble_eq_true rfl) ?_
    have k10 : 0 ≤ p0.toInt ∧ p0.toInt ≤ 2147483647 := ⟨Int.le_trans (Int.le_refl _) t4, (ir_any _).2⟩
    have k11 : 2 ≤ p0.toInt ∧ p0.toInt ≤ 2147483647 := ⟨lo_lt t5 (Int.le_refl _) (by decide), k10.2⟩
    refine lv_if_eq (tgt := 23) hx hb dX10_restore_11 (by decide) (fun _ => ?_) (fun g => absurd (by decide) g)
    refine lv_iconst (v := 0) hx hb dX10_restore_23 (by decide) ?_
    exact ret_i (v := 0) hx hb hr hlocks hS hP hD dX10_restore_24 rfl (Nat.le_of_ble_eq_true rfl) (Nat.le_of_ble_eq_true rfl) (Or.inl ⟨F1, (SAME.up eF1 SAME.rf (by decide)), (get_eq eF1), (by have zl0 : (0 : Int32).toInt = 0 := (by decide); omega), rfl, rfl⟩)
  · have hP : va_P D vwCl [(h0, .inr (10, vL 67 F1)), (h_s, .inl (cI, 335, .inl f_s)), (h_names, .inl (cJ, 36, .inr (.inl f_names))), (h_images, .inl (cI, 670, .inl f_images)), (h_namesKept, .inl (cJ, 36, .inr (.inl f_namesKept))), (h_areKept, .inl (cZ, 2, .inl f_areKept))] H := hP
    have hD : va_D A [(h0, .inr (10, vL 67 F1)), (h_s, .inl (cI, 335, .inl f_s)), (h_names, .inl (cJ, 36, .inr (.inl f_names))), (h_images, .inl (cI, 670, .inl f_images)), (h_namesKept, .inl (cJ, 36, .inr (.inl f_namesKept))), (h_areKept, .inl (cZ, 2, .inl f_areKept))] := hD
    refine W.widen (k := 0) (n := 0) (Nat.le_of_ble_eq_true rfl) (Nat.le_of_ble_eq_true rfl) ?_
    have k12 : 0 ≤ p0.toInt ∧ p0.toInt ≤ 2147483647 := ⟨Int.le_trans (Int.le_refl _) t6, (ir_any _).2⟩
    have k13 : 0 ≤ p0.toInt ∧ p0.toInt ≤ 1 := ⟨k12.1, Int.le_trans t7 (Int.le_refl _)⟩
    refine lv_if_eq (tgt := 23) hx hb dX10_restore_11 (by decide) (fun g => absurd g (by decide)) (fun _ => ?_)
    refine lv_aload_n hx hb dX10_restore_14 rfl (lv_at hl 0 rfl) ?_
    have n14 : F1 66 = .ref h_areKept := (get_ne eF1 (by decide) e_areKept)
    refine get_f (D := D) (ci := 10) (v := .ref h_areKept) (C := RX10) (T := TX10) (N := 67) hx hb hw inAX10 hown hK hP 0 rfl rfl 66 (by decide) (hw _ q_1327) (fun _ h9 => h9) n14 dX10_restore_15 ?_
    refine lv_iload_n hx hb dX10_restore_18 rfl (lv_at hl 1 rfl) ?_
    refine va_zald hx hb hK hP 5 5 rfl rfl (ix_k k13 (by decide) (by decide)) dX10_restore_19 ?_
    refine lv_topi (fun v15 ev15 => ?_)
    refine lv_if_ne (tgt := 25) hx hb dX10_restore_20 (by decide) (fun c16 => ?_) (fun c16 => ?_)
    · have dc16 : v15.toInt ≠ 0 := ne_i (a := v15.toInt) (b := 0) rfl rfl c16
      by_cases k17 : p0 = 0
      · have dk17 : p0.toInt = 0 := eq_i rfl rfl k17
        have k18 : 0 ≤ p0.toInt ∧ p0.toInt ≤ 0 := ⟨k13.1, Int.le_trans (Int.le_of_eq dk17) (Int.le_refl _)⟩
        have hl : lv_has ls 3 [(0, .ref h0), (1, .int 0)] := by have q := hl; rw [k17] at q; exact q
        refine lv_iconst (v := 0) hx hb dX10_restore_25 (by decide) ?_
        refine lv_istore_n (lv' := [(2, .int 0), (0, .ref h0), (1, .int 0)]) hx hb dX10_restore_26 rfl hl (by decide) rfl (fun ls hl => ?_)
        refine mloop (α := (Int32) × (Nat → Int32)) (nL := 3) (D := D) (A := A) (H0 := s.heap) (fun a => (335 - a.1.toInt).toNat) (fun a => IR 0 335 a.1 ∧ (CPY a.2 0 f_images 0 (a.1.toInt))) (fun a => [(h0, .inr (10, vL 67 F1)), (h_s, .inl (cI, 335, .inl a.2)), (h_names, .inl (cJ, 36, .inr (.inl f_names))), (h_images, .inl (cI, 670, .inl f_images)), (h_namesKept, .inl (cJ, 36, .inr (.inl f_namesKept))), (h_areKept, .inl (cZ, 2, .inl f_areKept))]) (fun a => [(2, .int a.1), (0, .ref h0), (1, .int 0)]) (fun H locs ls => W p l e ({ frames := 1, cells := 0, slots := 0, locals := 22 } : Room) s m [.ref h0, .int p0].toArray below meth c H locs 0 0 (MQ below (va_Qi (fun (r : Int32) (u : va_W) => (∃ (Gh : Nat → Value), SAME [0] Fh Gh ∧ Gh 0 = .int 0 ∧ ((0 ≤ p0.toInt → p0.toInt ≤ 1 → (r.toInt = 1 ↔ (f_areKept p0.toNatClampNeg).toInt ≠ 0)) ∧ (p0.toInt < 0 ∨ 1 < p0.toInt → r.toInt = 0)) ∧ r = 0 ∧ u = [(h0, .inr (10, vL 67 Gh)), (h_s, .inl (cI, 335, .inl f_s)), (h_names, .inl (cJ, 36, .inr (.inl f_names))), (h_images, .inl (cI, 670, .inl f_images)), (h_namesKept, .inl (cJ, 36, .inr (.inl f_namesKept))), (h_areKept, .inl (cZ, 2, .inl f_areKept))]) ∨ (∃ (Gh : Nat → Value) (g_s : Nat → Int32) (g_names : Nat → Int64), SAME [0, 41] Fh Gh ∧ Gh 0 = .int 0 ∧ Gh 41 = .int 0 ∧ SG 153 153 0 44 g_s ∧ SG 0 0 0 40 g_s ∧ SG 5 5 0 12 g_s ∧ SG 6 6 0 12 g_s ∧ SG 7 7 0 6 g_s ∧ SG 44 55 0 9 g_s ∧ KW 0 g_s ∧ SG 105 108 0 11 g_s ∧ SG 114 114 0 5 g_s ∧ SG 130 133 0 11 g_s ∧ SG 139 139 0 5 g_s ∧ ((0 ≤ p0.toInt → p0.toInt ≤ 1 → (r.toInt = 1 ↔ (f_areKept p0.toNatClampNeg).toInt ≠ 0)) ∧ (p0.toInt < 0 ∨ 1 < p0.toInt → r.toInt = 0)) ∧ r = 1 ∧ u = [(h0, .inr (10, vL 67 Gh)), (h_s, .inl (cI, 335, .inl g_s)), (h_names, .inl (cJ, 36, .inr (.inl g_names))), (h_images, .inl (cI, 670, .inl f_images)), (h_namesKept, .inl (cJ, 36, .inr (.inl f_namesKept))), (h_areKept, .inl (cZ, 2, .inl f_areKept))])) (PO D A) A) [.ref h0, .int p0].toArray s 0 0 A) (F0 m 27 ls [])) ?_ (0, f_s) ⟨(show 0 ≤ (0 : Int32).toInt ∧ (0 : Int32).toInt ≤ 335 by decide), (show CPY f_s 0 f_images 0 (0) from (CPY.zero (by decide)))⟩ _ _ _ hP hD hS hl
        rintro ⟨u19, w20⟩ ⟨i21, i22⟩ ih H locs ls hP hD hS hl
        have i21 : 0 ≤ u19.toInt ∧ u19.toInt ≤ 335 := i21
        have i22 : CPY w20 0 f_images 0 (u19.toInt) := i22
        have hP : va_P D vwCl [(h0, .inr (10, vL 67 F1)), (h_s, .inl (cI, 335, .inl w20)), (h_names, .inl (cJ, 36, .inr (.inl f_names))), (h_images, .inl (cI, 670, .inl f_images)), (h_namesKept, .inl (cJ, 36, .inr (.inl f_namesKept))), (h_areKept, .inl (cZ, 2, .inl f_areKept))] H := hP
        have hD : va_D A [(h0, .inr (10, vL 67 F1)), (h_s, .inl (cI, 335, .inl w20)), (h_names, .inl (cJ, 36, .inr (.inl f_names))), (h_images, .inl (cI, 670, .inl f_images)), (h_namesKept, .inl (cJ, 36, .inr (.inl f_namesKept))), (h_areKept, .inl (cZ, 2, .inl f_areKept))] := hD
        have hl : lv_has ls 3 [(2, .int u19), (0, .ref h0), (1, .int 0)] := hl
        refine lv_iload_n hx hb dX10_restore_27 rfl (lv_at hl 0 rfl) ?_
        refine lv_sipush (v := 335) hx hb dX10_restore_28 (by decide) ?_
        refine lv_icmp_ge (tgt := 58) hx hb dX10_restore_31 (by decide) (fun c23 => ?_) (fun c23 => ?_)
        · have dc23 : 335 ≤ u19.toInt := le_i (a := 335) (b := u19.toInt) rfl rfl c23
          have k24 : 335 ≤ u19.toInt ∧ u19.toInt ≤ 335 := ⟨Int.le_trans (Int.le_refl _) dc23, i21.2⟩
          have r25 : KW 0 w20 := KW.cpy i22 s_images_K0 (by omega) (by decide)
          have r27 : SG 0 0 0 40 w20 := SG.cpy i22 s_images_0 (by decide) (by decide) (by decide) (by omega)
          have r28 : SG 105 108 0 11 w20 := SG.cpy i22 s_images_105 (by decide) (by decide) (by decide) (by omega)
          have r29 : SG 114 114 0 5 w20 := SG.cpy i22 s_images_114 (by decide) (by decide) (by decide) (by omega)
          have r30 : SG 130 133 0 11 w20 := SG.cpy i22 s_images_130 (by decide) (by decide) (by decide) (by omega)
          have r31 : SG 139 139 0 5 w20 := SG.cpy i22 s_images_139 (by decide) (by decide) (by decide) (by omega)
          have r32 : SG 153 153 0 44 w20 := SG.cpy i22 s_images_153 (by decide) (by decide) (by decide) (by omega)
          have r38 : SG 44 55 0 9 w20 := SG.cpy i22 s_images_44 (by decide) (by decide) (by decide) (by omega)
          have r44 : SG 5 5 0 12 w20 := SG.cpy i22 s_images_5 (by decide) (by decide) (by decide) (by omega)
          have r45 : SG 6 6 0 12 w20 := SG.cpy i22 s_images_6 (by decide) (by decide) (by decide) (by omega)
          have r46 : SG 7 7 0 6 w20 := SG.cpy i22 s_images_7 (by decide) (by decide) (by decide) (by omega)
          refine lv_iconst (v := 0) hx hb dX10_restore_58 (by decide) ?_
          refine lv_istore_n (lv' := [(2, .int 0), (0, .ref h0), (1, .int 0)]) hx hb dX10_restore_59 rfl hl (by decide) rfl (fun ls hl => ?_)
          refine mloop (α := (Int32) × (Nat → Int64)) (nL := 3) (D := D) (A := A) (H0 := s.heap) (fun a => (18 - a.1.toInt).toNat) (fun a => IR 0 18 a.1) (fun a => [(h0, .inr (10, vL 67 F1)), (h_s, .inl (cI, 335, .inl w20)), (h_names, .inl (cJ, 36, .inr (.inl a.2))), (h_images, .inl (cI, 670, .inl f_images)), (h_namesKept, .inl (cJ, 36, .inr (.inl f_namesKept))), (h_areKept, .inl (cZ, 2, .inl f_areKept))]) (fun a => [(2, .int a.1), (0, .ref h0), (1, .int 0)]) (fun H locs ls => W p l e ({ frames := 1, cells := 0, slots := 0, locals := 22 } : Room) s m [.ref h0, .int p0].toArray below meth c H locs 0 0 (MQ below (va_Qi (fun (r : Int32) (u : va_W) => (∃ (Gh : Nat → Value), SAME [0] Fh Gh ∧ Gh 0 = .int 0 ∧ ((0 ≤ p0.toInt → p0.toInt ≤ 1 → (r.toInt = 1 ↔ (f_areKept p0.toNatClampNeg).toInt ≠ 0)) ∧ (p0.toInt < 0 ∨ 1 < p0.toInt → r.toInt = 0)) ∧ r = 0 ∧ u = [(h0, .inr (10, vL 67 Gh)), (h_s, .inl (cI, 335, .inl f_s)), (h_names, .inl (cJ, 36, .inr (.inl f_names))), (h_images, .inl (cI, 670, .inl f_images)), (h_namesKept, .inl (cJ, 36, .inr (.inl f_namesKept))), (h_areKept, .inl (cZ, 2, .inl f_areKept))]) ∨ (∃ (Gh : Nat → Value) (g_s : Nat → Int32) (g_names : Nat → Int64), SAME [0, 41] Fh Gh ∧ Gh 0 = .int 0 ∧ Gh 41 = .int 0 ∧ SG 153 153 0 44 g_s ∧ SG 0 0 0 40 g_s ∧ SG 5 5 0 12 g_s ∧ SG 6 6 0 12 g_s ∧ SG 7 7 0 6 g_s ∧ SG 44 55 0 9 g_s ∧ KW 0 g_s ∧ SG 105 108 0 11 g_s ∧ SG 114 114 0 5 g_s ∧ SG 130 133 0 11 g_s ∧ SG 139 139 0 5 g_s ∧ ((0 ≤ p0.toInt → p0.toInt ≤ 1 → (r.toInt = 1 ↔ (f_areKept p0.toNatClampNeg).toInt ≠ 0)) ∧ (p0.toInt < 0 ∨ 1 < p0.toInt → r.toInt = 0)) ∧ r = 1 ∧ u = [(h0, .inr (10, vL 67 Gh)), (h_s, .inl (cI, 335, .inl g_s)), (h_names, .inl (cJ, 36, .inr (.inl g_names))), (h_images, .inl (cI, 670, .inl f_images)), (h_namesKept, .inl (cJ, 36, .inr (.inl f_namesKept))), (h_areKept, .inl (cZ, 2, .inl f_areKept))])) (PO D A) A) [.ref h0, .int p0].toArray s 0 0 A) (F0 m 60 ls [])) ?_ (0, f_names) (show 0 ≤ (0 : Int32).toInt ∧ (0 : Int32).toInt ≤ 18 by decide) _ _ _ hP hD hS hl
          rintro ⟨u47, w48⟩ i49 ih_60 H locs ls hP hD hS hl
          have i49 : 0 ≤ u47.toInt ∧ u47.toInt ≤ 18 := i49
          have hP : va_P D vwCl [(h0, .inr (10, vL 67 F1)), (h_s, .inl (cI, 335, .inl w20)), (h_names, .inl (cJ, 36, .inr (.inl w48))), (h_images, .inl (cI, 670, .inl f_images)), (h_namesKept, .inl (cJ, 36, .inr (.inl f_namesKept))), (h_areKept, .inl (cZ, 2, .inl f_areKept))] H := hP
          have hD : va_D A [(h0, .inr (10, vL 67 F1)), (h_s, .inl (cI, 335, .inl w20)), (h_names, .inl (cJ, 36, .inr (.inl w48))), (h_images, .inl (cI, 670, .inl f_images)), (h_namesKept, .inl (cJ, 36, .inr (.inl f_namesKept))), (h_areKept, .inl (cZ, 2, .inl f_areKept))] := hD
          have hl : lv_has ls 3 [(2, .int u47), (0, .ref h0), (1, .int 0)] := hl
          refine lv_iload_n hx hb dX10_restore_60 rfl (lv_at hl 0 rfl) ?_
          refine lv_bipush (v := 18) hx hb dX10_restore_61 (by decide) ?_
          refine lv_icmp_ge (tgt := 89) hx hb dX10_restore_63 (by decide) (fun c50 => ?_) (fun c50 => ?_)
          · have dc50 : 18 ≤ u47.toInt := le_i (a := 18) (b := u47.toInt) rfl rfl c50
            have k51 : 18 ≤ u47.toInt ∧ u47.toInt ≤ 18 := ⟨Int.le_trans (Int.le_refl _) dc50, i49.2⟩
            refine lv_aload_n hx hb dX10_restore_89 rfl (lv_at hl 1 rfl) ?_
            refine lv_iconst (v := 0) hx hb dX10_restore_90 (by decide) ?_
            refine put_f (D := D) (ci := 10) (v := .int 0) (ty := .int) (C := RX10) (T := TX10) (N := 67) hx hb hw inAX10 tyX10 tyX10_ok nmX10 hown hK hP hD hS 0 rfl rfl 41 (by decide) (hw _ q_1302) (fun _ h9 => h9) rfl (by decide +kernel) rfl rfl dX10_restore_91 (fun H locs F52 eF52 hP hD hS => ?_)
            have hP : va_P D vwCl [(h0, .inr (10, vL 67 F52)), (h_s, .inl (cI, 335, .inl w20)), (h_names, .inl (cJ, 36, .inr (.inl w48))), (h_images, .inl (cI, 670, .inl f_images)), (h_namesKept, .inl (cJ, 36, .inr (.inl f_namesKept))), (h_areKept, .inl (cZ, 2, .inl f_areKept))] H := hP
            have hD : va_D A [(h0, .inr (10, vL 67 F52)), (h_s, .inl (cI, 335, .inl w20)), (h_names, .inl (cJ, 36, .inr (.inl w48))), (h_images, .inl (cI, 670, .inl f_images)), (h_namesKept, .inl (cJ, 36, .inr (.inl f_namesKept))), (h_areKept, .inl (cZ, 2, .inl f_areKept))] := hD
            refine lv_iconst (v := 1) hx hb dX10_restore_94 (by decide) ?_
            exact ret_i (v := 1) hx hb hr hlocks hS hP hD dX10_restore_95 rfl (Nat.le_of_ble_eq_true rfl) (Nat.le_of_ble_eq_true rfl) (Or.inr ⟨F52, w20, w48, (SAME.up eF52 (SAME.up eF1 SAME.rf (by decide)) (by decide)), (get_ne eF52 (by decide) (get_eq eF1)), (get_eq eF52), r32, r27, r44, r45, r46, r38, r25, r28, r29, r30, r31, (by have hkv15 := congrArg Int32.toInt ev15; have zl1 : (1 : Int32).toInt = 1 := (by decide); omega), rfl, rfl⟩)
          · have dc50 : u47.toInt < 18 := nle_i (a := 18) (b := u47.toInt) rfl rfl c50
            have k53 : 0 ≤ u47.toInt ∧ u47.toInt ≤ 17 := ⟨i49.1, up_lt dc50 (Int.le_refl _) (by decide)⟩
            refine lv_aload_n hx hb dX10_restore_66 rfl (lv_at hl 1 rfl) ?_
            have n54 : F1 9 = .ref h_names := (get_ne eF1 (by decide) e_names)
            refine get_f (D := D) (ci := 10) (v := .ref h_names) (C := RX10) (T := TX10) (N := 67) hx hb hw inAX10 hown hK hP 0 rfl rfl 9 (by decide) (hw _ q_1270) (fun _ h9 => h9) n54 dX10_restore_67 ?_
            refine lv_iload_n hx hb dX10_restore_70 rfl (lv_at hl 0 rfl) ?_
            refine lv_aload_n hx hb dX10_restore_71 rfl (lv_at hl 1 rfl) ?_
            have n55 : F1 65 = .ref h_namesKept := (get_ne eF1 (by decide) e_namesKept)
            refine get_f (D := D) (ci := 10) (v := .ref h_namesKept) (C := RX10) (T := TX10) (N := 67) hx hb hw inAX10 hown hK hP 0 rfl rfl 65 (by decide) (hw _ q_1326) (fun _ h9 => h9) n55 dX10_restore_72 ?_
            refine lv_bipush (v := 18) hx hb dX10_restore_75 (by decide) ?_
            refine lv_iload_n hx hb dX10_restore_77 rfl (lv_at hl 2 rfl) ?_
            refine lv_imul hx hb dX10_restore_78 ?_
            refine lv_ci (y := 0) (by decide +kernel) ?_
            refine lv_iload_n hx hb dX10_restore_79 rfl (lv_at hl 0 rfl) ?_
            refine lv_iadd hx hb dX10_restore_80 ?_
            refine lv_topi (fun v56 ev56 => ?_)
            have bv56 : v56.toInt = 0 + u47.toInt := by rw [ev56]; exact add_k rfl rfl ⟨Int.le_refl _, Int.le_refl _⟩ k53 (by decide)
            have k57 : 0 ≤ v56.toInt ∧ v56.toInt ≤ 17 := add_r bv56 ⟨Int.le_refl _, Int.le_refl _⟩ k53 (by decide)
            refine va_lald hx hb hK hP 4 1 rfl rfl (ix_k k57 (by decide) (by decide)) dX10_restore_81 ?_
            refine lv_topl (fun v58 ev58 => ?_)
            obtain ⟨g59, eg59⟩ : ∃ z : Nat → Int64, vp_updL w48 u47.toNatClampNeg v58 = z := ⟨_, rfl⟩
            refine last_g hx hb hK hP hD hS 2 1 rfl rfl (ix_k k53 (by decide) (by decide)) eg59 dX10_restore_82 (fun H locs hP hD hS => ?_)
            have hP : va_P D vwCl [(h0, .inr (10, vL 67 F1)), (h_s, .inl (cI, 335, .inl w20)), (h_names, .inl (cJ, 36, .inr (.inl g59))), (h_images, .inl (cI, 670, .inl f_images)), (h_namesKept, .inl (cJ, 36, .inr (.inl f_namesKept))), (h_areKept, .inl (cZ, 2, .inl f_areKept))] H := hP
            have hD : va_D A [(h0, .inr (10, vL 67 F1)), (h_s, .inl (cI, 335, .inl w20)), (h_names, .inl (cJ, 36, .inr (.inl g59))), (h_images, .inl (cI, 670, .inl f_images)), (h_namesKept, .inl (cJ, 36, .inr (.inl f_namesKept))), (h_areKept, .inl (cZ, 2, .inl f_areKept))] := hD
            obtain ⟨v60, ev60⟩ : ∃ z : Int32, z = u47 + 1 := ⟨_, rfl⟩
            have bv60 : v60.toInt = u47.toInt + 1 := by rw [ev60]; exact add_k rfl rfl k53 ⟨Int.le_refl _, Int.le_refl _⟩ (by decide)
            have k61 : 1 ≤ v60.toInt ∧ v60.toInt ≤ 18 := add_r bv60 k53 ⟨Int.le_refl _, Int.le_refl _⟩ (by decide)
            refine lv_iinc (v := v60) (lv' := [(2, .int v60), (0, .ref h0), (1, .int 0)]) hx hb dX10_restore_83 hl (k := 0) rfl (by rw [ev60]; rfl) (by decide) rfl (fun ls hl => ?_)
            refine lv_goto (tgt := 60) hx hb dX10_restore_86 (by decide) ?_
            exact ih_60 (v60, g59) (ir_wk k61 (by decide) (by decide)) (by show (18 - v60.toInt).toNat < (18 - u47.toInt).toNat; omega) _ _ _ hP hD hS (lv_sub hl [0, 1, 2] rfl)
        · have dc23 : u19.toInt < 335 := nle_i (a := 335) (b := u19.toInt) rfl rfl c23
          have k62 : 0 ≤ u19.toInt ∧ u19.toInt ≤ 334 := ⟨i21.1, up_lt dc23 (Int.le_refl _) (by decide)⟩
          refine lv_aload_n hx hb dX10_restore_34 rfl (lv_at hl 1 rfl) ?_
          have n63 : F1 6 = .ref h_s := (get_ne eF1 (by decide) e_s)
          refine get_f (D := D) (ci := 10) (v := .ref h_s) (C := RX10) (T := TX10) (N := 67) hx hb hw inAX10 hown hK hP 0 rfl rfl 6 (by decide) (hw _ q_1267) (fun _ h9 => h9) n63 dX10_restore_35 ?_
          refine lv_iload_n hx hb dX10_restore_38 rfl (lv_at hl 0 rfl) ?_
          refine lv_aload_n hx hb dX10_restore_39 rfl (lv_at hl 1 rfl) ?_
          have n64 : F1 64 = .ref h_images := (get_ne eF1 (by decide) e_images)
          refine get_f (D := D) (ci := 10) (v := .ref h_images) (C := RX10) (T := TX10) (N := 67) hx hb hw inAX10 hown hK hP 0 rfl rfl 64 (by decide) (hw _ q_1325) (fun _ h9 => h9) n64 dX10_restore_40 ?_
          refine lv_sipush (v := 335) hx hb dX10_restore_43 (by decide) ?_
          refine lv_iload_n hx hb dX10_restore_46 rfl (lv_at hl 2 rfl) ?_
          refine lv_imul hx hb dX10_restore_47 ?_
          refine lv_ci (y := 0) (by decide +kernel) ?_
          refine lv_iload_n hx hb dX10_restore_48 rfl (lv_at hl 0 rfl) ?_
          refine lv_iadd hx hb dX10_restore_49 ?_
          refine lv_topi (fun v65 ev65 => ?_)
          have bv65 : v65.toInt = 0 + u19.toInt := by rw [ev65]; exact add_k rfl rfl ⟨Int.le_refl _, Int.le_refl _⟩ k62 (by decide)
          have k66 : 0 ≤ v65.toInt ∧ v65.toInt ≤ 334 := add_r bv65 ⟨Int.le_refl _, Int.le_refl _⟩ k62 (by decide)
          refine va_iald hx hb hK hP 3 0 rfl rfl (ix_k k66 (by decide) (by decide)) dX10_restore_50 ?_
          refine lv_topi (fun v67 ev67 => ?_)
          have r68 : IMP (0 ≤ v65.toInt → v65.toInt ≤ 0 → 0 ≤ v67.toInt ∧ v67.toInt ≤ 40) := IMP.mk (fun q1 q2 => by rw [ev67]; exact s_images_0.at _ q1 q2)
          have r69 : IMP (105 ≤ v65.toInt → v65.toInt ≤ 108 → 0 ≤ v67.toInt ∧ v67.toInt ≤ 11) := IMP.mk (fun q1 q2 => by rw [ev67]; exact s_images_105.at _ q1 q2)
          have r70 : IMP (114 ≤ v65.toInt → v65.toInt ≤ 114 → 0 ≤ v67.toInt ∧ v67.toInt ≤ 5) := IMP.mk (fun q1 q2 => by rw [ev67]; exact s_images_114.at _ q1 q2)
          have r71 : IMP (130 ≤ v65.toInt → v65.toInt ≤ 133 → 0 ≤ v67.toInt ∧ v67.toInt ≤ 11) := IMP.mk (fun q1 q2 => by rw [ev67]; exact s_images_130.at _ q1 q2)
          have r72 : IMP (139 ≤ v65.toInt → v65.toInt ≤ 139 → 0 ≤ v67.toInt ∧ v67.toInt ≤ 5) := IMP.mk (fun q1 q2 => by rw [ev67]; exact s_images_139.at _ q1 q2)
          have r73 : IMP (153 ≤ v65.toInt → v65.toInt ≤ 153 → 0 ≤ v67.toInt ∧ v67.toInt ≤ 44) := IMP.mk (fun q1 q2 => by rw [ev67]; exact s_images_153.at _ q1 q2)
          have r74 : IMP (44 ≤ v65.toInt → v65.toInt ≤ 55 → 0 ≤ v67.toInt ∧ v67.toInt ≤ 9) := IMP.mk (fun q1 q2 => by rw [ev67]; exact s_images_44.at _ q1 q2)
          have r75 : IMP (5 ≤ v65.toInt → v65.toInt ≤ 5 → 0 ≤ v67.toInt ∧ v67.toInt ≤ 12) := IMP.mk (fun q1 q2 => by rw [ev67]; exact s_images_5.at _ q1 q2)
          have r76 : IMP (6 ≤ v65.toInt → v65.toInt ≤ 6 → 0 ≤ v67.toInt ∧ v67.toInt ≤ 12) := IMP.mk (fun q1 q2 => by rw [ev67]; exact s_images_6.at _ q1 q2)
          have r77 : IMP (7 ≤ v65.toInt → v65.toInt ≤ 7 → 0 ≤ v67.toInt ∧ v67.toInt ≤ 6) := IMP.mk (fun q1 q2 => by rw [ev67]; exact s_images_7.at _ q1 q2)
          obtain ⟨g78, eg78⟩ : ∃ z : Nat → Int32, upd w20 u19.toNatClampNeg v67 = z := ⟨_, rfl⟩
          refine iast_g hx hb hK hP hD hS 1 0 rfl rfl (ix_k k62 (by decide) (by decide)) eg78 dX10_restore_51 (fun H locs hP hD hS => ?_)
          have hP : va_P D vwCl [(h0, .inr (10, vL 67 F1)), (h_s, .inl (cI, 335, .inl g78)), (h_names, .inl (cJ, 36, .inr (.inl f_names))), (h_images, .inl (cI, 670, .inl f_images)), (h_namesKept, .inl (cJ, 36, .inr (.inl f_namesKept))), (h_areKept, .inl (cZ, 2, .inl f_areKept))] H := hP
          have hD : va_D A [(h0, .inr (10, vL 67 F1)), (h_s, .inl (cI, 335, .inl g78)), (h_names, .inl (cJ, 36, .inr (.inl f_names))), (h_images, .inl (cI, 670, .inl f_images)), (h_namesKept, .inl (cJ, 36, .inr (.inl f_namesKept))), (h_areKept, .inl (cZ, 2, .inl f_areKept))] := hD
          obtain ⟨v79, ev79⟩ : ∃ z : Int32, z = u19 + 1 := ⟨_, rfl⟩
          have bv79 : v79.toInt = u19.toInt + 1 := by rw [ev79]; exact add_k rfl rfl k62 ⟨Int.le_refl _, Int.le_refl _⟩ (by decide)
          have k80 : 1 ≤ v79.toInt ∧ v79.toInt ≤ 335 := add_r bv79 k62 ⟨Int.le_refl _, Int.le_refl _⟩ (by decide)
          refine lv_iinc (v := v79) (lv' := [(2, .int v79), (0, .ref h0), (1, .int 0)]) hx hb dX10_restore_52 hl (k := 0) rfl (by rw [ev79]; rfl) (by decide) rfl (fun ls hl => ?_)
          refine lv_goto (tgt := 27) hx hb dX10_restore_55 (by decide) ?_
          exact ih (v79, g78) ⟨(ir_wk k80 (by decide) (by decide)), (CPY.step i22 eg78 ev67 (by omega) (by omega) (by omega))⟩ (by show (335 - v79.toInt).toNat < (335 - u19.toInt).toNat; omega) _ _ _ hP hD hS (lv_sub hl [0, 1, 2] rfl)
      have dk17 : p0.toInt ≠ 0 := ne_i rfl rfl k17
      have k81 : 1 ≤ p0.toInt ∧ p0.toInt ≤ 1 := ⟨ne_lo dk17 k13.1 ⟨Int.le_refl _, Int.le_refl _⟩ (by decide), k13.2⟩
      have k82 : p0 = 1 := Int32.toInt_inj.mp (show p0.toInt = 1 by omega)
      have dk82 : p0.toInt = 1 := eq_i rfl rfl k82
      have hl : lv_has ls 3 [(0, .ref h0), (1, .int 1)] := by have q := hl; rw [k82] at q; exact q
      refine lv_iconst (v := 0) hx hb dX10_restore_25 (by decide) ?_
      refine lv_istore_n (lv' := [(2, .int 0), (0, .ref h0), (1, .int 1)]) hx hb dX10_restore_26 rfl hl (by decide) rfl (fun ls hl => ?_)
      refine mloop (α := (Int32) × (Nat → Int32)) (nL := 3) (D := D) (A := A) (H0 := s.heap) (fun a => (335 - a.1.toInt).toNat) (fun a => IR 0 335 a.1 ∧ (CPY a.2 0 f_images 335 (a.1.toInt))) (fun a => [(h0, .inr (10, vL 67 F1)), (h_s, .inl (cI, 335, .inl a.2)), (h_names, .inl (cJ, 36, .inr (.inl f_names))), (h_images, .inl (cI, 670, .inl f_images)), (h_namesKept, .inl (cJ, 36, .inr (.inl f_namesKept))), (h_areKept, .inl (cZ, 2, .inl f_areKept))]) (fun a => [(2, .int a.1), (0, .ref h0), (1, .int 1)]) (fun H locs ls => W p l e ({ frames := 1, cells := 0, slots := 0, locals := 22 } : Room) s m [.ref h0, .int p0].toArray below meth c H locs 0 0 (MQ below (va_Qi (fun (r : Int32) (u : va_W) => (∃ (Gh : Nat → Value), SAME [0] Fh Gh ∧ Gh 0 = .int 0 ∧ ((0 ≤ p0.toInt → p0.toInt ≤ 1 → (r.toInt = 1 ↔ (f_areKept p0.toNatClampNeg).toInt ≠ 0)) ∧ (p0.toInt < 0 ∨ 1 < p0.toInt → r.toInt = 0)) ∧ r = 0 ∧ u = [(h0, .inr (10, vL 67 Gh)), (h_s, .inl (cI, 335, .inl f_s)), (h_names, .inl (cJ, 36, .inr (.inl f_names))), (h_images, .inl (cI, 670, .inl f_images)), (h_namesKept, .inl (cJ, 36, .inr (.inl f_namesKept))), (h_areKept, .inl (cZ, 2, .inl f_areKept))]) ∨ (∃ (Gh : Nat → Value) (g_s : Nat → Int32) (g_names : Nat → Int64), SAME [0, 41] Fh Gh ∧ Gh 0 = .int 0 ∧ Gh 41 = .int 0 ∧ SG 153 153 0 44 g_s ∧ SG 0 0 0 40 g_s ∧ SG 5 5 0 12 g_s ∧ SG 6 6 0 12 g_s ∧ SG 7 7 0 6 g_s ∧ SG 44 55 0 9 g_s ∧ KW 0 g_s ∧ SG 105 108 0 11 g_s ∧ SG 114 114 0 5 g_s ∧ SG 130 133 0 11 g_s ∧ SG 139 139 0 5 g_s ∧ ((0 ≤ p0.toInt → p0.toInt ≤ 1 → (r.toInt = 1 ↔ (f_areKept p0.toNatClampNeg).toInt ≠ 0)) ∧ (p0.toInt < 0 ∨ 1 < p0.toInt → r.toInt = 0)) ∧ r = 1 ∧ u = [(h0, .inr (10, vL 67 Gh)), (h_s, .inl (cI, 335, .inl g_s)), (h_names, .inl (cJ, 36, .inr (.inl g_names))), (h_images, .inl (cI, 670, .inl f_images)), (h_namesKept, .inl (cJ, 36, .inr (.inl f_namesKept))), (h_areKept, .inl (cZ, 2, .inl f_areKept))])) (PO D A) A) [.ref h0, .int p0].toArray s 0 0 A) (F0 m 27 ls [])) ?_ (0, f_s) ⟨(show 0 ≤ (0 : Int32).toInt ∧ (0 : Int32).toInt ≤ 335 by decide), (show CPY f_s 0 f_images 335 (0) from (CPY.zero (by decide)))⟩ _ _ _ hP hD hS hl
      rintro ⟨u83, w84⟩ ⟨i85, i86⟩ ih H locs ls hP hD hS hl
      have i85 : 0 ≤ u83.toInt ∧ u83.toInt ≤ 335 := i85
      have i86 : CPY w84 0 f_images 335 (u83.toInt) := i86
      have hP : va_P D vwCl [(h0, .inr (10, vL 67 F1)), (h_s, .inl (cI, 335, .inl w84)), (h_names, .inl (cJ, 36, .inr (.inl f_names))), (h_images, .inl (cI, 670, .inl f_images)), (h_namesKept, .inl (cJ, 36, .inr (.inl f_namesKept))), (h_areKept, .inl (cZ, 2, .inl f_areKept))] H := hP
      have hD : va_D A [(h0, .inr (10, vL 67 F1)), (h_s, .inl (cI, 335, .inl w84)), (h_names, .inl (cJ, 36, .inr (.inl f_names))), (h_images, .inl (cI, 670, .inl f_images)), (h_namesKept, .inl (cJ, 36, .inr (.inl f_namesKept))), (h_areKept, .inl (cZ, 2, .inl f_areKept))] := hD
      have hl : lv_has ls 3 [(2, .int u83), (0, .ref h0), (1, .int 1)] := hl
      refine lv_iload_n hx hb dX10_restore_27 rfl (lv_at hl 0 rfl) ?_
      refine lv_sipush (v := 335) hx hb dX10_restore_28 (by decide) ?_
      refine lv_icmp_ge (tgt := 58) hx hb dX10_restore_31 (by decide) (fun c87 => ?_) (fun c87 => ?_)
      · have dc87 : 335 ≤ u83.toInt := le_i (a := 335) (b := u83.toInt) rfl rfl c87
        have k88 : 335 ≤ u83.toInt ∧ u83.toInt ≤ 335 := ⟨Int.le_trans (Int.le_refl _) dc87, i85.2⟩
        have r90 : KW 0 w84 := KW.cpy i86 s_images_K335 (by omega) (by decide)
        have r97 : SG 0 0 0 40 w84 := SG.cpy i86 s_images_335 (by decide) (by decide) (by decide) (by omega)
        have r98 : SG 5 5 0 12 w84 := SG.cpy i86 s_images_340 (by decide) (by decide) (by decide) (by omega)
        have r99 : SG 6 6 0 12 w84 := SG.cpy i86 s_images_341 (by decide) (by decide) (by decide) (by omega)
        have r100 : SG 7 7 0 6 w84 := SG.cpy i86 s_images_342 (by decide) (by decide) (by decide) (by omega)
        have r101 : SG 44 55 0 9 w84 := SG.cpy i86 s_images_379 (by decide) (by decide) (by decide) (by omega)
        have r103 : SG 105 108 0 11 w84 := SG.cpy i86 s_images_440 (by decide) (by decide) (by decide) (by omega)
        have r104 : SG 114 114 0 5 w84 := SG.cpy i86 s_images_449 (by decide) (by decide) (by decide) (by omega)
        have r105 : SG 130 133 0 11 w84 := SG.cpy i86 s_images_465 (by decide) (by decide) (by decide) (by omega)
        have r106 : SG 139 139 0 5 w84 := SG.cpy i86 s_images_474 (by decide) (by decide) (by decide) (by omega)
        have r107 : SG 153 153 0 44 w84 := SG.cpy i86 s_images_488 (by decide) (by decide) (by decide) (by omega)
        refine lv_iconst (v := 0) hx hb dX10_restore_58 (by decide) ?_
        refine lv_istore_n (lv' := [(2, .int 0), (0, .ref h0), (1, .int 1)]) hx hb dX10_restore_59 rfl hl (by decide) rfl (fun ls hl => ?_)
        refine mloop (α := (Int32) × (Nat → Int64)) (nL := 3) (D := D) (A := A) (H0 := s.heap) (fun a => (18 - a.1.toInt).toNat) (fun a => IR 0 18 a.1) (fun a => [(h0, .inr (10, vL 67 F1)), (h_s, .inl (cI, 335, .inl w84)), (h_names, .inl (cJ, 36, .inr (.inl a.2))), (h_images, .inl (cI, 670, .inl f_images)), (h_namesKept, .inl (cJ, 36, .inr (.inl f_namesKept))), (h_areKept, .inl (cZ, 2, .inl f_areKept))]) (fun a => [(2, .int a.1), (0, .ref h0), (1, .int 1)]) (fun H locs ls => W p l e ({ frames := 1, cells := 0, slots := 0, locals := 22 } : Room) s m [.ref h0, .int p0].toArray below meth c H locs 0 0 (MQ below (va_Qi (fun (r : Int32) (u : va_W) => (∃ (Gh : Nat → Value), SAME [0] Fh Gh ∧ Gh 0 = .int 0 ∧ ((0 ≤ p0.toInt → p0.toInt ≤ 1 → (r.toInt = 1 ↔ (f_areKept p0.toNatClampNeg).toInt ≠ 0)) ∧ (p0.toInt < 0 ∨ 1 < p0.toInt → r.toInt = 0)) ∧ r = 0 ∧ u = [(h0, .inr (10, vL 67 Gh)), (h_s, .inl (cI, 335, .inl f_s)), (h_names, .inl (cJ, 36, .inr (.inl f_names))), (h_images, .inl (cI, 670, .inl f_images)), (h_namesKept, .inl (cJ, 36, .inr (.inl f_namesKept))), (h_areKept, .inl (cZ, 2, .inl f_areKept))]) ∨ (∃ (Gh : Nat → Value) (g_s : Nat → Int32) (g_names : Nat → Int64), SAME [0, 41] Fh Gh ∧ Gh 0 = .int 0 ∧ Gh 41 = .int 0 ∧ SG 153 153 0 44 g_s ∧ SG 0 0 0 40 g_s ∧ SG 5 5 0 12 g_s ∧ SG 6 6 0 12 g_s ∧ SG 7 7 0 6 g_s ∧ SG 44 55 0 9 g_s ∧ KW 0 g_s ∧ SG 105 108 0 11 g_s ∧ SG 114 114 0 5 g_s ∧ SG 130 133 0 11 g_s ∧ SG 139 139 0 5 g_s ∧ ((0 ≤ p0.toInt → p0.toInt ≤ 1 → (r.toInt = 1 ↔ (f_areKept p0.toNatClampNeg).toInt ≠ 0)) ∧ (p0.toInt < 0 ∨ 1 < p0.toInt → r.toInt = 0)) ∧ r = 1 ∧ u = [(h0, .inr (10, vL 67 Gh)), (h_s, .inl (cI, 335, .inl g_s)), (h_names, .inl (cJ, 36, .inr (.inl g_names))), (h_images, .inl (cI, 670, .inl f_images)), (h_namesKept, .inl (cJ, 36, .inr (.inl f_namesKept))), (h_areKept, .inl (cZ, 2, .inl f_areKept))])) (PO D A) A) [.ref h0, .int p0].toArray s 0 0 A) (F0 m 60 ls [])) ?_ (0, f_names) (show 0 ≤ (0 : Int32).toInt ∧ (0 : Int32).toInt ≤ 18 by decide) _ _ _ hP hD hS hl
        rintro ⟨u111, w112⟩ i113 ih_60 H locs ls hP hD hS hl
        have i113 : 0 ≤ u111.toInt ∧ u111.toInt ≤ 18 := i113
        have hP : va_P D vwCl [(h0, .inr (10, vL 67 F1)), (h_s, .inl (cI, 335, .inl w84)), (h_names, .inl (cJ, 36, .inr (.inl w112))), (h_images, .inl (cI, 670, .inl f_images)), (h_namesKept, .inl (cJ, 36, .inr (.inl f_namesKept))), (h_areKept, .inl (cZ, 2, .inl f_areKept))] H := hP
        have hD : va_D A [(h0, .inr (10, vL 67 F1)), (h_s, .inl (cI, 335, .inl w84)), (h_names, .inl (cJ, 36, .inr (.inl w112))), (h_images, .inl (cI, 670, .inl f_images)), (h_namesKept, .inl (cJ, 36, .inr (.inl f_namesKept))), (h_areKept, .inl (cZ, 2, .inl f_areKept))] := hD
        have hl : lv_has ls 3 [(2, .int u111), (0, .ref h0), (1, .int 1)] := hl
        refine lv_iload_n hx hb dX10_restore_60 rfl (lv_at hl 0 rfl) ?_
        refine lv_bipush (v := 18) hx hb dX10_restore_61 (by decide) ?_
        refine lv_icmp_ge (tgt := 89) hx hb dX10_restore_63 (by decide) (fun c114 => ?_) (fun c114 => ?_)
        · have dc114 : 18 ≤ u111.toInt := le_i (a := 18) (b := u111.toInt) rfl rfl c114
          have k115 : 18 ≤ u111.toInt ∧ u111.toInt ≤ 18 := ⟨Int.le_trans (Int.le_refl _) dc114, i113.2⟩
          refine lv_aload_n hx hb dX10_restore_89 rfl (lv_at hl 1 rfl) ?_
          refine lv_iconst (v := 0) hx hb dX10_restore_90 (by decide) ?_
          refine put_f (D := D) (ci := 10) (v := .int 0) (ty := .int) (C := RX10) (T := TX10) (N := 67) hx hb hw inAX10 tyX10 tyX10_ok nmX10 hown hK hP hD hS 0 rfl rfl 41 (by decide) (hw _ q_1302) (fun _ h9 => h9) rfl (by decide +kernel) rfl rfl dX10_restore_91 (fun H locs F116 eF116 hP hD hS => ?_)
          have hP : va_P D vwCl [(h0, .inr (10, vL 67 F116)), (h_s, .inl (cI, 335, .inl w84)), (h_names, .inl (cJ, 36, .inr (.inl w112))), (h_images, .inl (cI, 670, .inl f_images)), (h_namesKept, .inl (cJ, 36, .inr (.inl f_namesKept))), (h_areKept, .inl (cZ, 2, .inl f_areKept))] H := hP
          have hD : va_D A [(h0, .inr (10, vL 67 F116)), (h_s, .inl (cI, 335, .inl w84)), (h_names, .inl (cJ, 36, .inr (.inl w112))), (h_images, .inl (cI, 670, .inl f_images)), (h_namesKept, .inl (cJ, 36, .inr (.inl f_namesKept))), (h_areKept, .inl (cZ, 2, .inl f_areKept))] := hD
          refine lv_iconst (v := 1) hx hb dX10_restore_94 (by decide) ?_
          exact ret_i (v := 1) hx hb hr hlocks hS hP hD dX10_restore_95 rfl (Nat.le_of_ble_eq_true rfl) (Nat.le_of_ble_eq_true rfl) (Or.inr ⟨F116, w84, w112, (SAME.up eF116 (SAME.up eF1 SAME.rf (by decide)) (by decide)), (get_ne eF116 (by decide) (get_eq eF1)), (get_eq eF116), r107, r97, r98, r99, r100, r101, r90, r103, r104, r105, r106, (by have hkv15 := congrArg Int32.toInt ev15; have zl1 : (1 : Int32).toInt = 1 := (by decide); omega), rfl, rfl⟩)
        · have dc114 : u111.toInt < 18 := nle_i (a := 18) (b := u111.toInt) rfl rfl c114
          have k117 : 0 ≤ u111.toInt ∧ u111.toInt ≤ 17 := ⟨i113.1, up_lt dc114 (Int.le_refl _) (by decide)⟩
          refine lv_aload_n hx hb dX10_restore_66 rfl (lv_at hl 1 rfl) ?_
          have n118 : F1 9 = .ref h_names := (get_ne eF1 (by decide) e_names)
          refine get_f (D := D) (ci := 10) (v := .ref h_names) (C := RX10) (T := TX10) (N := 67) hx hb hw inAX10 hown hK hP 0 rfl rfl 9 (by decide) (hw _ q_1270) (fun _ h9 => h9) n118 dX10_restore_67 ?_
          refine lv_iload_n hx hb dX10_restore_70 rfl (lv_at hl 0 rfl) ?_
          refine lv_aload_n hx hb dX10_restore_71 rfl (lv_at hl 1 rfl) ?_
          have n119 : F1 65 = .ref h_namesKept := (get_ne eF1 (by decide) e_namesKept)
          refine get_f (D := D) (ci := 10) (v := .ref h_namesKept) (C := RX10) (T := TX10) (N := 67) hx hb hw inAX10 hown hK hP 0 rfl rfl 65 (by decide) (hw _ q_1326) (fun _ h9 => h9) n119 dX10_restore_72 ?_
          refine lv_bipush (v := 18) hx hb dX10_restore_75 (by decide) ?_
          refine lv_iload_n hx hb dX10_restore_77 rfl (lv_at hl 2 rfl) ?_
          refine lv_imul hx hb dX10_restore_78 ?_
          refine lv_ci (y := 18) (by decide +kernel) ?_
          refine lv_iload_n hx hb dX10_restore_79 rfl (lv_at hl 0 rfl) ?_
          refine lv_iadd hx hb dX10_restore_80 ?_
          refine lv_topi (fun v120 ev120 => ?_)
          have bv120 : v120.toInt = 18 + u111.toInt := by rw [ev120]; exact add_k rfl rfl ⟨Int.le_refl _, Int.le_refl _⟩ k117 (by decide)
          have k121 : 18 ≤ v120.toInt ∧ v120.toInt ≤ 35 := add_r bv120 ⟨Int.le_refl _, Int.le_refl _⟩ k117 (by decide)
          refine va_lald hx hb hK hP 4 1 rfl rfl (ix_k k121 (by decide) (by decide)) dX10_restore_81 ?_
          refine lv_topl (fun v122 ev122 => ?_)
          obtain ⟨g123, eg123⟩ : ∃ z : Nat → Int64, vp_updL w112 u111.toNatClampNeg v122 = z := ⟨_, rfl⟩
          refine last_g hx hb hK hP hD hS 2 1 rfl rfl (ix_k k117 (by decide) (by decide)) eg123 dX10_restore_82 (fun H locs hP hD hS => ?_)
          have hP : va_P D vwCl [(h0, .inr (10, vL 67 F1)), (h_s, .inl (cI, 335, .inl w84)), (h_names, .inl (cJ, 36, .inr (.inl g123))), (h_images, .inl (cI, 670, .inl f_images)), (h_namesKept, .inl (cJ, 36, .inr (.inl f_namesKept))), (h_areKept, .inl (cZ, 2, .inl f_areKept))] H := hP
          have hD : va_D A [(h0, .inr (10, vL 67 F1)), (h_s, .inl (cI, 335, .inl w84)), (h_names, .inl (cJ, 36, .inr (.inl g123))), (h_images, .inl (cI, 670, .inl f_images)), (h_namesKept, .inl (cJ, 36, .inr (.inl f_namesKept))), (h_areKept, .inl (cZ, 2, .inl f_areKept))] := hD
          obtain ⟨v124, ev124⟩ : ∃ z : Int32, z = u111 + 1 := ⟨_, rfl⟩
          have bv124 : v124.toInt = u111.toInt + 1 := by rw [ev124]; exact add_k rfl rfl k117 ⟨Int.le_refl _, Int.le_refl _⟩ (by decide)
          have k125 : 1 ≤ v124.toInt ∧ v124.toInt ≤ 18 := add_r bv124 k117 ⟨Int.le_refl _, Int.le_refl _⟩ (by decide)
          refine lv_iinc (v := v124) (lv' := [(2, .int v124), (0, .ref h0), (1, .int 1)]) hx hb dX10_restore_83 hl (k := 0) rfl (by rw [ev124]; rfl) (by decide) rfl (fun ls hl => ?_)
          refine lv_goto (tgt := 60) hx hb dX10_restore_86 (by decide) ?_
          exact ih_60 (v124, g123) (ir_wk k125 (by decide) (by decide)) (by show (18 - v124.toInt).toNat < (18 - u111.toInt).toNat; omega) _ _ _ hP hD hS (lv_sub hl [0, 1, 2] rfl)
      · have dc87 : u83.toInt < 335 := nle_i (a := 335) (b := u83.toInt) rfl rfl c87
        have k126 : 0 ≤ u83.toInt ∧ u83.toInt ≤ 334 := ⟨i85.1, up_lt dc87 (Int.le_refl _) (by decide)⟩
        refine lv_aload_n hx hb dX10_restore_34 rfl (lv_at hl 1 rfl) ?_
        have n127 : F1 6 = .ref h_s := (get_ne eF1 (by decide) e_s)
        refine get_f (D := D) (ci := 10) (v := .ref h_s) (C := RX10) (T := TX10) (N := 67) hx hb hw inAX10 hown hK hP 0 rfl rfl 6 (by decide) (hw _ q_1267) (fun _ h9 => h9) n127 dX10_restore_35 ?_
        refine lv_iload_n hx hb dX10_restore_38 rfl (lv_at hl 0 rfl) ?_
        refine lv_aload_n hx hb dX10_restore_39 rfl (lv_at hl 1 rfl) ?_
        have n128 : F1 64 = .ref h_images := (get_ne eF1 (by decide) e_images)
        refine get_f (D := D) (ci := 10) (v := .ref h_images) (C := RX10) (T := TX10) (N := 67) hx hb hw inAX10 hown hK hP 0 rfl rfl 64 (by decide) (hw _ q_1325) (fun _ h9 => h9) n128 dX10_restore_40 ?_
        refine lv_sipush (v := 335) hx hb dX10_restore_43 (by decide) ?_
        refine lv_iload_n hx hb dX10_restore_46 rfl (lv_at hl 2 rfl) ?_
        refine lv_imul hx hb dX10_restore_47 ?_
        refine lv_ci (y := 335) (by decide +kernel) ?_
        refine lv_iload_n hx hb dX10_restore_48 rfl (lv_at hl 0 rfl) ?_
        refine lv_iadd hx hb dX10_restore_49 ?_
        refine lv_topi (fun v129 ev129 => ?_)
        have bv129 : v129.toInt = 335 + u83.toInt := by rw [ev129]; exact add_k rfl rfl ⟨Int.le_refl _, Int.le_refl _⟩ k126 (by decide)
        have k130 : 335 ≤ v129.toInt ∧ v129.toInt ≤ 669 := add_r bv129 ⟨Int.le_refl _, Int.le_refl _⟩ k126 (by decide)
        refine va_iald hx hb hK hP 3 0 rfl rfl (ix_k k130 (by decide) (by decide)) dX10_restore_50 ?_
        refine lv_topi (fun v131 ev131 => ?_)
        have r132 : IMP (335 ≤ v129.toInt → v129.toInt ≤ 335 → 0 ≤ v131.toInt ∧ v131.toInt ≤ 40) := IMP.mk (fun q1 q2 => by rw [ev131]; exact s_images_335.at _ q1 q2)
        have r133 : IMP (340 ≤ v129.toInt → v129.toInt ≤ 340 → 0 ≤ v131.toInt ∧ v131.toInt ≤ 12) := IMP.mk (fun q1 q2 => by rw [ev131]; exact s_images_340.at _ q1 q2)
        have r134 : IMP (341 ≤ v129.toInt → v129.toInt ≤ 341 → 0 ≤ v131.toInt ∧ v131.toInt ≤ 12) := IMP.mk (fun q1 q2 => by rw [ev131]; exact s_images_341.at _ q1 q2)
        have r135 : IMP (342 ≤ v129.toInt → v129.toInt ≤ 342 → 0 ≤ v131.toInt ∧ v131.toInt ≤ 6) := IMP.mk (fun q1 q2 => by rw [ev131]; exact s_images_342.at _ q1 q2)
        have r136 : IMP (379 ≤ v129.toInt → v129.toInt ≤ 390 → 0 ≤ v131.toInt ∧ v131.toInt ≤ 9) := IMP.mk (fun q1 q2 => by rw [ev131]; exact s_images_379.at _ q1 q2)
        have r137 : IMP (440 ≤ v129.toInt → v129.toInt ≤ 443 → 0 ≤ v131.toInt ∧ v131.toInt ≤ 11) := IMP.mk (fun q1 q2 => by rw [ev131]; exact s_images_440.at _ q1 q2)
        have r138 : IMP (449 ≤ v129.toInt → v129.toInt ≤ 449 → 0 ≤ v131.toInt ∧ v131.toInt ≤ 5) := IMP.mk (fun q1 q2 => by rw [ev131]; exact s_images_449.at _ q1 q2)
        have r139 : IMP (465 ≤ v129.toInt → v129.toInt ≤ 468 → 0 ≤ v131.toInt ∧ v131.toInt ≤ 11) := IMP.mk (fun q1 q2 => by rw [ev131]; exact s_images_465.at _ q1 q2)
        have r140 : IMP (474 ≤ v129.toInt → v129.toInt ≤ 474 → 0 ≤ v131.toInt ∧ v131.toInt ≤ 5) := IMP.mk (fun q1 q2 => by rw [ev131]; exact s_images_474.at _ q1 q2)
        have r141 : IMP (488 ≤ v129.toInt → v129.toInt ≤ 488 → 0 ≤ v131.toInt ∧ v131.toInt ≤ 44) := IMP.mk (fun q1 q2 => by rw [ev131]; exact s_images_488.at _ q1 q2)
        obtain ⟨g142, eg142⟩ : ∃ z : Nat → Int32, upd w84 u83.toNatClampNeg v131 = z := ⟨_, rfl⟩
        refine iast_g hx hb hK hP hD hS 1 0 rfl rfl (ix_k k126 (by decide) (by decide)) eg142 dX10_restore_51 (fun H locs hP hD hS => ?_)
        have hP : va_P D vwCl [(h0, .inr (10, vL 67 F1)), (h_s, .inl (cI, 335, .inl g142)), (h_names, .inl (cJ, 36, .inr (.inl f_names))), (h_images, .inl (cI, 670, .inl f_images)), (h_namesKept, .inl (cJ, 36, .inr (.inl f_namesKept))), (h_areKept, .inl (cZ, 2, .inl f_areKept))] H := hP
        have hD : va_D A [(h0, .inr (10, vL 67 F1)), (h_s, .inl (cI, 335, .inl g142)), (h_names, .inl (cJ, 36, .inr (.inl f_names))), (h_images, .inl (cI, 670, .inl f_images)), (h_namesKept, .inl (cJ, 36, .inr (.inl f_namesKept))), (h_areKept, .inl (cZ, 2, .inl f_areKept))] := hD
        obtain ⟨v143, ev143⟩ : ∃ z : Int32, z = u83 + 1 := ⟨_, rfl⟩
        have bv143 : v143.toInt = u83.toInt + 1 := by rw [ev143]; exact add_k rfl rfl k126 ⟨Int.le_refl _, Int.le_refl _⟩ (by decide)
        have k144 : 1 ≤ v143.toInt ∧ v143.toInt ≤ 335 := add_r bv143 k126 ⟨Int.le_refl _, Int.le_refl _⟩ (by decide)
        refine lv_iinc (v := v143) (lv' := [(2, .int v143), (0, .ref h0), (1, .int 1)]) hx hb dX10_restore_52 hl (k := 0) rfl (by rw [ev143]; rfl) (by decide) rfl (fun ls hl => ?_)
        refine lv_goto (tgt := 27) hx hb dX10_restore_55 (by decide) ?_
        exact ih (v143, g142) ⟨(ir_wk k144 (by decide) (by decide)), (CPY.step i86 eg142 ev131 (by omega) (by omega) (by omega))⟩ (by show (335 - v143.toInt).toNat < (335 - u83.toInt).toNat; omega) _ _ _ hP hD hS (lv_sub hl [0, 1, 2] rfl)
    · have dc16 : v15.toInt = 0 := eq_i (a := v15.toInt) (b := 0) rfl rfl c16
      have k145 : 0 ≤ v15.toInt ∧ v15.toInt ≤ 0 := ⟨Int.le_trans (Int.le_refl _) (Int.le_of_eq dc16.symm), Int.le_trans (Int.le_of_eq dc16) (Int.le_refl _)⟩
      refine lv_iconst (v := 0) hx hb dX10_restore_23 (by decide) ?_
      exact ret_i (v := 0) hx hb hr hlocks hS hP hD dX10_restore_24 rfl (Nat.le_of_ble_eq_true rfl) (Nat.le_of_ble_eq_true rfl) (Or.inl ⟨F1, (SAME.up eF1 SAME.rf (by decide)), (get_eq eF1), (by have hkv15 := congrArg Int32.toInt ev15; have zl0 : (0 : Int32).toInt = 0 := (by decide); omega), rfl, rfl⟩)
set_option maxHeartbeats 4000000 in
set_option maxRecDepth 100000 in
theorem m_X10_count (l : Launch) (D : va_G) (cI cJ cB cP cM cZ : ClassId) (h0 : Nat) (h_s : Nat) (Fh : Nat → Value) (x_length : Int32) (f_s : Nat → Int32) (p0 : Int32) (sz : Nat) (e_length : Fh 2 = .int x_length) (i_x_length : IR 0 940 x_length) (e_s : Fh 6 = .ref h_s) (s_s_K0 : KW 0 f_s) (s_s_0 : SG 0 0 0 40 f_s) (s_s_105 : SG 105 108 0 11 f_s) (s_s_114 : SG 114 114 0 5 f_s) (s_s_130 : SG 130 133 0 11 f_s) (s_s_139 : SG 139 139 0 5 f_s) (s_s_153 : SG 153 153 0 44 f_s) (s_s_44 : SG 44 55 0 9 f_s) (s_s_5 : SG 5 5 0 12 f_s) (s_s_6 : SG 6 6 0 12 f_s) (s_s_7 : SG 7 7 0 6 f_s) : CI l yX10_count cX10_count 2 (some .int) { frames := 1, cells := 0, slots := 0, locals := 22 } (GG D cI cJ cB cP cM cZ) D [(h0, .inr (10, vL 67 Fh)), (h_s, .inl (cI, 335, .inl f_s))] sz [.ref h0, .int p0] (fun (r : Int32) (u : va_W) => ∃ (Gh : Nat → Value), SAME [0] Fh Gh ∧ Gh 0 = .int 0 ∧ u = [(h0, .inr (10, vL 67 Gh)), (h_s, .inl (cI, 335, .inl f_s))]) := by
  refine CI_mk (by decide) (Nat.le_of_ble_eq_true rfl) ?_
  intro p e s m below meth c A ls E hAe hG hsz hP hD hA hS hl
  obtain ⟨hx, hb, hr, hw, hown, hlocks, hml, hnm⟩ := E
  have hK := hG.1
  have i_x_length : 0 ≤ x_length.toInt ∧ x_length.toInt ≤ 940 := i_x_length
  have hl : lv_has ls 2 [(0, .ref h0), (1, .int p0)] := hl
  refine lv_aload_n hx hb dX10_count_0 rfl (lv_at hl 0 rfl) ?_
  refine lv_iconst (v := 0) hx hb dX10_count_1 (by decide) ?_
  refine put_f (D := D) (ci := 10) (v := .int 0) (ty := .int) (C := RX10) (T := TX10) (N := 67) hx hb hw inAX10 tyX10 tyX10_ok nmX10 hown hK hP hD hS 0 rfl rfl 0 (by decide) (hw _ q_1261) (fun _ h9 => h9) rfl (by decide +kernel) rfl rfl dX10_count_2 (fun H locs F1 eF1 hP hD hS => ?_)
  have hP : va_P D vwCl [(h0, .inr (10, vL 67 F1)), (h_s, .inl (cI, 335, .inl f_s))] H := hP
  have hD : va_D A [(h0, .inr (10, vL 67 F1)), (h_s, .inl (cI, 335, .inl f_s))] := hD
  refine lv_iload_n hx hb dX10_count_5 rfl (lv_at hl 1 rfl) ?_
  by_cases k2 : p0 = 8
  · have dk2 : p0.toInt = 8 := eq_i rfl rfl k2
    have k3 : 8 ≤ p0.toInt ∧ p0.toInt ≤ 8 := ⟨Int.le_trans (Int.le_refl _) (Int.le_of_eq dk2.symm), Int.le_trans (Int.le_of_eq dk2) (Int.le_refl _)⟩
    refine lv_ci (y := 8) k2 ?_
    refine lv_tableIn (tgt := 40) (off := 34) hx hb dX10_count_6 (by decide) (by decide) (by decide) (by decide) ?_
    refine lv_aload_n hx hb dX10_count_40 rfl (lv_at hl 0 rfl) ?_
    have n4 : F1 6 = .ref h_s := (get_ne eF1 (by decide) e_s)
    refine get_f (D := D) (ci := 10) (v := .ref h_s) (C := RX10) (T := TX10) (N := 67) hx hb hw inAX10 hown hK hP 0 rfl rfl 6 (by decide) (hw _ q_1267) (fun _ h9 => h9) n4 dX10_count_41 ?_
    refine lv_bipush (v := 113) hx hb dX10_count_44 (by decide) ?_
    refine iald_n hx hb hK hP 1 0 rfl rfl 113 rfl (Nat.le_of_ble_eq_true rfl) (Nat.le_of_ble_eq_true rfl) rfl dX10_count_46 ?_
    refine lv_topi (fun v5 ev5 => ?_)
    exact ret_i (v := v5) hx hb hr hlocks hS hP hD dX10_count_47 rfl (Nat.le_of_ble_eq_true rfl) (Nat.le_of_ble_eq_true rfl) ⟨F1, (SAME.up eF1 SAME.rf (by decide)), (get_eq eF1), rfl⟩
  by_cases k6 : p0 = 9
  · have dk6 : p0.toInt = 9 := eq_i rfl rfl k6
    have k7 : 9 ≤ p0.toInt ∧ p0.toInt ≤ 9 := ⟨Int.le_trans (Int.le_refl _) (Int.le_of_eq dk6.symm), Int.le_trans (Int.le_of_eq dk6) (Int.le_refl _)⟩
    refine lv_ci (y := 9) k6 ?_
    refine lv_tableIn (tgt := 48) (off := 42) hx hb dX10_count_6 (by decide) (by decide) (by decide) (by decide) ?_
    refine lv_aload_n hx hb dX10_count_48 rfl (lv_at hl 0 rfl) ?_
    have n8 : F1 6 = .ref h_s := (get_ne eF1 (by decide) e_s)
    refine get_f (D := D) (ci := 10) (v := .ref h_s) (C := RX10) (T := TX10) (N := 67) hx hb hw inAX10 hown hK hP 0 rfl rfl 6 (by decide) (hw _ q_1267) (fun _ h9 => h9) n8 dX10_count_49 ?_
    refine lv_bipush (v := 7) hx hb dX10_count_52 (by decide) ?_
    refine iald_n hx hb hK hP 1 0 rfl rfl 7 rfl (Nat.le_of_ble_eq_true rfl) (Nat.le_of_ble_eq_true rfl) rfl dX10_count_54 ?_
    refine lv_topi (fun v9 ev9 => ?_)
    have k10 : 0 ≤ v9.toInt ∧ v9.toInt ≤ 6 := by rw [ev9]; exact s_s_7.atN 7 (by decide) (by decide)
    refine lv_if_ne (tgt := 62) hx hb dX10_count_55 (by decide) (fun c11 => ?_) (fun c11 => ?_)
    · have dc11 : v9.toInt ≠ 0 := ne_i (a := v9.toInt) (b := 0) rfl rfl c11
      have k12 : 1 ≤ v9.toInt ∧ v9.toInt ≤ 6 := ⟨ne_lo dc11 k10.1 ⟨Int.le_refl _, Int.le_refl _⟩ (by decide), k10.2⟩
      refine lv_aload_n hx hb dX10_count_62 rfl (lv_at hl 0 rfl) ?_
      refine get_f (D := D) (ci := 10) (v := .ref h_s) (C := RX10) (T := TX10) (N := 67) hx hb hw inAX10 hown hK hP 0 rfl rfl 6 (by decide) (hw _ q_1267) (fun _ h9 => h9) n8 dX10_count_63 ?_
      refine lv_bipush (v := 114) hx hb dX10_count_66 (by decide) ?_
      refine iald_n hx hb hK hP 1 0 rfl rfl 114 rfl (Nat.le_of_ble_eq_true rfl) (Nat.le_of_ble_eq_true rfl) rfl dX10_count_68 ?_
      refine lv_topi (fun v13 ev13 => ?_)
      have k14 : 0 ≤ v13.toInt ∧ v13.toInt ≤ 5 := by rw [ev13]; exact s_s_114.atN 114 (by decide) (by decide)
      exact ret_i (v := v13) hx hb hr hlocks hS hP hD dX10_count_69 rfl (Nat.le_of_ble_eq_true rfl) (Nat.le_of_ble_eq_true rfl) ⟨F1, (SAME.up eF1 SAME.rf (by decide)), (get_eq eF1), rfl⟩
    · have dc11 : v9.toInt = 0 := eq_i (a := v9.toInt) (b := 0) rfl rfl c11
      have k15 : 0 ≤ v9.toInt ∧ v9.toInt ≤ 0 := ⟨k10.1, Int.le_trans (Int.le_of_eq dc11) (Int.le_refl _)⟩
      refine lv_iconst (v := (-1)) hx hb dX10_count_58 (by decide) ?_
      refine lv_goto (tgt := 69) hx hb dX10_count_59 (by decide) ?_
      exact ret_i (v := (-1)) hx hb hr hlocks hS hP hD dX10_count_69 rfl (Nat.le_of_ble_eq_true rfl) (Nat.le_of_ble_eq_true rfl) ⟨F1, (SAME.up eF1 SAME.rf (by decide)), (get_eq eF1), rfl⟩
  by_cases k16 : p0 = 10
  · have dk16 : p0.toInt = 10 := eq_i rfl rfl k16
    have k17 : 10 ≤ p0.toInt ∧ p0.toInt ≤ 10 := ⟨Int.le_trans (Int.le_refl _) (Int.le_of_eq dk16.symm), Int.le_trans (Int.le_of_eq dk16) (Int.le_refl _)⟩
    refine lv_ci (y := 10) k16 ?_
    refine lv_tableIn (tgt := 70) (off := 64) hx hb dX10_count_6 (by decide) (by decide) (by decide) (by decide) ?_
    refine lv_aload_n hx hb dX10_count_70 rfl (lv_at hl 0 rfl) ?_
    have n18 : F1 6 = .ref h_s := (get_ne eF1 (by decide) e_s)
    refine get_f (D := D) (ci := 10) (v := .ref h_s) (C := RX10) (T := TX10) (N := 67) hx hb hw inAX10 hown hK hP 0 rfl rfl 6 (by decide) (hw _ q_1267) (fun _ h9 => h9) n18 dX10_count_71 ?_
    refine lv_bipush (v := 115) hx hb dX10_count_74 (by decide) ?_
    refine iald_n hx hb hK hP 1 0 rfl rfl 115 rfl (Nat.le_of_ble_eq_true rfl) (Nat.le_of_ble_eq_true rfl) rfl dX10_count_76 ?_
    refine lv_topi (fun v19 ev19 => ?_)
    exact ret_i (v := v19) hx hb hr hlocks hS hP hD dX10_count_77 rfl (Nat.le_of_ble_eq_true rfl) (Nat.le_of_ble_eq_true rfl) ⟨F1, (SAME.up eF1 SAME.rf (by decide)), (get_eq eF1), rfl⟩
  by_cases k20 : p0 = 11
  · have dk20 : p0.toInt = 11 := eq_i rfl rfl k20
    have k21 : 11 ≤ p0.toInt ∧ p0.toInt ≤ 11 := ⟨Int.le_trans (Int.le_refl _) (Int.le_of_eq dk20.symm), Int.le_trans (Int.le_of_eq dk20) (Int.le_refl _)⟩
    refine lv_ci (y := 11) k20 ?_
    refine lv_tableIn (tgt := 78) (off := 72) hx hb dX10_count_6 (by decide) (by decide) (by decide) (by decide) ?_
    refine lv_aload_n hx hb dX10_count_78 rfl (lv_at hl 0 rfl) ?_
    have n22 : F1 6 = .ref h_s := (get_ne eF1 (by decide) e_s)
    refine get_f (D := D) (ci := 10) (v := .ref h_s) (C := RX10) (T := TX10) (N := 67) hx hb hw inAX10 hown hK hP 0 rfl rfl 6 (by decide) (hw _ q_1267) (fun _ h9 => h9) n22 dX10_count_79 ?_
    refine lv_bipush (v := 104) hx hb dX10_count_82 (by decide) ?_
    refine iald_n hx hb hK hP 1 0 rfl rfl 104 rfl (Nat.le_of_ble_eq_true rfl) (Nat.le_of_ble_eq_true rfl) rfl dX10_count_84 ?_
    refine lv_topi (fun v23 ev23 => ?_)
    exact ret_i (v := v23) hx hb hr hlocks hS hP hD dX10_count_85 rfl (Nat.le_of_ble_eq_true rfl) (Nat.le_of_ble_eq_true rfl) ⟨F1, (SAME.up eF1 SAME.rf (by decide)), (get_eq eF1), rfl⟩
  by_cases k24 : p0 = 12
  · have dk24 : p0.toInt = 12 := eq_i rfl rfl k24
    have k25 : 12 ≤ p0.toInt ∧ p0.toInt ≤ 12 := ⟨Int.le_trans (Int.le_refl _) (Int.le_of_eq dk24.symm), Int.le_trans (Int.le_of_eq dk24) (Int.le_refl _)⟩
    refine lv_ci (y := 12) k24 ?_
    refine lv_tableIn (tgt := 86) (off := 80) hx hb dX10_count_6 (by decide) (by decide) (by decide) (by decide) ?_
    refine lv_aload_n hx hb dX10_count_86 rfl (lv_at hl 0 rfl) ?_
    have n26 : F1 2 = .int x_length := (get_ne eF1 (by decide) e_length)
    refine get_f (D := D) (ci := 10) (v := .int x_length) (C := RX10) (T := TX10) (N := 67) hx hb hw inAX10 hown hK hP 0 rfl rfl 2 (by decide) (hw _ q_1263) (fun _ h9 => h9) n26 dX10_count_87 ?_
    exact ret_i (v := x_length) hx hb hr hlocks hS hP hD dX10_count_90 rfl (Nat.le_of_ble_eq_true rfl) (Nat.le_of_ble_eq_true rfl) ⟨F1, (SAME.up eF1 SAME.rf (by decide)), (get_eq eF1), rfl⟩
  have dk2 : p0.toInt ≠ 8 := ne_i rfl rfl k2
  have dk6 : p0.toInt ≠ 9 := ne_i rfl rfl k6
  have dk16 : p0.toInt ≠ 10 := ne_i rfl rfl k16
  have dk20 : p0.toInt ≠ 11 := ne_i rfl rfl k20
  have dk24 : p0.toInt ≠ 12 := ne_i rfl rfl k24
  refine lv_tableOut (tgt := 91) hx hb dX10_count_6 (by omega) (by decide) ?_
  refine lv_iload_n hx hb dX10_count_91 rfl (lv_at hl 1 rfl) ?_
  refine lv_iconst (v := 0) hx hb dX10_count_92 (by decide) ?_
  refine lv_bipush (v := 7) hx hb dX10_count_93 (by decide) ?_
  refine call_Si (wr := [(h0, .inr (10, vL 67 F1)), (h_s, .inl (cI, 335, .inl f_s))]) (As := [.int p0, .int 0, .int 7]) (rest := []) hx hb hml hown hw (m_X10_isIn l D cI cJ cB cP cM cZ p0 0 7 _ ) wS_X10_211_X10_isIn dX10_count_95 hP hD hS hA [] [0, 1] rfl rfl (by decide) (by decide) (by decide) GG.fb hG.at hl.1 rfl (Nat.le_of_ble_eq_true rfl) ⟨(Nat.le_of_ble_eq_true rfl), (Nat.le_of_ble_eq_true rfl)⟩ ⟨(Nat.le_of_ble_eq_true rfl), (Nat.le_of_ble_eq_true rfl)⟩ (fun r27 u H locs hp hP hD hS => ?_)
  have zl0 : (0 : Int32).toInt = 0 := by decide
  have zl7 : (7 : Int32).toInt = 7 := by decide
  rcases hp with ⟨t28, rfl, rfl⟩ | ⟨t29, t30, rfl, rfl⟩ | ⟨t31, t32, rfl, rfl⟩
  · have hP : va_P D vwCl [(h0, .inr (10, vL 67 F1)), (h_s, .inl (cI, 335, .inl f_s))] H := hP
    have hD : va_D A [(h0, .inr (10, vL 67 F1)), (h_s, .inl (cI, 335, .inl f_s))] := hD
    refine W.widen (k := 0) (n := 0) (Nat.le_of_ble_eq_true rfl) (Nat.le_of_ble_eq_true rfl) ?_
    have k34 : (-2147483648) ≤ p0.toInt ∧ p0.toInt ≤ (-1) := ⟨(ir_any _).1, up_lt t28 (Int.le_refl _) (by decide)⟩
    refine lv_if_eq (tgt := 110) hx hb dX10_count_98 (by decide) (fun _ => ?_) (fun g => absurd (by decide) g)
    refine lv_iconst (v := (-1)) hx hb dX10_count_110 (by decide) ?_
    exact ret_i (v := (-1)) hx hb hr hlocks hS hP hD dX10_count_111 rfl (Nat.le_of_ble_eq_true rfl) (Nat.le_of_ble_eq_true rfl) ⟨F1, (SAME.up eF1 SAME.rf (by decide)), (get_eq eF1), rfl⟩
  · have hP : va_P D vwCl [(h0, .inr (10, vL 67 F1)), (h_s, .inl (cI, 335, .inl f_s))] H := hP
    have hD : va_D A [(h0, .inr (10, vL 67 F1)), (h_s, .inl (cI, 335, .inl f_s))] := hD
    refine W.widen (k := 0) (n := 0) (Nat.le_of_ble_eq_true rfl) (Nat.le_of_ble_eq_true rfl) ?_
    have k35 : 0 ≤ p0.toInt ∧ p0.toInt ≤ 2147483647 := ⟨Int.le_trans (Int.le_refl _) t29, (ir_any _).2⟩
    have k36 : 8 ≤ p0.toInt ∧ p0.toInt ≤ 2147483647 := ⟨lo_lt t30 (Int.le_refl _) (by decide), k35.2⟩
    refine lv_if_eq (tgt := 110) hx hb dX10_count_98 (by decide) (fun _ => ?_) (fun g => absurd (by decide) g)
    refine lv_iconst (v := (-1)) hx hb dX10_count_110 (by decide) ?_
    exact ret_i (v := (-1)) hx hb hr hlocks hS hP hD dX10_count_111 rfl (Nat.le_of_ble_eq_true rfl) (Nat.le_of_ble_eq_true rfl) ⟨F1, (SAME.up eF1 SAME.rf (by decide)), (get_eq eF1), rfl⟩
  · have hP : va_P D vwCl [(h0, .inr (10, vL 67 F1)), (h_s, .inl (cI, 335, .inl f_s))] H := hP
    have hD : va_D A [(h0, .inr (10, vL 67 F1)), (h_s, .inl (cI, 335, .inl f_s))] := hD
    refine W.widen (k := 0) (n := 0) (Nat.le_of_ble_eq_true rfl) (Nat.le_of_ble_eq_true rfl) ?_
    have k37 : 0 ≤ p0.toInt ∧ p0.toInt ≤ 2147483647 := ⟨Int.le_trans (Int.le_refl _) t31, (ir_any _).2⟩
    have k38 : 0 ≤ p0.toInt ∧ p0.toInt ≤ 7 := ⟨k37.1, Int.le_trans t32 (Int.le_refl _)⟩
    refine lv_if_eq (tgt := 110) hx hb dX10_count_98 (by decide) (fun g => absurd g (by decide)) (fun _ => ?_)
    refine lv_aload_n hx hb dX10_count_101 rfl (lv_at hl 0 rfl) ?_
    have n39 : F1 6 = .ref h_s := (get_ne eF1 (by decide) e_s)
    refine get_f (D := D) (ci := 10) (v := .ref h_s) (C := RX10) (T := TX10) (N := 67) hx hb hw inAX10 hown hK hP 0 rfl rfl 6 (by decide) (hw _ q_1267) (fun _ h9 => h9) n39 dX10_count_102 ?_
    refine lv_iload_n hx hb dX10_count_105 rfl (lv_at hl 1 rfl) ?_
    refine va_iald hx hb hK hP 1 0 rfl rfl (ix_k k38 (by decide) (by decide)) dX10_count_106 ?_
    refine lv_topi (fun v40 ev40 => ?_)
    have r41 : IMP (0 ≤ p0.toInt → p0.toInt ≤ 0 → 0 ≤ v40.toInt ∧ v40.toInt ≤ 40) := IMP.mk (fun q1 q2 => by rw [ev40]; exact s_s_0.at _ q1 q2)
    have r42 : IMP (5 ≤ p0.toInt → p0.toInt ≤ 5 → 0 ≤ v40.toInt ∧ v40.toInt ≤ 12) := IMP.mk (fun q1 q2 => by rw [ev40]; exact s_s_5.at _ q1 q2)
    have r43 : IMP (6 ≤ p0.toInt → p0.toInt ≤ 6 → 0 ≤ v40.toInt ∧ v40.toInt ≤ 12) := IMP.mk (fun q1 q2 => by rw [ev40]; exact s_s_6.at _ q1 q2)
    have r44 : IMP (7 ≤ p0.toInt → p0.toInt ≤ 7 → 0 ≤ v40.toInt ∧ v40.toInt ≤ 6) := IMP.mk (fun q1 q2 => by rw [ev40]; exact s_s_7.at _ q1 q2)
    refine lv_goto (tgt := 111) hx hb dX10_count_107 (by decide) ?_
    exact ret_i (v := v40) hx hb hr hlocks hS hP hD dX10_count_111 rfl (Nat.le_of_ble_eq_true rfl) (Nat.le_of_ble_eq_true rfl) ⟨F1, (SAME.up eF1 SAME.rf (by decide)), (get_eq eF1), rfl⟩
