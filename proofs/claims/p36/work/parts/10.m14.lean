set_option maxHeartbeats 4000000 in
set_option maxRecDepth 100000 in
theorem m_X10_image (l : Launch) (D : va_G) (cI cJ cB cP cM cZ : ClassId) (h0 : Nat) (h_s : Nat) (h_names : Nat) (h_images : Nat) (h_namesKept : Nat) (h_areKept : Nat) (Fh : Nat → Value) (f_s : Nat → Int32) (f_names : Nat → Int64) (f_images : Nat → Int32) (f_namesKept : Nat → Int64) (f_areKept : Nat → Int32) (p0 : Int32) (bs : Nat → Int32) (sz : Nat) (e_s : Fh 6 = .ref h_s) (e_names : Fh 9 = .ref h_names) (e_images : Fh 64 = .ref h_images) (e_namesKept : Fh 65 = .ref h_namesKept) (e_areKept : Fh 66 = .ref h_areKept) (s_s_K0 : KW 0 f_s) (s_s_US : US bs f_s) (s_s_0 : SG 0 0 0 40 f_s) (s_s_105 : SG 105 108 0 11 f_s) (s_s_114 : SG 114 114 0 5 f_s) (s_s_130 : SG 130 133 0 11 f_s) (s_s_139 : SG 139 139 0 5 f_s) (s_s_153 : SG 153 153 0 44 f_s) (s_s_44 : SG 44 55 0 9 f_s) (s_s_5 : SG 5 5 0 12 f_s) (s_s_6 : SG 6 6 0 12 f_s) (s_s_7 : SG 7 7 0 6 f_s) (s_images_K0 : KW 0 f_images) (s_images_K335 : KW 335 f_images) (s_images_0 : SG 0 0 0 40 f_images) (s_images_105 : SG 105 108 0 11 f_images) (s_images_114 : SG 114 114 0 5 f_images) (s_images_130 : SG 130 133 0 11 f_images) (s_images_139 : SG 139 139 0 5 f_images) (s_images_153 : SG 153 153 0 44 f_images) (s_images_335 : SG 335 335 0 40 f_images) (s_images_340 : SG 340 340 0 12 f_images) (s_images_341 : SG 341 341 0 12 f_images) (s_images_342 : SG 342 342 0 6 f_images) (s_images_379 : SG 379 390 0 9 f_images) (s_images_44 : SG 44 55 0 9 f_images) (s_images_440 : SG 440 443 0 11 f_images) (s_images_449 : SG 449 449 0 5 f_images) (s_images_465 : SG 465 468 0 11 f_images) (s_images_474 : SG 474 474 0 5 f_images) (s_images_488 : SG 488 488 0 44 f_images) (s_images_5 : SG 5 5 0 12 f_images) (s_images_6 : SG 6 6 0 12 f_images) (s_images_7 : SG 7 7 0 6 f_images) : CI l yX10_image cX10_image 3 (some .boolean) { frames := 1, cells := 0, slots := 0, locals := 22 } (GG D cI cJ cB cP cM cZ) D [(h0, .inr (10, vL 67 Fh)), (h_s, .inl (cI, 335, .inl f_s)), (h_names, .inl (cJ, 36, .inr (.inl f_names))), (h_images, .inl (cI, 670, .inl f_images)), (h_namesKept, .inl (cJ, 36, .inr (.inl f_namesKept))), (h_areKept, .inl (cZ, 2, .inl f_areKept))] sz [.ref h0, .int p0] (fun (r : Int32) (u : va_W) => (∃ (Gh : Nat → Value), SAME [0] Fh Gh ∧ Gh 0 = .int 0 ∧ p0.toInt < 0 ∧ ((r = 1 → p0.toInt = 0 → f_areKept 0 = 1 ∧ f_areKept 1 = f_areKept 1) ∧ (r = 1 → p0.toInt = 1 → f_areKept 1 = 1 ∧ f_areKept 0 = f_areKept 0)) ∧ ((r = 1 → p0.toInt = 0 → UO f_images f_images 335 ∧ UOL f_namesKept f_namesKept 18 ∧ CPY f_images 0 f_s 0 335 ∧ CPL f_namesKept 0 f_names 0 18) ∧ (r = 1 → p0.toInt = 1 → UO f_images f_images 0 ∧ UOL f_namesKept f_namesKept 0 ∧ CPY f_images 335 f_s 0 335 ∧ CPL f_namesKept 18 f_names 0 18)) ∧ r = 0 ∧ u = [(h0, .inr (10, vL 67 Gh)), (h_s, .inl (cI, 335, .inl f_s)), (h_names, .inl (cJ, 36, .inr (.inl f_names))), (h_images, .inl (cI, 670, .inl f_images)), (h_namesKept, .inl (cJ, 36, .inr (.inl f_namesKept))), (h_areKept, .inl (cZ, 2, .inl f_areKept))]) ∨ (∃ (Gh : Nat → Value), SAME [0] Fh Gh ∧ Gh 0 = .int 0 ∧ 0 ≤ p0.toInt ∧ 1 < p0.toInt ∧ ((r = 1 → p0.toInt = 0 → f_areKept 0 = 1 ∧ f_areKept 1 = f_areKept 1) ∧ (r = 1 → p0.toInt = 1 → f_areKept 1 = 1 ∧ f_areKept 0 = f_areKept 0)) ∧ ((r = 1 → p0.toInt = 0 → UO f_images f_images 335 ∧ UOL f_namesKept f_namesKept 18 ∧ CPY f_images 0 f_s 0 335 ∧ CPL f_namesKept 0 f_names 0 18) ∧ (r = 1 → p0.toInt = 1 → UO f_images f_images 0 ∧ UOL f_namesKept f_namesKept 0 ∧ CPY f_images 335 f_s 0 335 ∧ CPL f_namesKept 18 f_names 0 18)) ∧ r = 0 ∧ u = [(h0, .inr (10, vL 67 Gh)), (h_s, .inl (cI, 335, .inl f_s)), (h_names, .inl (cJ, 36, .inr (.inl f_names))), (h_images, .inl (cI, 670, .inl f_images)), (h_namesKept, .inl (cJ, 36, .inr (.inl f_namesKept))), (h_areKept, .inl (cZ, 2, .inl f_areKept))]) ∨ (∃ (Gh : Nat → Value) (g_images : Nat → Int32) (g_namesKept : Nat → Int64) (g_areKept : Nat → Int32), SAME [0] Fh Gh ∧ Gh 0 = .int 0 ∧ SG 153 153 0 44 g_images ∧ SG 0 0 0 40 g_images ∧ SG 5 5 0 12 g_images ∧ SG 6 6 0 12 g_images ∧ SG 7 7 0 6 g_images ∧ SG 44 55 0 9 g_images ∧ KW 0 g_images ∧ SG 105 108 0 11 g_images ∧ SG 114 114 0 5 g_images ∧ SG 130 133 0 11 g_images ∧ SG 139 139 0 5 g_images ∧ SG 488 488 0 44 g_images ∧ SG 335 335 0 40 g_images ∧ SG 340 340 0 12 g_images ∧ SG 341 341 0 12 g_images ∧ SG 342 342 0 6 g_images ∧ SG 379 390 0 9 g_images ∧ KW 335 g_images ∧ SG 440 443 0 11 g_images ∧ SG 449 449 0 5 g_images ∧ SG 465 468 0 11 g_images ∧ SG 474 474 0 5 g_images ∧ 0 ≤ p0.toInt ∧ p0.toInt ≤ 1 ∧ p0.toInt = 0 ∧ ((r = 1 → p0.toInt = 0 → g_areKept 0 = 1 ∧ g_areKept 1 = f_areKept 1) ∧ (r = 1 → p0.toInt = 1 → g_areKept 1 = 1 ∧ g_areKept 0 = f_areKept 0)) ∧ ((r = 1 → p0.toInt = 0 → UO f_images g_images 335 ∧ UOL f_namesKept g_namesKept 18 ∧ CPY g_images 0 f_s 0 335 ∧ CPL g_namesKept 0 f_names 0 18) ∧ (r = 1 → p0.toInt = 1 → UO f_images g_images 0 ∧ UOL f_namesKept g_namesKept 0 ∧ CPY g_images 335 f_s 0 335 ∧ CPL g_namesKept 18 f_names 0 18)) ∧ r = 1 ∧ u = [(h0, .inr (10, vL 67 Gh)), (h_s, .inl (cI, 335, .inl f_s)), (h_names, .inl (cJ, 36, .inr (.inl f_names))), (h_images, .inl (cI, 670, .inl g_images)), (h_namesKept, .inl (cJ, 36, .inr (.inl g_namesKept))), (h_areKept, .inl (cZ, 2, .inl g_areKept))]) ∨ (∃ (Gh : Nat → Value) (g_images : Nat → Int32) (g_namesKept : Nat → Int64) (g_areKept : Nat → Int32), SAME [0] Fh Gh ∧ Gh 0 = .int 0 ∧ SG 153 153 0 44 g_images ∧ SG 0 0 0 40 g_images ∧ SG 5 5 0 12 g_images ∧ SG 6 6 0 12 g_images ∧ SG 7 7 0 6 g_images ∧ SG 44 55 0 9 g_images ∧ KW 0 g_images ∧ SG 105 108 0 11 g_images ∧ SG 114 114 0 5 g_images ∧ SG 130 133 0 11 g_images ∧ SG 139 139 0 5 g_images ∧ SG 488 488 0 44 g_images ∧ SG 335 335 0 40 g_images ∧ SG 340 340 0 12 g_images ∧ SG 341 341 0 12 g_images ∧ SG 342 342 0 6 g_images ∧ SG 379 390 0 9 g_images ∧ KW 335 g_images ∧ SG 440 443 0 11 g_images ∧ SG 449 449 0 5 g_images ∧ SG 465 468 0 11 g_images ∧ SG 474 474 0 5 g_images ∧ 0 ≤ p0.toInt ∧ p0.toInt ≤ 1 ∧ p0.toInt = 1 ∧ ((r = 1 → p0.toInt = 0 → g_areKept 0 = 1 ∧ g_areKept 1 = f_areKept 1) ∧ (r = 1 → p0.toInt = 1 → g_areKept 1 = 1 ∧ g_areKept 0 = f_areKept 0)) ∧ ((r = 1 → p0.toInt = 0 → UO f_images g_images 335 ∧ UOL f_namesKept g_namesKept 18 ∧ CPY g_images 0 f_s 0 335 ∧ CPL g_namesKept 0 f_names 0 18) ∧ (r = 1 → p0.toInt = 1 → UO f_images g_images 0 ∧ UOL f_namesKept g_namesKept 0 ∧ CPY g_images 335 f_s 0 335 ∧ CPL g_namesKept 18 f_names 0 18)) ∧ r = 1 ∧ u = [(h0, .inr (10, vL 67 Gh)), (h_s, .inl (cI, 335, .inl f_s)), (h_names, .inl (cJ, 36, .inr (.inl f_names))), (h_images, .inl (cI, 670, .inl g_images)), (h_namesKept, .inl (cJ, 36, .inr (.inl g_namesKept))), (h_areKept, .inl (cZ, 2, .inl g_areKept))])) := by
  refine CI_mk (by decide) (Nat.le_of_ble_eq_true rfl) ?_
  intro p e s m below meth c A ls E hAe hG hsz hP hD hA hS hl
  obtain ⟨hx, hb, hr, hw, hown, hlocks, hml, hnm⟩ := E
  have hK := hG.1
  have hl : lv_has ls 3 [(0, .ref h0), (1, .int p0)] := hl
  refine lv_aload_n hx hb dX10_image_0 rfl (lv_at hl 0 rfl) ?_
  refine lv_iconst (v := 0) hx hb dX10_image_1 (by decide) ?_
  refine put_f (D := D) (ci := 10) (v := .int 0) (ty := .int) (C := RX10) (T := TX10) (N := 67) hx hb hw inAX10 tyX10 tyX10_ok nmX10 hown hK hP hD hS 0 rfl rfl 0 (by decide) (hw _ q_1261) (fun _ h9 => h9) rfl (by decide +kernel) rfl rfl dX10_image_2 (fun H locs F1 eF1 hP hD hS => ?_)
  have hP : va_P D vwCl [(h0, .inr (10, vL 67 F1)), (h_s, .inl (cI, 335, .inl f_s)), (h_names, .inl (cJ, 36, .inr (.inl f_names))), (h_images, .inl (cI, 670, .inl f_images)), (h_namesKept, .inl (cJ, 36, .inr (.inl f_namesKept))), (h_areKept, .inl (cZ, 2, .inl f_areKept))] H := hP
  have hD : va_D A [(h0, .inr (10, vL 67 F1)), (h_s, .inl (cI, 335, .inl f_s)), (h_names, .inl (cJ, 36, .inr (.inl f_names))), (h_images, .inl (cI, 670, .inl f_images)), (h_namesKept, .inl (cJ, 36, .inr (.inl f_namesKept))), (h_areKept, .inl (cZ, 2, .inl f_areKept))] := hD
  refine lv_iload_n hx hb dX10_image_5 rfl (lv_at hl 1 rfl) ?_
  refine lv_iconst (v := 0) hx hb dX10_image_6 (by decide) ?_
  refine lv_iconst (v := 1) hx hb dX10_image_7 (by decide) ?_
  refine call_Si (wr := [(h0, .inr (10, vL 67 F1)), (h_s, .inl (cI, 335, .inl f_s)), (h_names, .inl (cJ, 36, .inr (.inl f_names))), (h_images, .inl (cI, 670, .inl f_images)), (h_namesKept, .inl (cJ, 36, .inr (.inl f_namesKept))), (h_areKept, .inl (cZ, 2, .inl f_areKept))]) (As := [.int p0, .int 0, .int 1]) (rest := []) hx hb hml hown hw (m_X10_isIn l D cI cJ cB cP cM cZ p0 0 1 _ ) wS_X10_211_X10_isIn dX10_image_8 hP hD hS hA [] [0, 1, 2, 3, 4, 5] rfl rfl (by decide) (by decide) (by decide) GG.fb hG.at hl.1 rfl (Nat.le_of_ble_eq_true rfl) ⟨(Nat.le_of_ble_eq_true rfl), (Nat.le_of_ble_eq_true rfl)⟩ ⟨(Nat.le_of_ble_eq_true rfl), (Nat.le_of_ble_eq_true rfl)⟩ (fun r2 u H locs hp hP hD hS => ?_)
  have zl0 : (0 : Int32).toInt = 0 := by decide
  have zl1 : (1 : Int32).toInt = 1 := by decide
  rcases hp with ⟨t3, rfl, rfl⟩ | ⟨t4, t5, rfl, rfl⟩ | ⟨t6, t7, rfl, rfl⟩
  · have hP : va_P D vwCl [(h0, .inr (10, vL 67 F1)), (h_s, .inl (cI, 335, .inl f_s)), (h_names, .inl (cJ, 36, .inr (.inl f_names))), (h_images, .inl (cI, 670, .inl f_images)), (h_namesKept, .inl (cJ, 36, .inr (.inl f_namesKept))), (h_areKept, .inl (cZ, 2, .inl f_areKept))] H := hP
    have hD : va_D A [(h0, .inr (10, vL 67 F1)), (h_s, .inl (cI, 335, .inl f_s)), (h_names, .inl (cJ, 36, .inr (.inl f_names))), (h_images, .inl (cI, 670, .inl f_images)), (h_namesKept, .inl (cJ, 36, .inr (.inl f_namesKept))), (h_areKept, .inl (cZ, 2, .inl f_areKept))] := hD
    refine W.widen (k := 0) (n := 0) (Nat.le_of_ble_eq_true rfl) (Nat.le_of_ble_eq_true rfl) ?_
    have k9 : (-2147483648) ≤ p0.toInt ∧ p0.toInt ≤ (-1) := ⟨(ir_any _).1, up_lt t3 (Int.le_refl _) (by decide)⟩
    refine lv_if_ne (tgt := 16) hx hb dX10_image_11 (by decide) (fun g => absurd (by decide) g) (fun _ => ?_)
    refine lv_iconst (v := 0) hx hb dX10_image_14 (by decide) ?_
    exact ret_i (v := 0) hx hb hr hlocks hS hP hD dX10_image_15 rfl (Nat.le_of_ble_eq_true rfl) (Nat.le_of_ble_eq_true rfl) (Or.inl ⟨F1, (SAME.up eF1 SAME.rf (by decide)), (get_eq eF1), t3, ⟨fun q => absurd q (by decide), fun q => absurd q (by decide)⟩, ⟨fun q => absurd q (by decide), fun q => absurd q (by decide)⟩, rfl, rfl⟩)
  · have hP : va_P D vwCl [(h0, .inr (10, vL 67 F1)), (h_s, .inl (cI, 335, .inl f_s)), (h_names, .inl (cJ, 36, .inr (.inl f_names))), (h_images, .inl (cI, 670, .inl f_images)), (h_namesKept, .inl (cJ, 36, .inr (.inl f_namesKept))), (h_areKept, .inl (cZ, 2, .inl f_areKept))] H := hP
    have hD : va_D A [(h0, .inr (10, vL 67 F1)), (h_s, .inl (cI, 335, .inl f_s)), (h_names, .inl (cJ, 36, .inr (.inl f_names))), (h_images, .inl (cI, 670, .inl f_images)), (h_namesKept, .inl (cJ, 36, .inr (.inl f_namesKept))), (h_areKept, .inl (cZ, 2, .inl f_areKept))] := hD
    refine W.widen (k := 0) (n := 0) (Nat.le_of_ble_eq_true rfl) (Nat.le_of_ble_eq_true rfl) ?_
    have k10 : 0 ≤ p0.toInt ∧ p0.toInt ≤ 2147483647 := ⟨Int.le_trans (Int.le_refl _) t4, (ir_any _).2⟩
    have k11 : 2 ≤ p0.toInt ∧ p0.toInt ≤ 2147483647 := ⟨lo_lt t5 (Int.le_refl _) (by decide), k10.2⟩
    refine lv_if_ne (tgt := 16) hx hb dX10_image_11 (by decide) (fun g => absurd (by decide) g) (fun _ => ?_)
    refine lv_iconst (v := 0) hx hb dX10_image_14 (by decide) ?_
    exact ret_i (v := 0) hx hb hr hlocks hS hP hD dX10_image_15 rfl (Nat.le_of_ble_eq_true rfl) (Nat.le_of_ble_eq_true rfl) (Or.inr (Or.inl ⟨F1, (SAME.up eF1 SAME.rf (by decide)), (get_eq eF1), t4, t5, ⟨fun q => absurd q (by decide), fun q => absurd q (by decide)⟩, ⟨fun q => absurd q (by decide), fun q => absurd q (by decide)⟩, rfl, rfl⟩))
  · have hP : va_P D vwCl [(h0, .inr (10, vL 67 F1)), (h_s, .inl (cI, 335, .inl f_s)), (h_names, .inl (cJ, 36, .inr (.inl f_names))), (h_images, .inl (cI, 670, .inl f_images)), (h_namesKept, .inl (cJ, 36, .inr (.inl f_namesKept))), (h_areKept, .inl (cZ, 2, .inl f_areKept))] H := hP
    have hD : va_D A [(h0, .inr (10, vL 67 F1)), (h_s, .inl (cI, 335, .inl f_s)), (h_names, .inl (cJ, 36, .inr (.inl f_names))), (h_images, .inl (cI, 670, .inl f_images)), (h_namesKept, .inl (cJ, 36, .inr (.inl f_namesKept))), (h_areKept, .inl (cZ, 2, .inl f_areKept))] := hD
    refine W.widen (k := 0) (n := 0) (Nat.le_of_ble_eq_true rfl) (Nat.le_of_ble_eq_true rfl) ?_
    have k12 : 0 ≤ p0.toInt ∧ p0.toInt ≤ 2147483647 := ⟨Int.le_trans (Int.le_refl _) t6, (ir_any _).2⟩
    have k13 : 0 ≤ p0.toInt ∧ p0.toInt ≤ 1 := ⟨k12.1, Int.le_trans t7 (Int.le_refl _)⟩
    refine lv_if_ne (tgt := 16) hx hb dX10_image_11 (by decide) (fun _ => ?_) (fun g => absurd g (by decide))
    by_cases k14 : p0 = 0
    · have dk14 : p0.toInt = 0 := eq_i rfl rfl k14
      have k15 : 0 ≤ p0.toInt ∧ p0.toInt ≤ 0 := ⟨k13.1, Int.le_trans (Int.le_of_eq dk14) (Int.le_refl _)⟩
      have hl : lv_has ls 3 [(0, .ref h0), (1, .int 0)] := by have q := hl; rw [k14] at q; exact q
      refine lv_iconst (v := 0) hx hb dX10_image_16 (by decide) ?_
      refine lv_istore_n (lv' := [(2, .int 0), (0, .ref h0), (1, .int 0)]) hx hb dX10_image_17 rfl hl (by decide) rfl (fun ls hl => ?_)
      refine mloop (α := (Int32) × (Nat → Int32)) (nL := 3) (D := D) (A := A) (H0 := s.heap) (fun a => (335 - a.1.toInt).toNat) (fun a => IR 0 335 a.1 ∧ KW 335 a.2 ∧ SG 335 335 0 40 a.2 ∧ SG 340 340 0 12 a.2 ∧ SG 341 341 0 12 a.2 ∧ SG 342 342 0 6 a.2 ∧ SG 379 390 0 9 a.2 ∧ SG 440 443 0 11 a.2 ∧ SG 449 449 0 5 a.2 ∧ SG 465 468 0 11 a.2 ∧ SG 474 474 0 5 a.2 ∧ SG 488 488 0 44 a.2 ∧ (UO f_images a.2 335) ∧ (CPY a.2 0 f_s 0 (a.1.toInt)) ∧ (CPY a.2 0 f_s 0 (a.1.toInt))) (fun a => [(h0, .inr (10, vL 67 F1)), (h_s, .inl (cI, 335, .inl f_s)), (h_names, .inl (cJ, 36, .inr (.inl f_names))), (h_images, .inl (cI, 670, .inl a.2)), (h_namesKept, .inl (cJ, 36, .inr (.inl f_namesKept))), (h_areKept, .inl (cZ, 2, .inl f_areKept))]) (fun a => [(2, .int a.1), (0, .ref h0), (1, .int 0)]) (fun H locs ls => W p l e ({ frames := 1, cells := 0, slots := 0, locals := 22 } : Room) s m [.ref h0, .int p0].toArray below meth c H locs 0 0 (MQ below (va_Qi (fun (r : Int32) (u : va_W) => (∃ (Gh : Nat → Value), SAME [0] Fh Gh ∧ Gh 0 = .int 0 ∧ p0.toInt < 0 ∧ ((r = 1 → p0.toInt = 0 → f_areKept 0 = 1 ∧ f_areKept 1 = f_areKept 1) ∧ (r = 1 → p0.toInt = 1 → f_areKept 1 = 1 ∧ f_areKept 0 = f_areKept 0)) ∧ ((r = 1 → p0.toInt = 0 → UO f_images f_images 335 ∧ UOL f_namesKept f_namesKept 18 ∧ CPY f_images 0 f_s 0 335 ∧ CPL f_namesKept 0 f_names 0 18) ∧ (r = 1 → p0.toInt = 1 → UO f_images f_images 0 ∧ UOL f_namesKept f_namesKept 0 ∧ CPY f_images 335 f_s 0 335 ∧ CPL f_namesKept 18 f_names 0 18)) ∧ r = 0 ∧ u = [(h0, .inr (10, vL 67 Gh)), (h_s, .inl (cI, 335, .inl f_s)), (h_names, .inl (cJ, 36, .inr (.inl f_names))), (h_images, .inl (cI, 670, .inl f_images)), (h_namesKept, .inl (cJ, 36, .inr (.inl f_namesKept))), (h_areKept, .inl (cZ, 2, .inl f_areKept))]) ∨ (∃ (Gh : Nat → Value), SAME [0] Fh Gh ∧ Gh 0 = .int 0 ∧ 0 ≤ p0.toInt ∧ 1 < p0.toInt ∧ ((r = 1 → p0.toInt = 0 → f_areKept 0 = 1 ∧ f_areKept 1 = f_areKept 1) ∧ (r = 1 → p0.toInt = 1 → f_areKept 1 = 1 ∧ f_areKept 0 = f_areKept 0)) ∧ ((r = 1 → p0.toInt = 0 → UO f_images f_images 335 ∧ UOL f_namesKept f_namesKept 18 ∧ CPY f_images 0 f_s 0 335 ∧ CPL f_namesKept 0 f_names 0 18) ∧ (r = 1 → p0.toInt = 1 → UO f_images f_images 0 ∧ UOL f_namesKept f_namesKept 0 ∧ CPY f_images 335 f_s 0 335 ∧ CPL f_namesKept 18 f_names 0 18)) ∧ r = 0 ∧ u = [(h0, .inr (10, vL 67 Gh)), (h_s, .inl (cI, 335, .inl f_s)), (h_names, .inl (cJ, 36, .inr (.inl f_names))), (h_images, .inl (cI, 670, .inl f_images)), (h_namesKept, .inl (cJ, 36, .inr (.inl f_namesKept))), (h_areKept, .inl (cZ, 2, .inl f_areKept))]) ∨ (∃ (Gh : Nat → Value) (g_images : Nat → Int32) (g_namesKept : Nat → Int64) (g_areKept : Nat → Int32), SAME [0] Fh Gh ∧ Gh 0 = .int 0 ∧ SG 153 153 0 44 g_images ∧ SG 0 0 0 40 g_images ∧ SG 5 5 0 12 g_images ∧ SG 6 6 0 12 g_images ∧ SG 7 7 0 6 g_images ∧ SG 44 55 0 9 g_images ∧ KW 0 g_images ∧ SG 105 108 0 11 g_images ∧ SG 114 114 0 5 g_images ∧ SG 130 133 0 11 g_images ∧ SG 139 139 0 5 g_images ∧ SG 488 488 0 44 g_images ∧ SG 335 335 0 40 g_images ∧ SG 340 340 0 12 g_images ∧ SG 341 341 0 12 g_images ∧ SG 342 342 0 6 g_images ∧ SG 379 390 0 9 g_images ∧ KW 335 g_images ∧ SG 440 443 0 11 g_images ∧ SG 449 449 0 5 g_images ∧ SG 465 468 0 11 g_images ∧ SG 474 474 0 5 g_images ∧ 0 ≤ p0.toInt ∧ p0.toInt ≤ 1 ∧ p0.toInt = 0 ∧ ((r = 1 → p0.toInt = 0 → g_areKept 0 = 1 ∧ g_areKept 1 = f_areKept 1) ∧ (r = 1 → p0.toInt = 1 → g_areKept 1 = 1 ∧ g_areKept 0 = f_areKept 0)) ∧ ((r = 1 → p0.toInt = 0 → UO f_images g_images 335 ∧ UOL f_namesKept g_namesKept 18 ∧ CPY g_images 0 f_s 0 335 ∧ CPL g_namesKept 0 f_names 0 18) ∧ (r = 1 → p0.toInt = 1 → UO f_images g_images 0 ∧ UOL f_namesKept g_namesKept 0 ∧ CPY g_images 335 f_s 0 335 ∧ CPL g_namesKept 18 f_names 0 18)) ∧ r = 1 ∧ u = [(h0, .inr (10, vL 67 Gh)), (h_s, .inl (cI, 335, .inl f_s)), (h_names, .inl (cJ, 36, .inr (.inl f_names))), (h_images, .inl (cI, 670, .inl g_images)), (h_namesKept, .inl (cJ, 36, .inr (.inl g_namesKept))), (h_areKept, .inl (cZ, 2, .inl g_areKept))]) ∨ (∃ (Gh : Nat → Value) (g_images : Nat → Int32) (g_namesKept : Nat → Int64) (g_areKept : Nat → Int32), SAME [0] Fh Gh ∧ Gh 0 = .int 0 ∧ SG 153 153 0 44 g_images ∧ SG 0 0 0 40 g_images ∧ SG 5 5 0 12 g_images ∧ SG 6 6 0 12 g_images ∧ SG 7 7 0 6 g_images ∧ SG 44 55 0 9 g_images ∧ KW 0 g_images ∧ SG 105 108 0 11 g_images ∧ SG 114 114 0 5 g_images ∧ SG 130 133 0 11 g_images ∧ SG 139 139 0 5 g_images ∧ SG 488 488 0 44 g_images ∧ SG 335 335 0 40 g_images ∧ SG 340 340 0 12 g_images ∧ SG 341 341 0 12 g_images ∧ SG 342 342 0 6 g_images ∧ SG 379 390 0 9 g_images ∧ KW 335 g_images ∧ SG 440 443 0 11 g_images ∧ SG 449 449 0 5 g_images ∧ SG 465 468 0 11 g_images ∧ SG 474 474 0 5 g_images ∧ 0 ≤ p0.toInt ∧ p0.toInt ≤ 1 ∧ p0.toInt = 1 ∧ ((r = 1 → p0.toInt = 0 → g_areKept 0 = 1 ∧ g_areKept 1 = f_areKept 1) ∧ (r = 1 → p0.toInt = 1 → g_areKept 1 = 1 ∧ g_areKept 0 = f_areKept 0)) ∧ ((r = 1 → p0.toInt = 0 → UO f_images g_images 335 ∧ UOL f_namesKept g_namesKept 18 ∧ CPY g_images 0 f_s 0 335 ∧ CPL g_namesKept 0 f_names 0 18) ∧ (r = 1 → p0.toInt = 1 → UO f_images g_images 0 ∧ UOL f_namesKept g_namesKept 0 ∧ CPY g_images 335 f_s 0 335 ∧ CPL g_namesKept 18 f_names 0 18)) ∧ r = 1 ∧ u = [(h0, .inr (10, vL 67 Gh)), (h_s, .inl (cI, 335, .inl f_s)), (h_names, .inl (cJ, 36, .inr (.inl f_names))), (h_images, .inl (cI, 670, .inl g_images)), (h_namesKept, .inl (cJ, 36, .inr (.inl g_namesKept))), (h_areKept, .inl (cZ, 2, .inl g_areKept))])) (PO D A) A) [.ref h0, .int p0].toArray s 0 0 A) (F0 m 18 ls [])) ?_ (0, f_images) ⟨(show 0 ≤ (0 : Int32).toInt ∧ (0 : Int32).toInt ≤ 335 by decide), s_images_K335, s_images_335, s_images_340, s_images_341, s_images_342, s_images_379, s_images_440, s_images_449, s_images_465, s_images_474, s_images_488, (show UO f_images f_images 335 from UO.rf), (show CPY f_images 0 f_s 0 (0) from (CPY.zero (by decide))), (show CPY f_images 0 f_s 0 (0) from (CPY.zero (by decide)))⟩ _ _ _ hP hD hS hl
      rintro ⟨u16, w17⟩ ⟨i18, i19, i20, i21, i22, i23, i24, i25, i26, i27, i28, i29, i30, i31, i32⟩ ih H locs ls hP hD hS hl
      have i18 : 0 ≤ u16.toInt ∧ u16.toInt ≤ 335 := i18
      have i30 : UO f_images w17 335 := i30
      have i31 : CPY w17 0 f_s 0 (u16.toInt) := i31
      have i32 : CPY w17 0 f_s 0 (u16.toInt) := i32
      have hP : va_P D vwCl [(h0, .inr (10, vL 67 F1)), (h_s, .inl (cI, 335, .inl f_s)), (h_names, .inl (cJ, 36, .inr (.inl f_names))), (h_images, .inl (cI, 670, .inl w17)), (h_namesKept, .inl (cJ, 36, .inr (.inl f_namesKept))), (h_areKept, .inl (cZ, 2, .inl f_areKept))] H := hP
      have hD : va_D A [(h0, .inr (10, vL 67 F1)), (h_s, .inl (cI, 335, .inl f_s)), (h_names, .inl (cJ, 36, .inr (.inl f_names))), (h_images, .inl (cI, 670, .inl w17)), (h_namesKept, .inl (cJ, 36, .inr (.inl f_namesKept))), (h_areKept, .inl (cZ, 2, .inl f_areKept))] := hD
      have hl : lv_has ls 3 [(2, .int u16), (0, .ref h0), (1, .int 0)] := hl
      refine lv_iload_n hx hb dX10_image_18 rfl (lv_at hl 0 rfl) ?_
      refine lv_sipush (v := 335) hx hb dX10_image_19 (by decide) ?_
      refine lv_icmp_ge (tgt := 49) hx hb dX10_image_22 (by decide) (fun c33 => ?_) (fun c33 => ?_)
      · have dc33 : 335 ≤ u16.toInt := le_i (a := 335) (b := u16.toInt) rfl rfl c33
        have k34 : 335 ≤ u16.toInt ∧ u16.toInt ≤ 335 := ⟨Int.le_trans (Int.le_refl _) dc33, i18.2⟩
        have r35 : KW 0 w17 := KW.cpy i32 s_s_K0 (by omega) (by decide)
        have r36 : SG 0 0 0 40 w17 := SG.cpy i32 s_s_0 (by decide) (by decide) (by decide) (by omega)
        have r37 : SG 105 108 0 11 w17 := SG.cpy i32 s_s_105 (by decide) (by decide) (by decide) (by omega)
        have r38 : SG 114 114 0 5 w17 := SG.cpy i32 s_s_114 (by decide) (by decide) (by decide) (by omega)
        have r39 : SG 130 133 0 11 w17 := SG.cpy i32 s_s_130 (by decide) (by decide) (by decide) (by omega)
        have r40 : SG 139 139 0 5 w17 := SG.cpy i32 s_s_139 (by decide) (by decide) (by decide) (by omega)
        have r41 : SG 153 153 0 44 w17 := SG.cpy i32 s_s_153 (by decide) (by decide) (by decide) (by omega)
        have r42 : SG 44 55 0 9 w17 := SG.cpy i32 s_s_44 (by decide) (by decide) (by decide) (by omega)
        have r43 : SG 5 5 0 12 w17 := SG.cpy i32 s_s_5 (by decide) (by decide) (by decide) (by omega)
        have r44 : SG 6 6 0 12 w17 := SG.cpy i32 s_s_6 (by decide) (by decide) (by decide) (by omega)
        have r45 : SG 7 7 0 6 w17 := SG.cpy i32 s_s_7 (by decide) (by decide) (by decide) (by omega)
        refine lv_iconst (v := 0) hx hb dX10_image_49 (by decide) ?_
        refine lv_istore_n (lv' := [(2, .int 0), (0, .ref h0), (1, .int 0)]) hx hb dX10_image_50 rfl hl (by decide) rfl (fun ls hl => ?_)
        refine mloop (α := (Int32) × (Nat → Int64)) (nL := 3) (D := D) (A := A) (H0 := s.heap) (fun a => (18 - a.1.toInt).toNat) (fun a => IR 0 18 a.1 ∧ (UOL f_namesKept a.2 18) ∧ (CPL a.2 0 f_names 0 (a.1.toInt))) (fun a => [(h0, .inr (10, vL 67 F1)), (h_s, .inl (cI, 335, .inl f_s)), (h_names, .inl (cJ, 36, .inr (.inl f_names))), (h_images, .inl (cI, 670, .inl w17)), (h_namesKept, .inl (cJ, 36, .inr (.inl a.2))), (h_areKept, .inl (cZ, 2, .inl f_areKept))]) (fun a => [(2, .int a.1), (0, .ref h0), (1, .int 0)]) (fun H locs ls => W p l e ({ frames := 1, cells := 0, slots := 0, locals := 22 } : Room) s m [.ref h0, .int p0].toArray below meth c H locs 0 0 (MQ below (va_Qi (fun (r : Int32) (u : va_W) => (∃ (Gh : Nat → Value), SAME [0] Fh Gh ∧ Gh 0 = .int 0 ∧ p0.toInt < 0 ∧ ((r = 1 → p0.toInt = 0 → f_areKept 0 = 1 ∧ f_areKept 1 = f_areKept 1) ∧ (r = 1 → p0.toInt = 1 → f_areKept 1 = 1 ∧ f_areKept 0 = f_areKept 0)) ∧ ((r = 1 → p0.toInt = 0 → UO f_images f_images 335 ∧ UOL f_namesKept f_namesKept 18 ∧ CPY f_images 0 f_s 0 335 ∧ CPL f_namesKept 0 f_names 0 18) ∧ (r = 1 → p0.toInt = 1 → UO f_images f_images 0 ∧ UOL f_namesKept f_namesKept 0 ∧ CPY f_images 335 f_s 0 335 ∧ CPL f_namesKept 18 f_names 0 18)) ∧ r = 0 ∧ u = [(h0, .inr (10, vL 67 Gh)), (h_s, .inl (cI, 335, .inl f_s)), (h_names, .inl (cJ, 36, .inr (.inl f_names))), (h_images, .inl (cI, 670, .inl f_images)), (h_namesKept, .inl (cJ, 36, .inr (.inl f_namesKept))), (h_areKept, .inl (cZ, 2, .inl f_areKept))]) ∨ (∃ (Gh : Nat → Value), SAME [0] Fh Gh ∧ Gh 0 = .int 0 ∧ 0 ≤ p0.toInt ∧ 1 < p0.toInt ∧ ((r = 1 → p0.toInt = 0 → f_areKept 0 = 1 ∧ f_areKept 1 = f_areKept 1) ∧ (r = 1 → p0.toInt = 1 → f_areKept 1 = 1 ∧ f_areKept 0 = f_areKept 0)) ∧ ((r = 1 → p0.toInt = 0 → UO f_images f_images 335 ∧ UOL f_namesKept f_namesKept 18 ∧ CPY f_images 0 f_s 0 335 ∧ CPL f_namesKept 0 f_names 0 18) ∧ (r = 1 → p0.toInt = 1 → UO f_images f_images 0 ∧ UOL f_namesKept f_namesKept 0 ∧ CPY f_images 335 f_s 0 335 ∧ CPL f_namesKept 18 f_names 0 18)) ∧ r = 0 ∧ u = [(h0, .inr (10, vL 67 Gh)), (h_s, .inl (cI, 335, .inl f_s)), (h_names, .inl (cJ, 36, .inr (.inl f_names))), (h_images, .inl (cI, 670, .inl f_images)), (h_namesKept, .inl (cJ, 36, .inr (.inl f_namesKept))), (h_areKept, .inl (cZ, 2, .inl f_areKept))]) ∨ (∃ (Gh : Nat → Value) (g_images : Nat → Int32) (g_namesKept : Nat → Int64) (g_areKept : Nat → Int32), SAME [0] Fh Gh ∧ Gh 0 = .int 0 ∧ SG 153 153 0 44 g_images ∧ SG 0 0 0 40 g_images ∧ SG 5 5 0 12 g_images ∧ SG 6 6 0 12 g_images ∧ SG 7 7 0 6 g_images ∧ SG 44 55 0 9 g_images ∧ KW 0 g_images ∧ SG 105 108 0 11 g_images ∧ SG 114 114 0 5 g_images ∧ SG 130 133 0 11 g_images ∧ SG 139 139 0 5 g_images ∧ SG 488 488 0 44 g_images ∧ SG 335 335 0 40 g_images ∧ SG 340 340 0 12 g_images ∧ SG 341 341 0 12 g_images ∧ SG 342 342 0 6 g_images ∧ SG 379 390 0 9 g_images ∧ KW 335 g_images ∧ SG 440 443 0 11 g_images ∧ SG 449 449 0 5 g_images ∧ SG 465 468 0 11 g_images ∧ SG 474 474 0 5 g_images ∧ 0 ≤ p0.toInt ∧ p0.toInt ≤ 1 ∧ p0.toInt = 0 ∧ ((r = 1 → p0.toInt = 0 → g_areKept 0 = 1 ∧ g_areKept 1 = f_areKept 1) ∧ (r = 1 → p0.toInt = 1 → g_areKept 1 = 1 ∧ g_areKept 0 = f_areKept 0)) ∧ ((r = 1 → p0.toInt = 0 → UO f_images g_images 335 ∧ UOL f_namesKept g_namesKept 18 ∧ CPY g_images 0 f_s 0 335 ∧ CPL g_namesKept 0 f_names 0 18) ∧ (r = 1 → p0.toInt = 1 → UO f_images g_images 0 ∧ UOL f_namesKept g_namesKept 0 ∧ CPY g_images 335 f_s 0 335 ∧ CPL g_namesKept 18 f_names 0 18)) ∧ r = 1 ∧ u = [(h0, .inr (10, vL 67 Gh)), (h_s, .inl (cI, 335, .inl f_s)), (h_names, .inl (cJ, 36, .inr (.inl f_names))), (h_images, .inl (cI, 670, .inl g_images)), (h_namesKept, .inl (cJ, 36, .inr (.inl g_namesKept))), (h_areKept, .inl (cZ, 2, .inl g_areKept))]) ∨ (∃ (Gh : Nat → Value) (g_images : Nat → Int32) (g_namesKept : Nat → Int64) (g_areKept : Nat → Int32), SAME [0] Fh Gh ∧ Gh 0 = .int 0 ∧ SG 153 153 0 44 g_images ∧ SG 0 0 0 40 g_images ∧ SG 5 5 0 12 g_images ∧ SG 6 6 0 12 g_images ∧ SG 7 7 0 6 g_images ∧ SG 44 55 0 9 g_images ∧ KW 0 g_images ∧ SG 105 108 0 11 g_images ∧ SG 114 114 0 5 g_images ∧ SG 130 133 0 11 g_images ∧ SG 139 139 0 5 g_images ∧ SG 488 488 0 44 g_images ∧ SG 335 335 0 40 g_images ∧ SG 340 340 0 12 g_images ∧ SG 341 341 0 12 g_images ∧ SG 342 342 0 6 g_images ∧ SG 379 390 0 9 g_images ∧ KW 335 g_images ∧ SG 440 443 0 11 g_images ∧ SG 449 449 0 5 g_images ∧ SG 465 468 0 11 g_images ∧ SG 474 474 0 5 g_images ∧ 0 ≤ p0.toInt ∧ p0.toInt ≤ 1 ∧ p0.toInt = 1 ∧ ((r = 1 → p0.toInt = 0 → g_areKept 0 = 1 ∧ g_areKept 1 = f_areKept 1) ∧ (r = 1 → p0.toInt = 1 → g_areKept 1 = 1 ∧ g_areKept 0 = f_areKept 0)) ∧ ((r = 1 → p0.toInt = 0 → UO f_images g_images 335 ∧ UOL f_namesKept g_namesKept 18 ∧ CPY g_images 0 f_s 0 335 ∧ CPL g_namesKept 0 f_names 0 18) ∧ (r = 1 → p0.toInt = 1 → UO f_images g_images 0 ∧ UOL f_namesKept g_namesKept 0 ∧ CPY g_images 335 f_s 0 335 ∧ CPL g_namesKept 18 f_names 0 18)) ∧ r = 1 ∧ u = [(h0, .inr (10, vL 67 Gh)), (h_s, .inl (cI, 335, .inl f_s)), (h_names, .inl (cJ, 36, .inr (.inl f_names))), (h_images, .inl (cI, 670, .inl g_images)), (h_namesKept, .inl (cJ, 36, .inr (.inl g_namesKept))), (h_areKept, .inl (cZ, 2, .inl g_areKept))])) (PO D A) A) [.ref h0, .int p0].toArray s 0 0 A) (F0 m 51 ls [])) ?_ (0, f_namesKept) ⟨(show 0 ≤ (0 : Int32).toInt ∧ (0 : Int32).toInt ≤ 18 by decide), (show UOL f_namesKept f_namesKept 18 from UOL.rf), (show CPL f_namesKept 0 f_names 0 (0) from (CPL.zero (by decide)))⟩ _ _ _ hP hD hS hl
        rintro ⟨u46, w47⟩ ⟨i48, i49, i50⟩ ih_51 H locs ls hP hD hS hl
        have i48 : 0 ≤ u46.toInt ∧ u46.toInt ≤ 18 := i48
        have i49 : UOL f_namesKept w47 18 := i49
        have i50 : CPL w47 0 f_names 0 (u46.toInt) := i50
        have hP : va_P D vwCl [(h0, .inr (10, vL 67 F1)), (h_s, .inl (cI, 335, .inl f_s)), (h_names, .inl (cJ, 36, .inr (.inl f_names))), (h_images, .inl (cI, 670, .inl w17)), (h_namesKept, .inl (cJ, 36, .inr (.inl w47))), (h_areKept, .inl (cZ, 2, .inl f_areKept))] H := hP
        have hD : va_D A [(h0, .inr (10, vL 67 F1)), (h_s, .inl (cI, 335, .inl f_s)), (h_names, .inl (cJ, 36, .inr (.inl f_names))), (h_images, .inl (cI, 670, .inl w17)), (h_namesKept, .inl (cJ, 36, .inr (.inl w47))), (h_areKept, .inl (cZ, 2, .inl f_areKept))] := hD
        have hl : lv_has ls 3 [(2, .int u46), (0, .ref h0), (1, .int 0)] := hl
        refine lv_iload_n hx hb dX10_image_51 rfl (lv_at hl 0 rfl) ?_
        refine lv_bipush (v := 18) hx hb dX10_image_52 (by decide) ?_
        refine lv_icmp_ge (tgt := 80) hx hb dX10_image_54 (by decide) (fun c51 => ?_) (fun c51 => ?_)
        · have dc51 : 18 ≤ u46.toInt := le_i (a := 18) (b := u46.toInt) rfl rfl c51
          have k52 : 18 ≤ u46.toInt ∧ u46.toInt ≤ 18 := ⟨Int.le_trans (Int.le_refl _) dc51, i48.2⟩
          refine lv_aload_n hx hb dX10_image_80 rfl (lv_at hl 1 rfl) ?_
          have n53 : F1 66 = .ref h_areKept := (get_ne eF1 (by decide) e_areKept)
          refine get_f (D := D) (ci := 10) (v := .ref h_areKept) (C := RX10) (T := TX10) (N := 67) hx hb hw inAX10 hown hK hP 0 rfl rfl 66 (by decide) (hw _ q_1327) (fun _ h9 => h9) n53 dX10_image_81 ?_
          refine lv_iload_n hx hb dX10_image_84 rfl (lv_at hl 2 rfl) ?_
          refine lv_iconst (v := 1) hx hb dX10_image_85 (by decide) ?_
          obtain ⟨g54, eg54⟩ : ∃ z : Nat → Int32, upd f_areKept 0 (vp_nar .boolean 1) = z := ⟨_, rfl⟩
          refine zast_n hx hb hK hP hD hS 5 5 rfl rfl 0 rfl (Nat.le_of_ble_eq_true rfl) (Nat.le_of_ble_eq_true rfl) eg54 dX10_image_86 (fun H locs hP hD hS => ?_)
          have hP : va_P D vwCl [(h0, .inr (10, vL 67 F1)), (h_s, .inl (cI, 335, .inl f_s)), (h_names, .inl (cJ, 36, .inr (.inl f_names))), (h_images, .inl (cI, 670, .inl w17)), (h_namesKept, .inl (cJ, 36, .inr (.inl w47))), (h_areKept, .inl (cZ, 2, .inl g54))] H := hP
          have hD : va_D A [(h0, .inr (10, vL 67 F1)), (h_s, .inl (cI, 335, .inl f_s)), (h_names, .inl (cJ, 36, .inr (.inl f_names))), (h_images, .inl (cI, 670, .inl w17)), (h_namesKept, .inl (cJ, 36, .inr (.inl w47))), (h_areKept, .inl (cZ, 2, .inl g54))] := hD
          refine lv_iconst (v := 1) hx hb dX10_image_87 (by decide) ?_
          exact ret_i (v := 1) hx hb hr hlocks hS hP hD dX10_image_88 rfl (Nat.le_of_ble_eq_true rfl) (Nat.le_of_ble_eq_true rfl) (Or.inr (Or.inr (Or.inl ⟨F1, w17, w47, g54, (SAME.up eF1 SAME.rf (by decide)), (get_eq eF1), r41, r36, r43, r44, r45, r42, r35, r37, r38, r39, r40, i29, i20, i21, i22, i23, i24, i19, i25, i26, i27, i28, t6, t7, dk14, ⟨fun _ q => ⟨by rw [← eg54, pk_us]; rfl, by rw [← eg54, pk_un (by decide)]⟩, fun _ q => absurd q (by omega)⟩, ⟨fun _ q => ⟨i30, i49, CPY.mn i31 (by omega), CPL.mn i50 (by omega)⟩, fun _ q => absurd q (by omega)⟩, rfl, rfl⟩)))
        · have dc51 : u46.toInt < 18 := nle_i (a := 18) (b := u46.toInt) rfl rfl c51
          have k55 : 0 ≤ u46.toInt ∧ u46.toInt ≤ 17 := ⟨i48.1, up_lt dc51 (Int.le_refl _) (by decide)⟩
          refine lv_aload_n hx hb dX10_image_57 rfl (lv_at hl 1 rfl) ?_
          have n56 : F1 65 = .ref h_namesKept := (get_ne eF1 (by decide) e_namesKept)
          refine get_f (D := D) (ci := 10) (v := .ref h_namesKept) (C := RX10) (T := TX10) (N := 67) hx hb hw inAX10 hown hK hP 0 rfl rfl 65 (by decide) (hw _ q_1326) (fun _ h9 => h9) n56 dX10_image_58 ?_
          refine lv_bipush (v := 18) hx hb dX10_image_61 (by decide) ?_
          refine lv_iload_n hx hb dX10_image_63 rfl (lv_at hl 2 rfl) ?_
          refine lv_imul hx hb dX10_image_64 ?_
          refine lv_ci (y := 0) (by decide +kernel) ?_
          refine lv_iload_n hx hb dX10_image_65 rfl (lv_at hl 0 rfl) ?_
          refine lv_iadd hx hb dX10_image_66 ?_
          refine lv_topi (fun v57 ev57 => ?_)
          have bv57 : v57.toInt = 0 + u46.toInt := by rw [ev57]; exact add_k rfl rfl ⟨Int.le_refl _, Int.le_refl _⟩ k55 (by decide)
          have k58 : 0 ≤ v57.toInt ∧ v57.toInt ≤ 17 := add_r bv57 ⟨Int.le_refl _, Int.le_refl _⟩ k55 (by decide)
          refine lv_aload_n hx hb dX10_image_67 rfl (lv_at hl 1 rfl) ?_
          have n59 : F1 9 = .ref h_names := (get_ne eF1 (by decide) e_names)
          refine get_f (D := D) (ci := 10) (v := .ref h_names) (C := RX10) (T := TX10) (N := 67) hx hb hw inAX10 hown hK hP 0 rfl rfl 9 (by decide) (hw _ q_1270) (fun _ h9 => h9) n59 dX10_image_68 ?_
          refine lv_iload_n hx hb dX10_image_71 rfl (lv_at hl 0 rfl) ?_
          refine va_lald hx hb hK hP 2 1 rfl rfl (ix_k k55 (by decide) (by decide)) dX10_image_72 ?_
          refine lv_topl (fun v60 ev60 => ?_)
          obtain ⟨g61, eg61⟩ : ∃ z : Nat → Int64, vp_updL w47 v57.toNatClampNeg v60 = z := ⟨_, rfl⟩
          refine last_g hx hb hK hP hD hS 4 1 rfl rfl (ix_k k58 (by decide) (by decide)) eg61 dX10_image_73 (fun H locs hP hD hS => ?_)
          have hP : va_P D vwCl [(h0, .inr (10, vL 67 F1)), (h_s, .inl (cI, 335, .inl f_s)), (h_names, .inl (cJ, 36, .inr (.inl f_names))), (h_images, .inl (cI, 670, .inl w17)), (h_namesKept, .inl (cJ, 36, .inr (.inl g61))), (h_areKept, .inl (cZ, 2, .inl f_areKept))] H := hP
          have hD : va_D A [(h0, .inr (10, vL 67 F1)), (h_s, .inl (cI, 335, .inl f_s)), (h_names, .inl (cJ, 36, .inr (.inl f_names))), (h_images, .inl (cI, 670, .inl w17)), (h_namesKept, .inl (cJ, 36, .inr (.inl g61))), (h_areKept, .inl (cZ, 2, .inl f_areKept))] := hD
          obtain ⟨v62, ev62⟩ : ∃ z : Int32, z = u46 + 1 := ⟨_, rfl⟩
          have bv62 : v62.toInt = u46.toInt + 1 := by rw [ev62]; exact add_k rfl rfl k55 ⟨Int.le_refl _, Int.le_refl _⟩ (by decide)
          have k63 : 1 ≤ v62.toInt ∧ v62.toInt ≤ 18 := add_r bv62 k55 ⟨Int.le_refl _, Int.le_refl _⟩ (by decide)
          refine lv_iinc (v := v62) (lv' := [(2, .int v62), (0, .ref h0), (1, .int 0)]) hx hb dX10_image_74 hl (k := 0) rfl (by rw [ev62]; rfl) (by decide) rfl (fun ls hl => ?_)
          refine lv_goto (tgt := 51) hx hb dX10_image_77 (by decide) ?_
          exact ih_51 (v62, g61) ⟨(ir_wk k63 (by decide) (by decide)), (show UOL f_namesKept g61 18 from (UOL.up i49 eg61 (by omega) (by omega))), (show CPL g61 0 f_names 0 (v62.toInt) from (CPL.step i50 eg61 ev60 (by omega) (by omega) (by omega)))⟩ (by show (18 - v62.toInt).toNat < (18 - u46.toInt).toNat; omega) _ _ _ hP hD hS (lv_sub hl [0, 1, 2] rfl)
      · have dc33 : u16.toInt < 335 := nle_i (a := 335) (b := u16.toInt) rfl rfl c33
        have k64 : 0 ≤ u16.toInt ∧ u16.toInt ≤ 334 := ⟨i18.1, up_lt dc33 (Int.le_refl _) (by decide)⟩
        refine lv_aload_n hx hb dX10_image_25 rfl (lv_at hl 1 rfl) ?_
        have n65 : F1 64 = .ref h_images := (get_ne eF1 (by decide) e_images)
        refine get_f (D := D) (ci := 10) (v := .ref h_images) (C := RX10) (T := TX10) (N := 67) hx hb hw inAX10 hown hK hP 0 rfl rfl 64 (by decide) (hw _ q_1325) (fun _ h9 => h9) n65 dX10_image_26 ?_
        refine lv_sipush (v := 335) hx hb dX10_image_29 (by decide) ?_
        refine lv_iload_n hx hb dX10_image_32 rfl (lv_at hl 2 rfl) ?_
        refine lv_imul hx hb dX10_image_33 ?_
        refine lv_ci (y := 0) (by decide +kernel) ?_
        refine lv_iload_n hx hb dX10_image_34 rfl (lv_at hl 0 rfl) ?_
        refine lv_iadd hx hb dX10_image_35 ?_
        refine lv_topi (fun v66 ev66 => ?_)
        have bv66 : v66.toInt = 0 + u16.toInt := by rw [ev66]; exact add_k rfl rfl ⟨Int.le_refl _, Int.le_refl _⟩ k64 (by decide)
        have k67 : 0 ≤ v66.toInt ∧ v66.toInt ≤ 334 := add_r bv66 ⟨Int.le_refl _, Int.le_refl _⟩ k64 (by decide)
        refine lv_aload_n hx hb dX10_image_36 rfl (lv_at hl 1 rfl) ?_
        have n68 : F1 6 = .ref h_s := (get_ne eF1 (by decide) e_s)
        refine get_f (D := D) (ci := 10) (v := .ref h_s) (C := RX10) (T := TX10) (N := 67) hx hb hw inAX10 hown hK hP 0 rfl rfl 6 (by decide) (hw _ q_1267) (fun _ h9 => h9) n68 dX10_image_37 ?_
        refine lv_iload_n hx hb dX10_image_40 rfl (lv_at hl 0 rfl) ?_
        refine va_iald hx hb hK hP 1 0 rfl rfl (ix_k k64 (by decide) (by decide)) dX10_image_41 ?_
        refine lv_topi (fun v69 ev69 => ?_)
        have r70 : IMP (0 ≤ u16.toInt → u16.toInt ≤ 0 → 0 ≤ v69.toInt ∧ v69.toInt ≤ 40) := IMP.mk (fun q1 q2 => by rw [ev69]; exact s_s_0.at _ q1 q2)
        have r71 : IMP (105 ≤ u16.toInt → u16.toInt ≤ 108 → 0 ≤ v69.toInt ∧ v69.toInt ≤ 11) := IMP.mk (fun q1 q2 => by rw [ev69]; exact s_s_105.at _ q1 q2)
        have r72 : IMP (114 ≤ u16.toInt → u16.toInt ≤ 114 → 0 ≤ v69.toInt ∧ v69.toInt ≤ 5) := IMP.mk (fun q1 q2 => by rw [ev69]; exact s_s_114.at _ q1 q2)
        have r73 : IMP (130 ≤ u16.toInt → u16.toInt ≤ 133 → 0 ≤ v69.toInt ∧ v69.toInt ≤ 11) := IMP.mk (fun q1 q2 => by rw [ev69]; exact s_s_130.at _ q1 q2)
        have r74 : IMP (139 ≤ u16.toInt → u16.toInt ≤ 139 → 0 ≤ v69.toInt ∧ v69.toInt ≤ 5) := IMP.mk (fun q1 q2 => by rw [ev69]; exact s_s_139.at _ q1 q2)
        have r75 : IMP (153 ≤ u16.toInt → u16.toInt ≤ 153 → 0 ≤ v69.toInt ∧ v69.toInt ≤ 44) := IMP.mk (fun q1 q2 => by rw [ev69]; exact s_s_153.at _ q1 q2)
        have r76 : IMP (44 ≤ u16.toInt → u16.toInt ≤ 55 → 0 ≤ v69.toInt ∧ v69.toInt ≤ 9) := IMP.mk (fun q1 q2 => by rw [ev69]; exact s_s_44.at _ q1 q2)
        have r77 : IMP (5 ≤ u16.toInt → u16.toInt ≤ 5 → 0 ≤ v69.toInt ∧ v69.toInt ≤ 12) := IMP.mk (fun q1 q2 => by rw [ev69]; exact s_s_5.at _ q1 q2)
        have r78 : IMP (6 ≤ u16.toInt → u16.toInt ≤ 6 → 0 ≤ v69.toInt ∧ v69.toInt ≤ 12) := IMP.mk (fun q1 q2 => by rw [ev69]; exact s_s_6.at _ q1 q2)
        have r79 : IMP (7 ≤ u16.toInt → u16.toInt ≤ 7 → 0 ≤ v69.toInt ∧ v69.toInt ≤ 6) := IMP.mk (fun q1 q2 => by rw [ev69]; exact s_s_7.at _ q1 q2)
        obtain ⟨g80, eg80⟩ : ∃ z : Nat → Int32, upd w17 v66.toNatClampNeg v69 = z := ⟨_, rfl⟩
        have r81 : KW 335 g80 := by rw [← eg80]; exact i19.up (Int.le_trans (by decide) k67.1) (Or.inl (lt_dec k67.2 (by decide)))
        have r82 : SG 335 335 0 40 g80 := by rw [← eg80]; exact i20.up (Int.le_trans (by decide) k67.1) (Or.inl (lt_dec k67.2 (by decide)))
        have r83 : SG 340 340 0 12 g80 := by rw [← eg80]; exact i21.up (Int.le_trans (by decide) k67.1) (Or.inl (lt_dec k67.2 (by decide)))
        have r84 : SG 341 341 0 12 g80 := by rw [← eg80]; exact i22.up (Int.le_trans (by decide) k67.1) (Or.inl (lt_dec k67.2 (by decide)))
        have r85 : SG 342 342 0 6 g80 := by rw [← eg80]; exact i23.up (Int.le_trans (by decide) k67.1) (Or.inl (lt_dec k67.2 (by decide)))
        have r86 : SG 379 390 0 9 g80 := by rw [← eg80]; exact i24.up (Int.le_trans (by decide) k67.1) (Or.inl (lt_dec k67.2 (by decide)))
        have r87 : SG 440 443 0 11 g80 := by rw [← eg80]; exact i25.up (Int.le_trans (by decide) k67.1) (Or.inl (lt_dec k67.2 (by decide)))
        have r88 : SG 449 449 0 5 g80 := by rw [← eg80]; exact i26.up (Int.le_trans (by decide) k67.1) (Or.inl (lt_dec k67.2 (by decide)))
        have r89 : SG 465 468 0 11 g80 := by rw [← eg80]; exact i27.up (Int.le_trans (by decide) k67.1) (Or.inl (lt_dec k67.2 (by decide)))
        have r90 : SG 474 474 0 5 g80 := by rw [← eg80]; exact i28.up (Int.le_trans (by decide) k67.1) (Or.inl (lt_dec k67.2 (by decide)))
        have r91 : SG 488 488 0 44 g80 := by rw [← eg80]; exact i29.up (Int.le_trans (by decide) k67.1) (Or.inl (lt_dec k67.2 (by decide)))
        refine iast_g hx hb hK hP hD hS 3 0 rfl rfl (ix_k k67 (by decide) (by decide)) eg80 dX10_image_42 (fun H locs hP hD hS => ?_)
        have hP : va_P D vwCl [(h0, .inr (10, vL 67 F1)), (h_s, .inl (cI, 335, .inl f_s)), (h_names, .inl (cJ, 36, .inr (.inl f_names))), (h_images, .inl (cI, 670, .inl g80)), (h_namesKept, .inl (cJ, 36, .inr (.inl f_namesKept))), (h_areKept, .inl (cZ, 2, .inl f_areKept))] H := hP
        have hD : va_D A [(h0, .inr (10, vL 67 F1)), (h_s, .inl (cI, 335, .inl f_s)), (h_names, .inl (cJ, 36, .inr (.inl f_names))), (h_images, .inl (cI, 670, .inl g80)), (h_namesKept, .inl (cJ, 36, .inr (.inl f_namesKept))), (h_areKept, .inl (cZ, 2, .inl f_areKept))] := hD
        obtain ⟨v92, ev92⟩ : ∃ z : Int32, z = u16 + 1 := ⟨_, rfl⟩
        have bv92 : v92.toInt = u16.toInt + 1 := by rw [ev92]; exact add_k rfl rfl k64 ⟨Int.le_refl _, Int.le_refl _⟩ (by decide)
        have k93 : 1 ≤ v92.toInt ∧ v92.toInt ≤ 335 := add_r bv92 k64 ⟨Int.le_refl _, Int.le_refl _⟩ (by decide)
        refine lv_iinc (v := v92) (lv' := [(2, .int v92), (0, .ref h0), (1, .int 0)]) hx hb dX10_image_43 hl (k := 0) rfl (by rw [ev92]; rfl) (by decide) rfl (fun ls hl => ?_)
        refine lv_goto (tgt := 18) hx hb dX10_image_46 (by decide) ?_
        exact ih (v92, g80) ⟨(ir_wk k93 (by decide) (by decide)), r81, r82, r83, r84, r85, r86, r87, r88, r89, r90, r91, (show UO f_images g80 335 from (UO.up i30 eg80 (by omega) (by omega))), (show CPY g80 0 f_s 0 (v92.toInt) from (CPY.step i31 eg80 ev69 (by omega) (by omega) (by omega))), (CPY.step i32 eg80 ev69 (by omega) (by omega) (by omega))⟩ (by show (335 - v92.toInt).toNat < (335 - u16.toInt).toNat; omega) _ _ _ hP hD hS (lv_sub hl [0, 1, 2] rfl)
    have dk14 : p0.toInt ≠ 0 := ne_i rfl rfl k14
    have k94 : 1 ≤ p0.toInt ∧ p0.toInt ≤ 1 := ⟨ne_lo dk14 k13.1 ⟨Int.le_refl _, Int.le_refl _⟩ (by decide), k13.2⟩
    have k95 : p0 = 1 := Int32.toInt_inj.mp (show p0.toInt = 1 by omega)
    have dk95 : p0.toInt = 1 := eq_i rfl rfl k95
    have hl : lv_has ls 3 [(0, .ref h0), (1, .int 1)] := by have q := hl; rw [k95] at q; exact q
    refine lv_iconst (v := 0) hx hb dX10_image_16 (by decide) ?_
    refine lv_istore_n (lv' := [(2, .int 0), (0, .ref h0), (1, .int 1)]) hx hb dX10_image_17 rfl hl (by decide) rfl (fun ls hl => ?_)
    refine mloop (α := (Int32) × (Nat → Int32)) (nL := 3) (D := D) (A := A) (H0 := s.heap) (fun a => (335 - a.1.toInt).toNat) (fun a => IR 0 335 a.1 ∧ KW 0 a.2 ∧ SG 0 0 0 40 a.2 ∧ SG 105 108 0 11 a.2 ∧ SG 114 114 0 5 a.2 ∧ SG 130 133 0 11 a.2 ∧ SG 139 139 0 5 a.2 ∧ SG 153 153 0 44 a.2 ∧ SG 44 55 0 9 a.2 ∧ SG 5 5 0 12 a.2 ∧ SG 6 6 0 12 a.2 ∧ SG 7 7 0 6 a.2 ∧ (UO f_images a.2 0) ∧ (CPY a.2 335 f_s 0 (a.1.toInt)) ∧ (CPY a.2 335 f_s 0 (a.1.toInt))) (fun a => [(h0, .inr (10, vL 67 F1)), (h_s, .inl (cI, 335, .inl f_s)), (h_names, .inl (cJ, 36, .inr (.inl f_names))), (h_images, .inl (cI, 670, .inl a.2)), (h_namesKept, .inl (cJ, 36, .inr (.inl f_namesKept))), (h_areKept, .inl (cZ, 2, .inl f_areKept))]) (fun a => [(2, .int a.1), (0, .ref h0), (1, .int 1)]) (fun H locs ls => W p l e ({ frames := 1, cells := 0, slots := 0, locals := 22 } : Room) s m [.ref h0, .int p0].toArray below meth c H locs 0 0 (MQ below (va_Qi (fun (r : Int32) (u : va_W) => (∃ (Gh : Nat → Value), SAME [0] Fh Gh ∧ Gh 0 = .int 0 ∧ p0.toInt < 0 ∧ ((r = 1 → p0.toInt = 0 → f_areKept 0 = 1 ∧ f_areKept 1 = f_areKept 1) ∧ (r = 1 → p0.toInt = 1 → f_areKept 1 = 1 ∧ f_areKept 0 = f_areKept 0)) ∧ ((r = 1 → p0.toInt = 0 → UO f_images f_images 335 ∧ UOL f_namesKept f_namesKept 18 ∧ CPY f_images 0 f_s 0 335 ∧ CPL f_namesKept 0 f_names 0 18) ∧ (r = 1 → p0.toInt = 1 → UO f_images f_images 0 ∧ UOL f_namesKept f_namesKept 0 ∧ CPY f_images 335 f_s 0 335 ∧ CPL f_namesKept 18 f_names 0 18)) ∧ r = 0 ∧ u = [(h0, .inr (10, vL 67 Gh)), (h_s, .inl (cI, 335, .inl f_s)), (h_names, .inl (cJ, 36, .inr (.inl f_names))), (h_images, .inl (cI, 670, .inl f_images)), (h_namesKept, .inl (cJ, 36, .inr (.inl f_namesKept))), (h_areKept, .inl (cZ, 2, .inl f_areKept))]) ∨ (∃ (Gh : Nat → Value), SAME [0] Fh Gh ∧ Gh 0 = .int 0 ∧ 0 ≤ p0.toInt ∧ 1 < p0.toInt ∧ ((r = 1 → p0.toInt = 0 → f_areKept 0 = 1 ∧ f_areKept 1 = f_areKept 1) ∧ (r = 1 → p0.toInt = 1 → f_areKept 1 = 1 ∧ f_areKept 0 = f_areKept 0)) ∧ ((r = 1 → p0.toInt = 0 → UO f_images f_images 335 ∧ UOL f_namesKept f_namesKept 18 ∧ CPY f_images 0 f_s 0 335 ∧ CPL f_namesKept 0 f_names 0 18) ∧ (r = 1 → p0.toInt = 1 → UO f_images f_images 0 ∧ UOL f_namesKept f_namesKept 0 ∧ CPY f_images 335 f_s 0 335 ∧ CPL f_namesKept 18 f_names 0 18)) ∧ r = 0 ∧ u = [(h0, .inr (10, vL 67 Gh)), (h_s, .inl (cI, 335, .inl f_s)), (h_names, .inl (cJ, 36, .inr (.inl f_names))), (h_images, .inl (cI, 670, .inl f_images)), (h_namesKept, .inl (cJ, 36, .inr (.inl f_namesKept))), (h_areKept, .inl (cZ, 2, .inl f_areKept))]) ∨ (∃ (Gh : Nat → Value) (g_images : Nat → Int32) (g_namesKept : Nat → Int64) (g_areKept : Nat → Int32), SAME [0] Fh Gh ∧ Gh 0 = .int 0 ∧ SG 153 153 0 44 g_images ∧ SG 0 0 0 40 g_images ∧ SG 5 5 0 12 g_images ∧ SG 6 6 0 12 g_images ∧ SG 7 7 0 6 g_images ∧ SG 44 55 0 9 g_images ∧ KW 0 g_images ∧ SG 105 108 0 11 g_images ∧ SG 114 114 0 5 g_images ∧ SG 130 133 0 11 g_images ∧ SG 139 139 0 5 g_images ∧ SG 488 488 0 44 g_images ∧ SG 335 335 0 40 g_images ∧ SG 340 340 0 12 g_images ∧ SG 341 341 0 12 g_images ∧ SG 342 342 0 6 g_images ∧ SG 379 390 0 9 g_images ∧ KW 335 g_images ∧ SG 440 443 0 11 g_images ∧ SG 449 449 0 5 g_images ∧ SG 465 468 0 11 g_images ∧ SG 474 474 0 5 g_images ∧ 0 ≤ p0.toInt ∧ p0.toInt ≤ 1 ∧ p0.toInt = 0 ∧ ((r = 1 → p0.toInt = 0 → g_areKept 0 = 1 ∧ g_areKept 1 = f_areKept 1) ∧ (r = 1 → p0.toInt = 1 → g_areKept 1 = 1 ∧ g_areKept 0 = f_areKept 0)) ∧ ((r = 1 → p0.toInt = 0 → UO f_images g_images 335 ∧ UOL f_namesKept g_namesKept 18 ∧ CPY g_images 0 f_s 0 335 ∧ CPL g_namesKept 0 f_names 0 18) ∧ (r = 1 → p0.toInt = 1 → UO f_images g_images 0 ∧ UOL f_namesKept g_namesKept 0 ∧ CPY g_images 335 f_s 0 335 ∧ CPL g_namesKept 18 f_names 0 18)) ∧ r = 1 ∧ u = [(h0, .inr (10, vL 67 Gh)), (h_s, .inl (cI, 335, .inl f_s)), (h_names, .inl (cJ, 36, .inr (.inl f_names))), (h_images, .inl (cI, 670, .inl g_images)), (h_namesKept, .inl (cJ, 36, .inr (.inl g_namesKept))), (h_areKept, .inl (cZ, 2, .inl g_areKept))]) ∨ (∃ (Gh : Nat → Value) (g_images : Nat → Int32) (g_namesKept : Nat → Int64) (g_areKept : Nat → Int32), SAME [0] Fh Gh ∧ Gh 0 = .int 0 ∧ SG 153 153 0 44 g_images ∧ SG 0 0 0 40 g_images ∧ SG 5 5 0 12 g_images ∧ SG 6 6 0 12 g_images ∧ SG 7 7 0 6 g_images ∧ SG 44 55 0 9 g_images ∧ KW 0 g_images ∧ SG 105 108 0 11 g_images ∧ SG 114 114 0 5 g_images ∧ SG 130 133 0 11 g_images ∧ SG 139 139 0 5 g_images ∧ SG 488 488 0 44 g_images ∧ SG 335 335 0 40 g_images ∧ SG 340 340 0 12 g_images ∧ SG 341 341 0 12 g_images ∧ SG 342 342 0 6 g_images ∧ SG 379 390 0 9 g_images ∧ KW 335 g_images ∧ SG 440 443 0 11 g_images ∧ SG 449 449 0 5 g_images ∧ SG 465 468 0 11 g_images ∧ SG 474 474 0 5 g_images ∧ 0 ≤ p0.toInt ∧ p0.toInt ≤ 1 ∧ p0.toInt = 1 ∧ ((r = 1 → p0.toInt = 0 → g_areKept 0 = 1 ∧ g_areKept 1 = f_areKept 1) ∧ (r = 1 → p0.toInt = 1 → g_areKept 1 = 1 ∧ g_areKept 0 = f_areKept 0)) ∧ ((r = 1 → p0.toInt = 0 → UO f_images g_images 335 ∧ UOL f_namesKept g_namesKept 18 ∧ CPY g_images 0 f_s 0 335 ∧ CPL g_namesKept 0 f_names 0 18) ∧ (r = 1 → p0.toInt = 1 → UO f_images g_images 0 ∧ UOL f_namesKept g_namesKept 0 ∧ CPY g_images 335 f_s 0 335 ∧ CPL g_namesKept 18 f_names 0 18)) ∧ r = 1 ∧ u = [(h0, .inr (10, vL 67 Gh)), (h_s, .inl (cI, 335, .inl f_s)), (h_names, .inl (cJ, 36, .inr (.inl f_names))), (h_images, .inl (cI, 670, .inl g_images)), (h_namesKept, .inl (cJ, 36, .inr (.inl g_namesKept))), (h_areKept, .inl (cZ, 2, .inl g_areKept))])) (PO D A) A) [.ref h0, .int p0].toArray s 0 0 A) (F0 m 18 ls [])) ?_ (0, f_images) ⟨(show 0 ≤ (0 : Int32).toInt ∧ (0 : Int32).toInt ≤ 335 by decide), s_images_K0, s_images_0, s_images_105, s_images_114, s_images_130, s_images_139, s_images_153, s_images_44, s_images_5, s_images_6, s_images_7, (show UO f_images f_images 0 from UO.rf), (show CPY f_images 335 f_s 0 (0) from (CPY.zero (by decide))), (show CPY f_images 335 f_s 0 (0) from (CPY.zero (by decide)))⟩ _ _ _ hP hD hS hl
    rintro ⟨u96, w97⟩ ⟨i98, i99, i100, i101, i102, i103, i104, i105, i106, i107, i108, i109, i110, i111, i112⟩ ih H locs ls hP hD hS hl
    have i98 : 0 ≤ u96.toInt ∧ u96.toInt ≤ 335 := i98
    have i110 : UO f_images w97 0 := i110
    have i111 : CPY w97 335 f_s 0 (u96.toInt) := i111
    have i112 : CPY w97 335 f_s 0 (u96.toInt) := i112
    have hP : va_P D vwCl [(h0, .inr (10, vL 67 F1)), (h_s, .inl (cI, 335, .inl f_s)), (h_names, .inl (cJ, 36, .inr (.inl f_names))), (h_images, .inl (cI, 670, .inl w97)), (h_namesKept, .inl (cJ, 36, .inr (.inl f_namesKept))), (h_areKept, .inl (cZ, 2, .inl f_areKept))] H := hP
    have hD : va_D A [(h0, .inr (10, vL 67 F1)), (h_s, .inl (cI, 335, .inl f_s)), (h_names, .inl (cJ, 36, .inr (.inl f_names))), (h_images, .inl (cI, 670, .inl w97)), (h_namesKept, .inl (cJ, 36, .inr (.inl f_namesKept))), (h_areKept, .inl (cZ, 2, .inl f_areKept))] := hD
    have hl : lv_has ls 3 [(2, .int u96), (0, .ref h0), (1, .int 1)] := hl
    refine lv_iload_n hx hb dX10_image_18 rfl (lv_at hl 0 rfl) ?_
    refine lv_sipush (v := 335) hx hb dX10_image_19 (by decide) ?_
    refine lv_icmp_ge (tgt := 49) hx hb dX10_image_22 (by decide) (fun c113 => ?_) (fun c113 => ?_)
    · have dc113 : 335 ≤ u96.toInt := le_i (a := 335) (b := u96.toInt) rfl rfl c113
      have k114 : 335 ≤ u96.toInt ∧ u96.toInt ≤ 335 := ⟨Int.le_trans (Int.le_refl _) dc113, i98.2⟩
      have r115 : KW 335 w97 := KW.cpy i112 s_s_K0 (by omega) (by decide)
      have r116 : SG 335 335 0 40 w97 := SG.cpy i112 s_s_0 (by decide) (by decide) (by decide) (by omega)
      have r117 : SG 440 443 0 11 w97 := SG.cpy i112 s_s_105 (by decide) (by decide) (by decide) (by omega)
      have r118 : SG 449 449 0 5 w97 := SG.cpy i112 s_s_114 (by decide) (by decide) (by decide) (by omega)
      have r119 : SG 465 468 0 11 w97 := SG.cpy i112 s_s_130 (by decide) (by decide) (by decide) (by omega)
      have r120 : SG 474 474 0 5 w97 := SG.cpy i112 s_s_139 (by decide) (by decide) (by decide) (by omega)
      have r121 : SG 488 488 0 44 w97 := SG.cpy i112 s_s_153 (by decide) (by decide) (by decide) (by omega)
      have r122 : SG 379 390 0 9 w97 := SG.cpy i112 s_s_44 (by decide) (by decide) (by decide) (by omega)
      have r123 : SG 340 340 0 12 w97 := SG.cpy i112 s_s_5 (by decide) (by decide) (by decide) (by omega)
      have r124 : SG 341 341 0 12 w97 := SG.cpy i112 s_s_6 (by decide) (by decide) (by decide) (by omega)
      have r125 : SG 342 342 0 6 w97 := SG.cpy i112 s_s_7 (by decide) (by decide) (by decide) (by omega)
      refine lv_iconst (v := 0) hx hb dX10_image_49 (by decide) ?_
      refine lv_istore_n (lv' := [(2, .int 0), (0, .ref h0), (1, .int 1)]) hx hb dX10_image_50 rfl hl (by decide) rfl (fun ls hl => ?_)
      refine mloop (α := (Int32) × (Nat → Int64)) (nL := 3) (D := D) (A := A) (H0 := s.heap) (fun a => (18 - a.1.toInt).toNat) (fun a => IR 0 18 a.1 ∧ (UOL f_namesKept a.2 0) ∧ (CPL a.2 18 f_names 0 (a.1.toInt))) (fun a => [(h0, .inr (10, vL 67 F1)), (h_s, .inl (cI, 335, .inl f_s)), (h_names, .inl (cJ, 36, .inr (.inl f_names))), (h_images, .inl (cI, 670, .inl w97)), (h_namesKept, .inl (cJ, 36, .inr (.inl a.2))), (h_areKept, .inl (cZ, 2, .inl f_areKept))]) (fun a => [(2, .int a.1), (0, .ref h0), (1, .int 1)]) (fun H locs ls => W p l e ({ frames := 1, cells := 0, slots := 0, locals := 22 } : Room) s m [.ref h0, .int p0].toArray below meth c H locs 0 0 (MQ below (va_Qi (fun (r : Int32) (u : va_W) => (∃ (Gh : Nat → Value), SAME [0] Fh Gh ∧ Gh 0 = .int 0 ∧ p0.toInt < 0 ∧ ((r = 1 → p0.toInt = 0 → f_areKept 0 = 1 ∧ f_areKept 1 = f_areKept 1) ∧ (r = 1 → p0.toInt = 1 → f_areKept 1 = 1 ∧ f_areKept 0 = f_areKept 0)) ∧ ((r = 1 → p0.toInt = 0 → UO f_images f_images 335 ∧ UOL f_namesKept f_namesKept 18 ∧ CPY f_images 0 f_s 0 335 ∧ CPL f_namesKept 0 f_names 0 18) ∧ (r = 1 → p0.toInt = 1 → UO f_images f_images 0 ∧ UOL f_namesKept f_namesKept 0 ∧ CPY f_images 335 f_s 0 335 ∧ CPL f_namesKept 18 f_names 0 18)) ∧ r = 0 ∧ u = [(h0, .inr (10, vL 67 Gh)), (h_s, .inl (cI, 335, .inl f_s)), (h_names, .inl (cJ, 36, .inr (.inl f_names))), (h_images, .inl (cI, 670, .inl f_images)), (h_namesKept, .inl (cJ, 36, .inr (.inl f_namesKept))), (h_areKept, .inl (cZ, 2, .inl f_areKept))]) ∨ (∃ (Gh : Nat → Value), SAME [0] Fh Gh ∧ Gh 0 = .int 0 ∧ 0 ≤ p0.toInt ∧ 1 < p0.toInt ∧ ((r = 1 → p0.toInt = 0 → f_areKept 0 = 1 ∧ f_areKept 1 = f_areKept 1) ∧ (r = 1 → p0.toInt = 1 → f_areKept 1 = 1 ∧ f_areKept 0 = f_areKept 0)) ∧ ((r = 1 → p0.toInt = 0 → UO f_images f_images 335 ∧ UOL f_namesKept f_namesKept 18 ∧ CPY f_images 0 f_s 0 335 ∧ CPL f_namesKept 0 f_names 0 18) ∧ (r = 1 → p0.toInt = 1 → UO f_images f_images 0 ∧ UOL f_namesKept f_namesKept 0 ∧ CPY f_images 335 f_s 0 335 ∧ CPL f_namesKept 18 f_names 0 18)) ∧ r = 0 ∧ u = [(h0, .inr (10, vL 67 Gh)), (h_s, .inl (cI, 335, .inl f_s)), (h_names, .inl (cJ, 36, .inr (.inl f_names))), (h_images, .inl (cI, 670, .inl f_images)), (h_namesKept, .inl (cJ, 36, .inr (.inl f_namesKept))), (h_areKept, .inl (cZ, 2, .inl f_areKept))]) ∨ (∃ (Gh : Nat → Value) (g_images : Nat → Int32) (g_namesKept : Nat → Int64) (g_areKept : Nat → Int32), SAME [0] Fh Gh ∧ Gh 0 = .int 0 ∧ SG 153 153 0 44 g_images ∧ SG 0 0 0 40 g_images ∧ SG 5 5 0 12 g_images ∧ SG 6 6 0 12 g_images ∧ SG 7 7 0 6 g_images ∧ SG 44 55 0 9 g_images ∧ KW 0 g_images ∧ SG 105 108 0 11 g_images ∧ SG 114 114 0 5 g_images ∧ SG 130 133 0 11 g_images ∧ SG 139 139 0 5 g_images ∧ SG 488 488 0 44 g_images ∧ SG 335 335 0 40 g_images ∧ SG 340 340 0 12 g_images ∧ SG 341 341 0 12 g_images ∧ SG 342 342 0 6 g_images ∧ SG 379 390 0 9 g_images ∧ KW 335 g_images ∧ SG 440 443 0 11 g_images ∧ SG 449 449 0 5 g_images ∧ SG 465 468 0 11 g_images ∧ SG 474 474 0 5 g_images ∧ 0 ≤ p0.toInt ∧ p0.toInt ≤ 1 ∧ p0.toInt = 0 ∧ ((r = 1 → p0.toInt = 0 → g_areKept 0 = 1 ∧ g_areKept 1 = f_areKept 1) ∧ (r = 1 → p0.toInt = 1 → g_areKept 1 = 1 ∧ g_areKept 0 = f_areKept 0)) ∧ ((r = 1 → p0.toInt = 0 → UO f_images g_images 335 ∧ UOL f_namesKept g_namesKept 18 ∧ CPY g_images 0 f_s 0 335 ∧ CPL g_namesKept 0 f_names 0 18) ∧ (r = 1 → p0.toInt = 1 → UO f_images g_images 0 ∧ UOL f_namesKept g_namesKept 0 ∧ CPY g_images 335 f_s 0 335 ∧ CPL g_namesKept 18 f_names 0 18)) ∧ r = 1 ∧ u = [(h0, .inr (10, vL 67 Gh)), (h_s, .inl (cI, 335, .inl f_s)), (h_names, .inl (cJ, 36, .inr (.inl f_names))), (h_images, .inl (cI, 670, .inl g_images)), (h_namesKept, .inl (cJ, 36, .inr (.inl g_namesKept))), (h_areKept, .inl (cZ, 2, .inl g_areKept))]) ∨ (∃ (Gh : Nat → Value) (g_images : Nat → Int32) (g_namesKept : Nat → Int64) (g_areKept : Nat → Int32), SAME [0] Fh Gh ∧ Gh 0 = .int 0 ∧ SG 153 153 0 44 g_images ∧ SG 0 0 0 40 g_images ∧ SG 5 5 0 12 g_images ∧ SG 6 6 0 12 g_images ∧ SG 7 7 0 6 g_images ∧ SG 44 55 0 9 g_images ∧ KW 0 g_images ∧ SG 105 108 0 11 g_images ∧ SG 114 114 0 5 g_images ∧ SG 130 133 0 11 g_images ∧ SG 139 139 0 5 g_images ∧ SG 488 488 0 44 g_images ∧ SG 335 335 0 40 g_images ∧ SG 340 340 0 12 g_images ∧ SG 341 341 0 12 g_images ∧ SG 342 342 0 6 g_images ∧ SG 379 390 0 9 g_images ∧ KW 335 g_images ∧ SG 440 443 0 11 g_images ∧ SG 449 449 0 5 g_images ∧ SG 465 468 0 11 g_images ∧ SG 474 474 0 5 g_images ∧ 0 ≤ p0.toInt ∧ p0.toInt ≤ 1 ∧ p0.toInt = 1 ∧ ((r = 1 → p0.toInt = 0 → g_areKept 0 = 1 ∧ g_areKept 1 = f_areKept 1) ∧ (r = 1 → p0.toInt = 1 → g_areKept 1 = 1 ∧ g_areKept 0 = f_areKept 0)) ∧ ((r = 1 → p0.toInt = 0 → UO f_images g_images 335 ∧ UOL f_namesKept g_namesKept 18 ∧ CPY g_images 0 f_s 0 335 ∧ CPL g_namesKept 0 f_names 0 18) ∧ (r = 1 → p0.toInt = 1 → UO f_images g_images 0 ∧ UOL f_namesKept g_namesKept 0 ∧ CPY g_images 335 f_s 0 335 ∧ CPL g_namesKept 18 f_names 0 18)) ∧ r = 1 ∧ u = [(h0, .inr (10, vL 67 Gh)), (h_s, .inl (cI, 335, .inl f_s)), (h_names, .inl (cJ, 36, .inr (.inl f_names))), (h_images, .inl (cI, 670, .inl g_images)), (h_namesKept, .inl (cJ, 36, .inr (.inl g_namesKept))), (h_areKept, .inl (cZ, 2, .inl g_areKept))])) (PO D A) A) [.ref h0, .int p0].toArray s 0 0 A) (F0 m 51 ls [])) ?_ (0, f_namesKept) ⟨(show 0 ≤ (0 : Int32).toInt ∧ (0 : Int32).toInt ≤ 18 by decide), (show UOL f_namesKept f_namesKept 0 from UOL.rf), (show CPL f_namesKept 18 f_names 0 (0) from (CPL.zero (by decide)))⟩ _ _ _ hP hD hS hl
      rintro ⟨u126, w127⟩ ⟨i128, i129, i130⟩ ih_51 H locs ls hP hD hS hl
      have i128 : 0 ≤ u126.toInt ∧ u126.toInt ≤ 18 := i128
      have i129 : UOL f_namesKept w127 0 := i129
      have i130 : CPL w127 18 f_names 0 (u126.toInt) := i130
      have hP : va_P D vwCl [(h0, .inr (10, vL 67 F1)), (h_s, .inl (cI, 335, .inl f_s)), (h_names, .inl (cJ, 36, .inr (.inl f_names))), (h_images, .inl (cI, 670, .inl w97)), (h_namesKept, .inl (cJ, 36, .inr (.inl w127))), (h_areKept, .inl (cZ, 2, .inl f_areKept))] H := hP
      have hD : va_D A [(h0, .inr (10, vL 67 F1)), (h_s, .inl (cI, 335, .inl f_s)), (h_names, .inl (cJ, 36, .inr (.inl f_names))), (h_images, .inl (cI, 670, .inl w97)), (h_namesKept, .inl (cJ, 36, .inr (.inl w127))), (h_areKept, .inl (cZ, 2, .inl f_areKept))] := hD
      have hl : lv_has ls 3 [(2, .int u126), (0, .ref h0), (1, .int 1)] := hl
      refine lv_iload_n hx hb dX10_image_51 rfl (lv_at hl 0 rfl) ?_
      refine lv_bipush (v := 18) hx hb dX10_image_52 (by decide) ?_
      refine lv_icmp_ge (tgt := 80) hx hb dX10_image_54 (by decide) (fun c131 => ?_) (fun c131 => ?_)
      · have dc131 : 18 ≤ u126.toInt := le_i (a := 18) (b := u126.toInt) rfl rfl c131
        have k132 : 18 ≤ u126.toInt ∧ u126.toInt ≤ 18 := ⟨Int.le_trans (Int.le_refl _) dc131, i128.2⟩
        refine lv_aload_n hx hb dX10_image_80 rfl (lv_at hl 1 rfl) ?_
        have n133 : F1 66 = .ref h_areKept := (get_ne eF1 (by decide) e_areKept)
        refine get_f (D := D) (ci := 10) (v := .ref h_areKept) (C := RX10) (T := TX10) (N := 67) hx hb hw inAX10 hown hK hP 0 rfl rfl 66 (by decide) (hw _ q_1327) (fun _ h9 => h9) n133 dX10_image_81 ?_
        refine lv_iload_n hx hb dX10_image_84 rfl (lv_at hl 2 rfl) ?_
        refine lv_iconst (v := 1) hx hb dX10_image_85 (by decide) ?_
        obtain ⟨g134, eg134⟩ : ∃ z : Nat → Int32, upd f_areKept 1 (vp_nar .boolean 1) = z := ⟨_, rfl⟩
        refine zast_n hx hb hK hP hD hS 5 5 rfl rfl 1 rfl (Nat.le_of_ble_eq_true rfl) (Nat.le_of_ble_eq_true rfl) eg134 dX10_image_86 (fun H locs hP hD hS => ?_)
        have hP : va_P D vwCl [(h0, .inr (10, vL 67 F1)), (h_s, .inl (cI, 335, .inl f_s)), (h_names, .inl (cJ, 36, .inr (.inl f_names))), (h_images, .inl (cI, 670, .inl w97)), (h_namesKept, .inl (cJ, 36, .inr (.inl w127))), (h_areKept, .inl (cZ, 2, .inl g134))] H := hP
        have hD : va_D A [(h0, .inr (10, vL 67 F1)), (h_s, .inl (cI, 335, .inl f_s)), (h_names, .inl (cJ, 36, .inr (.inl f_names))), (h_images, .inl (cI, 670, .inl w97)), (h_namesKept, .inl (cJ, 36, .inr (.inl w127))), (h_areKept, .inl (cZ, 2, .inl g134))] := hD
        refine lv_iconst (v := 1) hx hb dX10_image_87 (by decide) ?_
        exact ret_i (v := 1) hx hb hr hlocks hS hP hD dX10_image_88 rfl (Nat.le_of_ble_eq_true rfl) (Nat.le_of_ble_eq_true rfl) (Or.inr (Or.inr (Or.inr ⟨F1, w97, w127, g134, (SAME.up eF1 SAME.rf (by decide)), (get_eq eF1), i105, i100, i107, i108, i109, i106, i99, i101, i102, i103, i104, r121, r116, r123, r124, r125, r122, r115, r117, r118, r119, r120, t6, t7, dk95, ⟨fun _ q => absurd q (by omega), fun _ q => ⟨by rw [← eg134, pk_us]; rfl, by rw [← eg134, pk_un (by decide)]⟩⟩, ⟨fun _ q => absurd q (by omega), fun _ q => ⟨i110, i129, CPY.mn i111 (by omega), CPL.mn i130 (by omega)⟩⟩, rfl, rfl⟩)))
      · have dc131 : u126.toInt < 18 := nle_i (a := 18) (b := u126.toInt) rfl rfl c131
        have k135 : 0 ≤ u126.toInt ∧ u126.toInt ≤ 17 := ⟨i128.1, up_lt dc131 (Int.le_refl _) (by decide)⟩
        refine lv_aload_n hx hb dX10_image_57 rfl (lv_at hl 1 rfl) ?_
        have n136 : F1 65 = .ref h_namesKept := (get_ne eF1 (by decide) e_namesKept)
        refine get_f (D := D) (ci := 10) (v := .ref h_namesKept) (C := RX10) (T := TX10) (N := 67) hx hb hw inAX10 hown hK hP 0 rfl rfl 65 (by decide) (hw _ q_1326) (fun _ h9 => h9) n136 dX10_image_58 ?_
        refine lv_bipush (v := 18) hx hb dX10_image_61 (by decide) ?_
        refine lv_iload_n hx hb dX10_image_63 rfl (lv_at hl 2 rfl) ?_
        refine lv_imul hx hb dX10_image_64 ?_
        refine lv_ci (y := 18) (by decide +kernel) ?_
        refine lv_iload_n hx hb dX10_image_65 rfl (lv_at hl 0 rfl) ?_
        refine lv_iadd hx hb dX10_image_66 ?_
        refine lv_topi (fun v137 ev137 => ?_)
        have bv137 : v137.toInt = 18 + u126.toInt := by rw [ev137]; exact add_k rfl rfl ⟨Int.le_refl _, Int.le_refl _⟩ k135 (by decide)
        have k138 : 18 ≤ v137.toInt ∧ v137.toInt ≤ 35 := add_r bv137 ⟨Int.le_refl _, Int.le_refl _⟩ k135 (by decide)
        refine lv_aload_n hx hb dX10_image_67 rfl (lv_at hl 1 rfl) ?_
        have n139 : F1 9 = .ref h_names := (get_ne eF1 (by decide) e_names)
        refine get_f (D := D) (ci := 10) (v := .ref h_names) (C := RX10) (T := TX10) (N := 67) hx hb hw inAX10 hown hK hP 0 rfl rfl 9 (by decide) (hw _ q_1270) (fun _ h9 => h9) n139 dX10_image_68 ?_
        refine lv_iload_n hx hb dX10_image_71 rfl (lv_at hl 0 rfl) ?_
        refine va_lald hx hb hK hP 2 1 rfl rfl (ix_k k135 (by decide) (by decide)) dX10_image_72 ?_
        refine lv_topl (fun v140 ev140 => ?_)
        obtain ⟨g141, eg141⟩ : ∃ z : Nat → Int64, vp_updL w127 v137.toNatClampNeg v140 = z := ⟨_, rfl⟩
        refine last_g hx hb hK hP hD hS 4 1 rfl rfl (ix_k k138 (by decide) (by decide)) eg141 dX10_image_73 (fun H locs hP hD hS => ?_)
        have hP : va_P D vwCl [(h0, .inr (10, vL 67 F1)), (h_s, .inl (cI, 335, .inl f_s)), (h_names, .inl (cJ, 36, .inr (.inl f_names))), (h_images, .inl (cI, 670, .inl w97)), (h_namesKept, .inl (cJ, 36, .inr (.inl g141))), (h_areKept, .inl (cZ, 2, .inl f_areKept))] H := hP
        have hD : va_D A [(h0, .inr (10, vL 67 F1)), (h_s, .inl (cI, 335, .inl f_s)), (h_names, .inl (cJ, 36, .inr (.inl f_names))), (h_images, .inl (cI, 670, .inl w97)), (h_namesKept, .inl (cJ, 36, .inr (.inl g141))), (h_areKept, .inl (cZ, 2, .inl f_areKept))] := hD
        obtain ⟨v142, ev142⟩ : ∃ z : Int32, z = u126 + 1 := ⟨_, rfl⟩
        have bv142 : v142.toInt = u126.toInt + 1 := by rw [ev142]; exact add_k rfl rfl k135 ⟨Int.le_refl _, Int.le_refl _⟩ (by decide)
        have k143 : 1 ≤ v142.toInt ∧ v142.toInt ≤ 18 := add_r bv142 k135 ⟨Int.le_refl _, Int.le_refl _⟩ (by decide)
        refine lv_iinc (v := v142) (lv' := [(2, .int v142), (0, .ref h0), (1, .int 1)]) hx hb dX10_image_74 hl (k := 0) rfl (by rw [ev142]; rfl) (by decide) rfl (fun ls hl => ?_)
        refine lv_goto (tgt := 51) hx hb dX10_image_77 (by decide) ?_
        exact ih_51 (v142, g141) ⟨(ir_wk k143 (by decide) (by decide)), (show UOL f_namesKept g141 0 from (UOL.up i129 eg141 (by omega) (by omega))), (show CPL g141 18 f_names 0 (v142.toInt) from (CPL.step i130 eg141 ev140 (by omega) (by omega) (by omega)))⟩ (by show (18 - v142.toInt).toNat < (18 - u126.toInt).toNat; omega) _ _ _ hP hD hS (lv_sub hl [0, 1, 2] rfl)
    · have dc113 : u96.toInt < 335 := nle_i (a := 335) (b := u96.toInt) rfl rfl c113
      have k144 : 0 ≤ u96.toInt ∧ u96.toInt ≤ 334 := ⟨i98.1, up_lt dc113 (Int.le_refl _) (by decide)⟩
      refine lv_aload_n hx hb dX10_image_25 rfl (lv_at hl 1 rfl) ?_
      have n145 : F1 64 = .ref h_images := (get_ne eF1 (by decide) e_images)
      refine get_f (D := D) (ci := 10) (v := .ref h_images) (C := RX10) (T := TX10) (N := 67) hx hb hw inAX10 hown hK hP 0 rfl rfl 64 (by decide) (hw _ q_1325) (fun _ h9 => h9) n145 dX10_image_26 ?_
      refine lv_sipush (v := 335) hx hb dX10_image_29 (by decide) ?_
      refine lv_iload_n hx hb dX10_image_32 rfl (lv_at hl 2 rfl) ?_
      refine lv_imul hx hb dX10_image_33 ?_
      refine lv_ci (y := 335) (by decide +kernel) ?_
      refine lv_iload_n hx hb dX10_image_34 rfl (lv_at hl 0 rfl) ?_
      refine lv_iadd hx hb dX10_image_35 ?_
      refine lv_topi (fun v146 ev146 => ?_)
      have bv146 : v146.toInt = 335 + u96.toInt := by rw [ev146]; exact add_k rfl rfl ⟨Int.le_refl _, Int.le_refl _⟩ k144 (by decide)
      have k147 : 335 ≤ v146.toInt ∧ v146.toInt ≤ 669 := add_r bv146 ⟨Int.le_refl _, Int.le_refl _⟩ k144 (by decide)
      refine lv_aload_n hx hb dX10_image_36 rfl (lv_at hl 1 rfl) ?_
      have n148 : F1 6 = .ref h_s := (get_ne eF1 (by decide) e_s)
      refine get_f (D := D) (ci := 10) (v := .ref h_s) (C := RX10) (T := TX10) (N := 67) hx hb hw inAX10 hown hK hP 0 rfl rfl 6 (by decide) (hw _ q_1267) (fun _ h9 => h9) n148 dX10_image_37 ?_
      refine lv_iload_n hx hb dX10_image_40 rfl (lv_at hl 0 rfl) ?_
      refine va_iald hx hb hK hP 1 0 rfl rfl (ix_k k144 (by decide) (by decide)) dX10_image_41 ?_
      refine lv_topi (fun v149 ev149 => ?_)
      have r150 : IMP (0 ≤ u96.toInt → u96.toInt ≤ 0 → 0 ≤ v149.toInt ∧ v149.toInt ≤ 40) := IMP.mk (fun q1 q2 => by rw [ev149]; exact s_s_0.at _ q1 q2)
      have r151 : IMP (105 ≤ u96.toInt → u96.toInt ≤ 108 → 0 ≤ v149.toInt ∧ v149.toInt ≤ 11) := IMP.mk (fun q1 q2 => by rw [ev149]; exact s_s_105.at _ q1 q2)
      have r152 : IMP (114 ≤ u96.toInt → u96.toInt ≤ 114 → 0 ≤ v149.toInt ∧ v149.toInt ≤ 5) := IMP.mk (fun q1 q2 => by rw [ev149]; exact s_s_114.at _ q1 q2)
      have r153 : IMP (130 ≤ u96.toInt → u96.toInt ≤ 133 → 0 ≤ v149.toInt ∧ v149.toInt ≤ 11) := IMP.mk (fun q1 q2 => by rw [ev149]; exact s_s_130.at _ q1 q2)
      have r154 : IMP (139 ≤ u96.toInt → u96.toInt ≤ 139 → 0 ≤ v149.toInt ∧ v149.toInt ≤ 5) := IMP.mk (fun q1 q2 => by rw [ev149]; exact s_s_139.at _ q1 q2)
      have r155 : IMP (153 ≤ u96.toInt → u96.toInt ≤ 153 → 0 ≤ v149.toInt ∧ v149.toInt ≤ 44) := IMP.mk (fun q1 q2 => by rw [ev149]; exact s_s_153.at _ q1 q2)
      have r156 : IMP (44 ≤ u96.toInt → u96.toInt ≤ 55 → 0 ≤ v149.toInt ∧ v149.toInt ≤ 9) := IMP.mk (fun q1 q2 => by rw [ev149]; exact s_s_44.at _ q1 q2)
      have r157 : IMP (5 ≤ u96.toInt → u96.toInt ≤ 5 → 0 ≤ v149.toInt ∧ v149.toInt ≤ 12) := IMP.mk (fun q1 q2 => by rw [ev149]; exact s_s_5.at _ q1 q2)
      have r158 : IMP (6 ≤ u96.toInt → u96.toInt ≤ 6 → 0 ≤ v149.toInt ∧ v149.toInt ≤ 12) := IMP.mk (fun q1 q2 => by rw [ev149]; exact s_s_6.at _ q1 q2)
      have r159 : IMP (7 ≤ u96.toInt → u96.toInt ≤ 7 → 0 ≤ v149.toInt ∧ v149.toInt ≤ 6) := IMP.mk (fun q1 q2 => by rw [ev149]; exact s_s_7.at _ q1 q2)
      obtain ⟨g160, eg160⟩ : ∃ z : Nat → Int32, upd w97 v146.toNatClampNeg v149 = z := ⟨_, rfl⟩
      have r161 : KW 0 g160 := by rw [← eg160]; exact i99.up (by omega) (by omega)
      have r162 : SG 0 0 0 40 g160 := by rw [← eg160]; exact i100.up (Int.le_trans (by decide) k147.1) (Or.inr (Or.inl (dec_lt k147.1 (by decide))))
      have r163 : SG 105 108 0 11 g160 := by rw [← eg160]; exact i101.up (Int.le_trans (by decide) k147.1) (Or.inr (Or.inl (dec_lt k147.1 (by decide))))
      have r164 : SG 114 114 0 5 g160 := by rw [← eg160]; exact i102.up (Int.le_trans (by decide) k147.1) (Or.inr (Or.inl (dec_lt k147.1 (by decide))))
      have r165 : SG 130 133 0 11 g160 := by rw [← eg160]; exact i103.up (Int.le_trans (by decide) k147.1) (Or.inr (Or.inl (dec_lt k147.1 (by decide))))
      have r166 : SG 139 139 0 5 g160 := by rw [← eg160]; exact i104.up (Int.le_trans (by decide) k147.1) (Or.inr (Or.inl (dec_lt k147.1 (by decide))))
      have r167 : SG 153 153 0 44 g160 := by rw [← eg160]; exact i105.up (Int.le_trans (by decide) k147.1) (Or.inr (Or.inl (dec_lt k147.1 (by decide))))
      have r168 : SG 44 55 0 9 g160 := by rw [← eg160]; exact i106.up (Int.le_trans (by decide) k147.1) (Or.inr (Or.inl (dec_lt k147.1 (by decide))))
      have r169 : SG 5 5 0 12 g160 := by rw [← eg160]; exact i107.up (Int.le_trans (by decide) k147.1) (Or.inr (Or.inl (dec_lt k147.1 (by decide))))
      have r170 : SG 6 6 0 12 g160 := by rw [← eg160]; exact i108.up (Int.le_trans (by decide) k147.1) (Or.inr (Or.inl (dec_lt k147.1 (by decide))))
      have r171 : SG 7 7 0 6 g160 := by rw [← eg160]; exact i109.up (Int.le_trans (by decide) k147.1) (Or.inr (Or.inl (dec_lt k147.1 (by decide))))
      refine iast_g hx hb hK hP hD hS 3 0 rfl rfl (ix_k k147 (by decide) (by decide)) eg160 dX10_image_42 (fun H locs hP hD hS => ?_)
      have hP : va_P D vwCl [(h0, .inr (10, vL 67 F1)), (h_s, .inl (cI, 335, .inl f_s)), (h_names, .inl (cJ, 36, .inr (.inl f_names))), (h_images, .inl (cI, 670, .inl g160)), (h_namesKept, .inl (cJ, 36, .inr (.inl f_namesKept))), (h_areKept, .inl (cZ, 2, .inl f_areKept))] H := hP
      have hD : va_D A [(h0, .inr (10, vL 67 F1)), (h_s, .inl (cI, 335, .inl f_s)), (h_names, .inl (cJ, 36, .inr (.inl f_names))), (h_images, .inl (cI, 670, .inl g160)), (h_namesKept, .inl (cJ, 36, .inr (.inl f_namesKept))), (h_areKept, .inl (cZ, 2, .inl f_areKept))] := hD
      obtain ⟨v172, ev172⟩ : ∃ z : Int32, z = u96 + 1 := ⟨_, rfl⟩
      have bv172 : v172.toInt = u96.toInt + 1 := by rw [ev172]; exact add_k rfl rfl k144 ⟨Int.le_refl _, Int.le_refl _⟩ (by decide)
      have k173 : 1 ≤ v172.toInt ∧ v172.toInt ≤ 335 := add_r bv172 k144 ⟨Int.le_refl _, Int.le_refl _⟩ (by decide)
      refine lv_iinc (v := v172) (lv' := [(2, .int v172), (0, .ref h0), (1, .int 1)]) hx hb dX10_image_43 hl (k := 0) rfl (by rw [ev172]; rfl) (by decide) rfl (fun ls hl => ?_)
      refine lv_goto (tgt := 18) hx hb dX10_image_46 (by decide) ?_
      exact ih (v172, g160) ⟨(ir_wk k173 (by decide) (by decide)), r161, r162, r163, r164, r165, r166, r167, r168, r169, r170, r171, (show UO f_images g160 0 from (UO.up i110 eg160 (by omega) (by omega))), (show CPY g160 335 f_s 0 (v172.toInt) from (CPY.step i111 eg160 ev149 (by omega) (by omega) (by omega))), (CPY.step i112 eg160 ev149 (by omega) (by omega) (by omega))⟩ (by show (335 - v172.toInt).toNat < (335 - u96.toInt).toNat; omega) _ _ _ hP hD hS (lv_sub hl [0, 1, 2] rfl)
set_option maxHeartbeats 4000000 in
set_option maxRecDepth 100000 in
theorem m_X10_restore (l : Launch) (D : va_G) (cI cJ cB cP cM cZ : ClassId) (h0 : Nat) (h_s : Nat) (h_names : Nat) (h_images : Nat) (h_namesKept : Nat) (h_areKept : Nat) (Fh : Nat → Value) (f_s : Nat → Int32) (f_names : Nat → Int64) (f_images : Nat → Int32) (f_namesKept : Nat → Int64) (f_areKept : Nat → Int32) (p0 : Int32) (bs : Nat → Int32) (sz : Nat) (e_s : Fh 6 = .ref h_s) (e_names : Fh 9 = .ref h_names) (e_images : Fh 64 = .ref h_images) (e_namesKept : Fh 65 = .ref h_namesKept) (e_areKept : Fh 66 = .ref h_areKept) (s_s_K0 : KW 0 f_s) (s_s_US : US bs f_s) (s_s_0 : SG 0 0 0 40 f_s) (s_s_105 : SG 105 108 0 11 f_s) (s_s_114 : SG 114 114 0 5 f_s) (s_s_130 : SG 130 133 0 11 f_s) (s_s_139 : SG 139 139 0 5 f_s) (s_s_153 : SG 153 153 0 44 f_s) (s_s_44 : SG 44 55 0 9 f_s) (s_s_5 : SG 5 5 0 12 f_s) (s_s_6 : SG 6 6 0 12 f_s) (s_s_7 : SG 7 7 0 6 f_s) (s_images_K0 : KW 0 f_images) (s_images_K335 : KW 335 f_images) (s_images_0 : SG 0 0 0 40 f_images) (s_images_105 : SG 105 108 0 11 f_images) (s_images_114 : SG 114 114 0 5 f_images) (s_images_130 : SG 130 133 0 11 f_images) (s_images_139 : SG 139 139 0 5 f_images) (s_images_153 : SG 153 153 0 44 f_images) (s_images_335 : SG 335 335 0 40 f_images) (s_images_340 : SG 340 340 0 12 f_images) (s_images_341 : SG 341 341 0 12 f_images) (s_images_342 : SG 342 342 0 6 f_images) (s_images_379 : SG 379 390 0 9 f_images) (s_images_44 : SG 44 55 0 9 f_images) (s_images_440 : SG 440 443 0 11 f_images) (s_images_449 : SG 449 449 0 5 f_images) (s_images_465 : SG 465 468 0 11 f_images) (s_images_474 : SG 474 474 0 5 f_images) (s_images_488 : SG 488 488 0 44 f_images) (s_images_5 : SG 5 5 0 12 f_images) (s_images_6 : SG 6 6 0 12 f_images) (s_images_7 : SG 7 7 0 6 f_images) : CI l yX10_restore cX10_restore 3 (some .boolean) { frames := 1, cells := 0, slots := 0, locals := 22 } (GG D cI cJ cB cP cM cZ) D [(h0, .inr (10, vL 67 Fh)), (h_s, .inl (cI, 335, .inl f_s)), (h_names, .inl (cJ, 36, .inr (.inl f_names))), (h_images, .inl (cI, 670, .inl f_images)), (h_namesKept, .inl (cJ, 36, .inr (.inl f_namesKept))), (h_areKept, .inl (cZ, 2, .inl f_areKept))] sz [.ref h0, .int p0] (fun (r : Int32) (u : va_W) => (∃ (Gh : Nat → Value), SAME [0] Fh Gh ∧ Gh 0 = .int 0 ∧ ((0 ≤ p0.toInt → p0.toInt ≤ 1 → (r.toInt = 1 ↔ (f_areKept p0.toNatClampNeg).toInt ≠ 0)) ∧ (p0.toInt < 0 ∨ 1 < p0.toInt → r.toInt = 0)) ∧ r = 0 ∧ u = [(h0, .inr (10, vL 67 Gh)), (h_s, .inl (cI, 335, .inl f_s)), (h_names, .inl (cJ, 36, .inr (.inl f_names))), (h_images, .inl (cI, 670, .inl f_images)), (h_namesKept, .inl (cJ, 36, .inr (.inl f_namesKept))), (h_areKept, .inl (cZ, 2, .inl f_areKept))]) ∨ (∃ (Gh : Nat → Value) (g_s : Nat → Int32) (g_names : Nat → Int64), SAME [0, 41] Fh Gh ∧ Gh 0 = .int 0 ∧ Gh 41 = .int 0 ∧ SG 153 153 0 44 g_s ∧ SG 0 0 0 40 g_s ∧ SG 5 5 0 12 g_s ∧ SG 6 6 0 12 g_s ∧ SG 7 7 0 6 g_s ∧ SG 44 55 0 9 g_s ∧ KW 0 g_s ∧ SG 105 108 0 11 g_s ∧ SG 114 114 0 5 g_s ∧ SG 130 133 0 11 g_s ∧ SG 139 139 0 5 g_s ∧ ((0 ≤ p0.toInt → p0.toInt ≤ 1 → (r.toInt = 1 ↔ (f_areKept p0.toNatClampNeg).toInt ≠ 0)) ∧ (p0.toInt < 0 ∨ 1 < p0.toInt → r.toInt = 0)) ∧ ((p0.toInt = 0 → CPY g_s 0 f_images 0 335 ∧ CPL g_names 0 f_namesKept 0 18) ∧ (p0.toInt = 1 → CPY g_s 0 f_images 335 335 ∧ CPL g_names 0 f_namesKept 18 18)) ∧ r = 1 ∧ u = [(h0, .inr (10, vL 67 Gh)), (h_s, .inl (cI, 335, .inl g_s)), (h_names, .inl (cJ, 36, .inr (.inl g_names))), (h_images, .inl (cI, 670, .inl f_images)), (h_namesKept, .inl (cJ, 36, .inr (.inl f_namesKept))), (h_areKept, .inl (cZ, 2, .inl f_areKept))])) := by
  refine CI_mk (by decide) (Nat.le_of_ble_eq_true rfl) ?_
  intro p e s m below meth c A ls E hAe hG hsz hP hD hA hS hl
  obtain ⟨hx, hb, hr, hw, hown, hlocks, hml, hnm⟩ := E
  have hK := hG.1
  have hl : lv_has ls 3 [(0, .ref h0), (1, .int p0)] := hl
  refine lv_aload_n hx hb dX10_restore_0 rfl (lv_at hl 0 rfl) ?_
  refine lv_iconst (v := 0) hx hb dX10_restore_1 (by decide) ?_
  refine put_f (D := D) (ci := 10) (v := .int 0) (ty := .int) (C := RX10) (T := TX10) (N := 67) hx hb hw inAX10 tyX10 tyX10_ok nmX10 hown hK hP hD hS 0 rfl rfl 0 (by decide) (hw _ q_1261) (fun _ h9 => h9) rfl (by decide +kernel) rfl rfl dX10_restore_2 (fun H locs F1 eF1 hP hD hS => ?_)
  have hP : va_P D vwCl [(h0, .inr (10, vL 67 F1)), (h_s, .inl (cI, 335, .inl f_s)), (h_names, .inl (cJ, 36, .inr (.inl f_names))), (h_images, .inl (cI, 670, .inl f_images)), (h_namesKept, .inl (cJ, 36, .inr (.inl f_namesKept))), (h_areKept, .inl (cZ, 2, .inl f_areKept))] H := hP
  have hD : va_D A [(h0, .inr (10, vL 67 F1)), (h_s, .inl (cI, 335, .inl f_s)), (h_names, .inl (cJ, 36, .inr (.inl f_names))), (h_images, .inl (cI, 670, .inl f_images)), (h_namesKept, .inl (cJ, 36, .inr (.inl f_namesKept))), (h_areKept, .inl (cZ, 2, .inl f_areKept))] := hD
  refine lv_iload_n hx hb dX10_restore_5 rfl (lv_at hl 1 rfl) ?_
  refine lv_iconst (v := 0) hx hb dX10_restore_6 (by decide) ?_
  refine lv_iconst (v := 1) hx hb dX10_restore_7 (by decide) ?_
  refine call_Si (wr := [(h0, .inr (10, vL 67 F1)), (h_s, .inl (cI, 335, .inl f_s)), (h_names, .inl (cJ, 36, .inr (.inl f_names))), (h_images, .inl (cI, 670, .inl f_images)), (h_namesKept, .inl (cJ, 36, .inr (.inl f_namesKept))), (h_areKept, .inl (cZ, 2, .inl f_areKept))]) (As := [.int p0, .int 0, .int 1]) (rest := []) hx hb hml hown hw (m_X10_isIn l D cI cJ cB cP cM cZ p0 0 1 _ ) wS_X10_211_X10_isIn dX10_restore_8 hP hD hS hA [] [0, 1, 2, 3, 4, 5] rfl rfl (by decide) (by decide) (by decide) GG.fb hG.at hl.1 rfl (Nat.le_of_ble_eq_true rfl) ⟨(Nat.le_of_ble_eq_true rfl), (Nat.le_of_ble_eq_true rfl)⟩ ⟨(Nat.le_of_ble_eq_true rfl), (Nat.le_of_ble_eq_true rfl)⟩ (fun r2 u H locs hp hP hD hS => ?_)
  have zl0 : (0 : Int32).toInt = 0 := by decide
  have zl1 : (1 : Int32).toInt = 1 := by decide
  rcases hp with ⟨t3, rfl, rfl⟩ | ⟨t4, t5, rfl, rfl⟩ | ⟨t6, t7, rfl, rfl⟩
  · have hP : va_P D vwCl [(h0, .inr (10, vL 67 F1)), (h_s, .inl (cI, 335, .inl f_s)), (h_names, .inl (cJ, 36, .inr (.inl f_names))), (h_images, .inl (cI, 670, .inl f_images)), (h_namesKept, .inl (cJ, 36, .inr (.inl f_namesKept))), (h_areKept, .inl (cZ, 2, .inl f_areKept))] H := hP
    have hD : va_D A [(h0, .inr (10, vL 67 F1)), (h_s, .inl (cI, 335, .inl f_s)), (h_names, .inl (cJ, 36, .inr (.inl f_names))), (h_images, .inl (cI, 670, .inl f_images)), (h_namesKept, .inl (cJ, 36, .inr (.inl f_namesKept))), (h_areKept, .inl (cZ, 2, .inl f_areKept))] := hD
    refine W.widen (k := 0) (n := 0) (Nat.le_of_ble_eq_true rfl) (Nat.le_of_ble_eq_true rfl) ?_
    have k9 : (-2147483648) ≤ p0.toInt ∧ p0.toInt ≤ (-1) := ⟨(ir_any _).1, up_lt t3 (Int.le_refl _) (by decide)⟩
    refine lv_if_eq (tgt := 23) hx hb dX10_restore_11 (by decide) (fun _ => ?_) (fun g => absurd (by decide) g)
    refine lv_iconst (v := 0) hx hb dX10_restore_23 (by decide) ?_
    exact ret_i (v := 0) hx hb hr hlocks hS hP hD dX10_restore_24 rfl (Nat.le_of_ble_eq_true rfl) (Nat.le_of_ble_eq_true rfl) (Or.inl ⟨F1, (SAME.up eF1 SAME.rf (by decide)), (get_eq eF1), (by have zl0 : (0 : Int32).toInt = 0 := (by decide); omega), rfl, rfl⟩)
  · have hP : va_P D vwCl [(h0, .inr (10, vL 67 F1)), (h_s, .inl (cI, 335, .inl f_s)), (h_names, .inl (cJ, 36, .inr (.inl f_names))), (h_images, .inl (cI, 670, .inl f_images)), (h_namesKept, .inl (cJ, 36, .inr (.inl f_namesKept))), (h_areKept, .inl (cZ, 2, .inl f_areKept))] H := hP
    have hD : va_D A [(h0, .inr (10, vL 67 F1)), (h_s, .inl (cI, 335, .inl f_s)), (h_names, .inl (cJ, 36, .inr (.inl f_names))), (h_images, .inl (cI, 670, .inl f_images)), (h_namesKept, .inl (cJ, 36, .inr (.inl f_namesKept))), (h_areKept, .inl (cZ, 2, .inl f_areKept))] := hD
    refine W.widen (k := 0) (n := 0) (Nat.le_of_ble_eq_true rfl) (Nat.le_of_ble_eq_true rfl) ?_
    have k10 : 0 ≤ p0.toInt ∧ p0.toInt ≤ 2147483647 := ⟨Int.le_trans (Int.le_refl _) t4, (ir_any _).2⟩
    have k11 : 2 ≤ p0.toInt ∧ p0.toInt ≤ 2147483647 := ⟨lo_lt t5 (Int.le_refl _) (by decide), k10.2⟩
    refine lv_if_eq (tgt := 23) hx hb dX10_restore_11 (by decide) (fun _ => ?_) (fun g => absurd (by decide) g)
    refine lv_iconst (v := 0) hx hb dX10_restore_23 (by decide) ?_
    exact ret_i (v := 0) hx hb hr hlocks hS hP hD dX10_restore_24 rfl (Nat.le_of_ble_eq_true rfl) (Nat.le_of_ble_eq_true rfl) (Or.inl ⟨F1, (SAME.up eF1 SAME.rf (by decide)), (get_eq eF1), (by have zl0 : (0 : Int32).toInt = 0 := (by decide); omega), rfl, rfl⟩)
  · have hP : va_P D vwCl [(h0, .inr (10, vL 67 F1)), (h_s, .inl (cI, 335, .inl f_s)), (h_names, .inl (cJ, 36, .inr (.inl f_names))), (h_images, .inl (cI, 670, .inl f_images)), (h_namesKept, .inl (cJ, 36, .inr (.inl f_namesKept))), (h_areKept, .inl (cZ, 2, .inl f_areKept))] H := hP
    have hD : va_D A [(h0, .inr (10, vL 67 F1)), (h_s, .inl (cI, 335, .inl f_s)), (h_names, .inl (cJ, 36, .inr (.inl f_names))), (h_images, .inl (cI, 670, .inl f_images)), (h_namesKept, .inl (cJ, 36, .inr (.inl f_namesKept))), (h_areKept, .inl (cZ, 2, .inl f_areKept))] := hD
    refine W.widen (k := 0) (n := 0) (Nat.le_of_ble_eq_true rfl) (Nat.le_of_ble_eq_true rfl) ?_
    have k12 : 0 ≤ p0.toInt ∧ p0.toInt ≤ 2147483647 := ⟨Int.le_trans (Int.le_refl _) t6, (ir_any _).2⟩
    have k13 : 0 ≤ p0.toInt ∧ p0.toInt ≤ 1 := ⟨k12.1, Int.le_trans t7 (Int.le_refl _)⟩
    refine lv_if_eq (tgt := 23) hx hb dX10_restore_11 (by decide) (fun g => absurd g (by decide)) (fun _ => ?_)
    refine lv_aload_n hx hb dX10_restore_14 rfl (lv_at hl 0 rfl) ?_
    have n14 : F1 66 = .ref h_areKept := (get_ne eF1 (by decide) e_areKept)
    refine get_f (D := D) (ci := 10) (v := .ref h_areKept) (C := RX10) (T := TX10) (N := 67) hx hb hw inAX10 hown hK hP 0 rfl rfl 66 (by decide) (hw _ q_1327) (fun _ h9 => h9) n14 dX10_restore_15 ?_
    refine lv_iload_n hx hb dX10_restore_18 rfl (lv_at hl 1 rfl) ?_
    refine va_zald hx hb hK hP 5 5 rfl rfl (ix_k k13 (by decide) (by decide)) dX10_restore_19 ?_
    refine lv_topi (fun v15 ev15 => ?_)
    refine lv_if_ne (tgt := 25) hx hb dX10_restore_20 (by decide) (fun c16 => ?_) (fun c16 => ?_)
    · have dc16 : v15.toInt ≠ 0 := ne_i (a := v15.toInt) (b := 0) rfl rfl c16
      by_cases k17 : p0 = 0
      · have dk17 : p0.toInt = 0 := eq_i rfl rfl k17
        have k18 : 0 ≤ p0.toInt ∧ p0.toInt ≤ 0 := ⟨k13.1, Int.le_trans (Int.le_of_eq dk17) (Int.le_refl _)⟩
        have hl : lv_has ls 3 [(0, .ref h0), (1, .int 0)] := by have q := hl; rw [k17] at q; exact q
        refine lv_iconst (v := 0) hx hb dX10_restore_25 (by decide) ?_
        refine lv_istore_n (lv' := [(2, .int 0), (0, .ref h0), (1, .int 0)]) hx hb dX10_restore_26 rfl hl (by decide) rfl (fun ls hl => ?_)
        refine mloop (α := (Int32) × (Nat → Int32)) (nL := 3) (D := D) (A := A) (H0 := s.heap) (fun a => (335 - a.1.toInt).toNat) (fun a => IR 0 335 a.1 ∧ (CPY a.2 0 f_images 0 (a.1.toInt)) ∧ (CPY a.2 0 f_images 0 (a.1.toInt))) (fun a => [(h0, .inr (10, vL 67 F1)), (h_s, .inl (cI, 335, .inl a.2)), (h_names, .inl (cJ, 36, .inr (.inl f_names))), (h_images, .inl (cI, 670, .inl f_images)), (h_namesKept, .inl (cJ, 36, .inr (.inl f_namesKept))), (h_areKept, .inl (cZ, 2, .inl f_areKept))]) (fun a => [(2, .int a.1), (0, .ref h0), (1, .int 0)]) (fun H locs ls => W p l e ({ frames := 1, cells := 0, slots := 0, locals := 22 } : Room) s m [.ref h0, .int p0].toArray below meth c H locs 0 0 (MQ below (va_Qi (fun (r : Int32) (u : va_W) => (∃ (Gh : Nat → Value), SAME [0] Fh Gh ∧ Gh 0 = .int 0 ∧ ((0 ≤ p0.toInt → p0.toInt ≤ 1 → (r.toInt = 1 ↔ (f_areKept p0.toNatClampNeg).toInt ≠ 0)) ∧ (p0.toInt < 0 ∨ 1 < p0.toInt → r.toInt = 0)) ∧ r = 0 ∧ u = [(h0, .inr (10, vL 67 Gh)), (h_s, .inl (cI, 335, .inl f_s)), (h_names, .inl (cJ, 36, .inr (.inl f_names))), (h_images, .inl (cI, 670, .inl f_images)), (h_namesKept, .inl (cJ, 36, .inr (.inl f_namesKept))), (h_areKept, .inl (cZ, 2, .inl f_areKept))]) ∨ (∃ (Gh : Nat → Value) (g_s : Nat → Int32) (g_names : Nat → Int64), SAME [0, 41] Fh Gh ∧ Gh 0 = .int 0 ∧ Gh 41 = .int 0 ∧ SG 153 153 0 44 g_s ∧ SG 0 0 0 40 g_s ∧ SG 5 5 0 12 g_s ∧ SG 6 6 0 12 g_s ∧ SG 7 7 0 6 g_s ∧ SG 44 55 0 9 g_s ∧ KW 0 g_s ∧ SG 105 108 0 11 g_s ∧ SG 114 114 0 5 g_s ∧ SG 130 133 0 11 g_s ∧ SG 139 139 0 5 g_s ∧ ((0 ≤ p0.toInt → p0.toInt ≤ 1 → (r.toInt = 1 ↔ (f_areKept p0.toNatClampNeg).toInt ≠ 0)) ∧ (p0.toInt < 0 ∨ 1 < p0.toInt → r.toInt = 0)) ∧ ((p0.toInt = 0 → CPY g_s 0 f_images 0 335 ∧ CPL g_names 0 f_namesKept 0 18) ∧ (p0.toInt = 1 → CPY g_s 0 f_images 335 335 ∧ CPL g_names 0 f_namesKept 18 18)) ∧ r = 1 ∧ u = [(h0, .inr (10, vL 67 Gh)), (h_s, .inl (cI, 335, .inl g_s)), (h_names, .inl (cJ, 36, .inr (.inl g_names))), (h_images, .inl (cI, 670, .inl f_images)), (h_namesKept, .inl (cJ, 36, .inr (.inl f_namesKept))), (h_areKept, .inl (cZ, 2, .inl f_areKept))])) (PO D A) A) [.ref h0, .int p0].toArray s 0 0 A) (F0 m 27 ls [])) ?_ (0, f_s) ⟨(show 0 ≤ (0 : Int32).toInt ∧ (0 : Int32).toInt ≤ 335 by decide), (show CPY f_s 0 f_images 0 (0) from (CPY.zero (by decide))), (show CPY f_s 0 f_images 0 (0) from (CPY.zero (by decide)))⟩ _ _ _ hP hD hS hl
        rintro ⟨u19, w20⟩ ⟨i21, i22, i23⟩ ih H locs ls hP hD hS hl
        have i21 : 0 ≤ u19.toInt ∧ u19.toInt ≤ 335 := i21
        have i22 : CPY w20 0 f_images 0 (u19.toInt) := i22
        have i23 : CPY w20 0 f_images 0 (u19.toInt) := i23
        have hP : va_P D vwCl [(h0, .inr (10, vL 67 F1)), (h_s, .inl (cI, 335, .inl w20)), (h_names, .inl (cJ, 36, .inr (.inl f_names))), (h_images, .inl (cI, 670, .inl f_images)), (h_namesKept, .inl (cJ, 36, .inr (.inl f_namesKept))), (h_areKept, .inl (cZ, 2, .inl f_areKept))] H := hP
        have hD : va_D A [(h0, .inr (10, vL 67 F1)), (h_s, .inl (cI, 335, .inl w20)), (h_names, .inl (cJ, 36, .inr (.inl f_names))), (h_images, .inl (cI, 670, .inl f_images)), (h_namesKept, .inl (cJ, 36, .inr (.inl f_namesKept))), (h_areKept, .inl (cZ, 2, .inl f_areKept))] := hD
        have hl : lv_has ls 3 [(2, .int u19), (0, .ref h0), (1, .int 0)] := hl
        refine lv_iload_n hx hb dX10_restore_27 rfl (lv_at hl 0 rfl) ?_
        refine lv_sipush (v := 335) hx hb dX10_restore_28 (by decide) ?_
        refine lv_icmp_ge (tgt := 58) hx hb dX10_restore_31 (by decide) (fun c24 => ?_) (fun c24 => ?_)
        · have dc24 : 335 ≤ u19.toInt := le_i (a := 335) (b := u19.toInt) rfl rfl c24
          have k25 : 335 ≤ u19.toInt ∧ u19.toInt ≤ 335 := ⟨Int.le_trans (Int.le_refl _) dc24, i21.2⟩
          have r26 : KW 0 w20 := KW.cpy i23 s_images_K0 (by omega) (by decide)
          have r28 : SG 0 0 0 40 w20 := SG.cpy i23 s_images_0 (by decide) (by decide) (by decide) (by omega)
          have r29 : SG 105 108 0 11 w20 := SG.cpy i23 s_images_105 (by decide) (by decide) (by decide) (by omega)
          have r30 : SG 114 114 0 5 w20 := SG.cpy i23 s_images_114 (by decide) (by decide) (by decide) (by omega)
          have r31 : SG 130 133 0 11 w20 := SG.cpy i23 s_images_130 (by decide) (by decide) (by decide) (by omega)
          have r32 : SG 139 139 0 5 w20 := SG.cpy i23 s_images_139 (by decide) (by decide) (by decide) (by omega)
          have r33 : SG 153 153 0 44 w20 := SG.cpy i23 s_images_153 (by decide) (by decide) (by decide) (by omega)
          have r39 : SG 44 55 0 9 w20 := SG.cpy i23 s_images_44 (by decide) (by decide) (by decide) (by omega)
          have r45 : SG 5 5 0 12 w20 := SG.cpy i23 s_images_5 (by decide) (by decide) (by decide) (by omega)
          have r46 : SG 6 6 0 12 w20 := SG.cpy i23 s_images_6 (by decide) (by decide) (by decide) (by omega)
          have r47 : SG 7 7 0 6 w20 := SG.cpy i23 s_images_7 (by decide) (by decide) (by decide) (by omega)
          refine lv_iconst (v := 0) hx hb dX10_restore_58 (by decide) ?_
          refine lv_istore_n (lv' := [(2, .int 0), (0, .ref h0), (1, .int 0)]) hx hb dX10_restore_59 rfl hl (by decide) rfl (fun ls hl => ?_)
          refine mloop (α := (Int32) × (Nat → Int64)) (nL := 3) (D := D) (A := A) (H0 := s.heap) (fun a => (18 - a.1.toInt).toNat) (fun a => IR 0 18 a.1 ∧ (CPL a.2 0 f_namesKept 0 (a.1.toInt))) (fun a => [(h0, .inr (10, vL 67 F1)), (h_s, .inl (cI, 335, .inl w20)), (h_names, .inl (cJ, 36, .inr (.inl a.2))), (h_images, .inl (cI, 670, .inl f_images)), (h_namesKept, .inl (cJ, 36, .inr (.inl f_namesKept))), (h_areKept, .inl (cZ, 2, .inl f_areKept))]) (fun a => [(2, .int a.1), (0, .ref h0), (1, .int 0)]) (fun H locs ls => W p l e ({ frames := 1, cells := 0, slots := 0, locals := 22 } : Room) s m [.ref h0, .int p0].toArray below meth c H locs 0 0 (MQ below (va_Qi (fun (r : Int32) (u : va_W) => (∃ (Gh : Nat → Value), SAME [0] Fh Gh ∧ Gh 0 = .int 0 ∧ ((0 ≤ p0.toInt → p0.toInt ≤ 1 → (r.toInt = 1 ↔ (f_areKept p0.toNatClampNeg).toInt ≠ 0)) ∧ (p0.toInt < 0 ∨ 1 < p0.toInt → r.toInt = 0)) ∧ r = 0 ∧ u = [(h0, .inr (10, vL 67 Gh)), (h_s, .inl (cI, 335, .inl f_s)), (h_names, .inl (cJ, 36, .inr (.inl f_names))), (h_images, .inl (cI, 670, .inl f_images)), (h_namesKept, .inl (cJ, 36, .inr (.inl f_namesKept))), (h_areKept, .inl (cZ, 2, .inl f_areKept))]) ∨ (∃ (Gh : Nat → Value) (g_s : Nat → Int32) (g_names : Nat → Int64), SAME [0, 41] Fh Gh ∧ Gh 0 = .int 0 ∧ Gh 41 = .int 0 ∧ SG 153 153 0 44 g_s ∧ SG 0 0 0 40 g_s ∧ SG 5 5 0 12 g_s ∧ SG 6 6 0 12 g_s ∧ SG 7 7 0 6 g_s ∧ SG 44 55 0 9 g_s ∧ KW 0 g_s ∧ SG 105 108 0 11 g_s ∧ SG 114 114 0 5 g_s ∧ SG 130 133 0 11 g_s ∧ SG 139 139 0 5 g_s ∧ ((0 ≤ p0.toInt → p0.toInt ≤ 1 → (r.toInt = 1 ↔ (f_areKept p0.toNatClampNeg).toInt ≠ 0)) ∧ (p0.toInt < 0 ∨ 1 < p0.toInt → r.toInt = 0)) ∧ ((p0.toInt = 0 → CPY g_s 0 f_images 0 335 ∧ CPL g_names 0 f_namesKept 0 18) ∧ (p0.toInt = 1 → CPY g_s 0 f_images 335 335 ∧ CPL g_names 0 f_namesKept 18 18)) ∧ r = 1 ∧ u = [(h0, .inr (10, vL 67 Gh)), (h_s, .inl (cI, 335, .inl g_s)), (h_names, .inl (cJ, 36, .inr (.inl g_names))), (h_images, .inl (cI, 670, .inl f_images)), (h_namesKept, .inl (cJ, 36, .inr (.inl f_namesKept))), (h_areKept, .inl (cZ, 2, .inl f_areKept))])) (PO D A) A) [.ref h0, .int p0].toArray s 0 0 A) (F0 m 60 ls [])) ?_ (0, f_names) ⟨(show 0 ≤ (0 : Int32).toInt ∧ (0 : Int32).toInt ≤ 18 by decide), (show CPL f_names 0 f_namesKept 0 (0) from (CPL.zero (by decide)))⟩ _ _ _ hP hD hS hl
          rintro ⟨u48, w49⟩ ⟨i50, i51⟩ ih_60 H locs ls hP hD hS hl
          have i50 : 0 ≤ u48.toInt ∧ u48.toInt ≤ 18 := i50
          have i51 : CPL w49 0 f_namesKept 0 (u48.toInt) := i51
          have hP : va_P D vwCl [(h0, .inr (10, vL 67 F1)), (h_s, .inl (cI, 335, .inl w20)), (h_names, .inl (cJ, 36, .inr (.inl w49))), (h_images, .inl (cI, 670, .inl f_images)), (h_namesKept, .inl (cJ, 36, .inr (.inl f_namesKept))), (h_areKept, .inl (cZ, 2, .inl f_areKept))] H := hP
          have hD : va_D A [(h0, .inr (10, vL 67 F1)), (h_s, .inl (cI, 335, .inl w20)), (h_names, .inl (cJ, 36, .inr (.inl w49))), (h_images, .inl (cI, 670, .inl f_images)), (h_namesKept, .inl (cJ, 36, .inr (.inl f_namesKept))), (h_areKept, .inl (cZ, 2, .inl f_areKept))] := hD
          have hl : lv_has ls 3 [(2, .int u48), (0, .ref h0), (1, .int 0)] := hl
          refine lv_iload_n hx hb dX10_restore_60 rfl (lv_at hl 0 rfl) ?_
          refine lv_bipush (v := 18) hx hb dX10_restore_61 (by decide) ?_
          refine lv_icmp_ge (tgt := 89) hx hb dX10_restore_63 (by decide) (fun c52 => ?_) (fun c52 => ?_)
          · have dc52 : 18 ≤ u48.toInt := le_i (a := 18) (b := u48.toInt) rfl rfl c52
            have k53 : 18 ≤ u48.toInt ∧ u48.toInt ≤ 18 := ⟨Int.le_trans (Int.le_refl _) dc52, i50.2⟩
            refine lv_aload_n hx hb dX10_restore_89 rfl (lv_at hl 1 rfl) ?_
            refine lv_iconst (v := 0) hx hb dX10_restore_90 (by decide) ?_
            refine put_f (D := D) (ci := 10) (v := .int 0) (ty := .int) (C := RX10) (T := TX10) (N := 67) hx hb hw inAX10 tyX10 tyX10_ok nmX10 hown hK hP hD hS 0 rfl rfl 41 (by decide) (hw _ q_1302) (fun _ h9 => h9) rfl (by decide +kernel) rfl rfl dX10_restore_91 (fun H locs F54 eF54 hP hD hS => ?_)
            have hP : va_P D vwCl [(h0, .inr (10, vL 67 F54)), (h_s, .inl (cI, 335, .inl w20)), (h_names, .inl (cJ, 36, .inr (.inl w49))), (h_images, .inl (cI, 670, .inl f_images)), (h_namesKept, .inl (cJ, 36, .inr (.inl f_namesKept))), (h_areKept, .inl (cZ, 2, .inl f_areKept))] H := hP
            have hD : va_D A [(h0, .inr (10, vL 67 F54)), (h_s, .inl (cI, 335, .inl w20)), (h_names, .inl (cJ, 36, .inr (.inl w49))), (h_images, .inl (cI, 670, .inl f_images)), (h_namesKept, .inl (cJ, 36, .inr (.inl f_namesKept))), (h_areKept, .inl (cZ, 2, .inl f_areKept))] := hD
            refine lv_iconst (v := 1) hx hb dX10_restore_94 (by decide) ?_
            exact ret_i (v := 1) hx hb hr hlocks hS hP hD dX10_restore_95 rfl (Nat.le_of_ble_eq_true rfl) (Nat.le_of_ble_eq_true rfl) (Or.inr ⟨F54, w20, w49, (SAME.up eF54 (SAME.up eF1 SAME.rf (by decide)) (by decide)), (get_ne eF54 (by decide) (get_eq eF1)), (get_eq eF54), r33, r28, r45, r46, r47, r39, r26, r29, r30, r31, r32, (by have hkv15 := congrArg Int32.toInt ev15; have zl1 : (1 : Int32).toInt = 1 := (by decide); omega), ⟨fun q => ⟨CPY.mn i22 (by omega), CPL.mn i51 (by omega)⟩, fun q => absurd q (by omega)⟩, rfl, rfl⟩)
          · have dc52 : u48.toInt < 18 := nle_i (a := 18) (b := u48.toInt) rfl rfl c52
            have k55 : 0 ≤ u48.toInt ∧ u48.toInt ≤ 17 := ⟨i50.1, up_lt dc52 (Int.le_refl _) (by decide)⟩
            refine lv_aload_n hx hb dX10_restore_66 rfl (lv_at hl 1 rfl) ?_
            have n56 : F1 9 = .ref h_names := (get_ne eF1 (by decide) e_names)
            refine get_f (D := D) (ci := 10) (v := .ref h_names) (C := RX10) (T := TX10) (N := 67) hx hb hw inAX10 hown hK hP 0 rfl rfl 9 (by decide) (hw _ q_1270) (fun _ h9 => h9) n56 dX10_restore_67 ?_
            refine lv_iload_n hx hb dX10_restore_70 rfl (lv_at hl 0 rfl) ?_
            refine lv_aload_n hx hb dX10_restore_71 rfl (lv_at hl 1 rfl) ?_
            have n57 : F1 65 = .ref h_namesKept := (get_ne eF1 (by decide) e_namesKept)
            refine get_f (D := D) (ci := 10) (v := .ref h_namesKept) (C := RX10) (T := TX10) (N := 67) hx hb hw inAX10 hown hK hP 0 rfl rfl 65 (by decide) (hw _ q_1326) (fun _ h9 => h9) n57 dX10_restore_72 ?_
            refine lv_bipush (v := 18) hx hb dX10_restore_75 (by decide) ?_
            refine lv_iload_n hx hb dX10_restore_77 rfl (lv_at hl 2 rfl) ?_
            refine lv_imul hx hb dX10_restore_78 ?_
            refine lv_ci (y := 0) (by decide +kernel) ?_
            refine lv_iload_n hx hb dX10_restore_79 rfl (lv_at hl 0 rfl) ?_
            refine lv_iadd hx hb dX10_restore_80 ?_
            refine lv_topi (fun v58 ev58 => ?_)
            have bv58 : v58.toInt = 0 + u48.toInt := by rw [ev58]; exact add_k rfl rfl ⟨Int.le_refl _, Int.le_refl _⟩ k55 (by decide)
            have k59 : 0 ≤ v58.toInt ∧ v58.toInt ≤ 17 := add_r bv58 ⟨Int.le_refl _, Int.le_refl _⟩ k55 (by decide)
            refine va_lald hx hb hK hP 4 1 rfl rfl (ix_k k59 (by decide) (by decide)) dX10_restore_81 ?_
            refine lv_topl (fun v60 ev60 => ?_)
            obtain ⟨g61, eg61⟩ : ∃ z : Nat → Int64, vp_updL w49 u48.toNatClampNeg v60 = z := ⟨_, rfl⟩
            refine last_g hx hb hK hP hD hS 2 1 rfl rfl (ix_k k55 (by decide) (by decide)) eg61 dX10_restore_82 (fun H locs hP hD hS => ?_)
            have hP : va_P D vwCl [(h0, .inr (10, vL 67 F1)), (h_s, .inl (cI, 335, .inl w20)), (h_names, .inl (cJ, 36, .inr (.inl g61))), (h_images, .inl (cI, 670, .inl f_images)), (h_namesKept, .inl (cJ, 36, .inr (.inl f_namesKept))), (h_areKept, .inl (cZ, 2, .inl f_areKept))] H := hP
            have hD : va_D A [(h0, .inr (10, vL 67 F1)), (h_s, .inl (cI, 335, .inl w20)), (h_names, .inl (cJ, 36, .inr (.inl g61))), (h_images, .inl (cI, 670, .inl f_images)), (h_namesKept, .inl (cJ, 36, .inr (.inl f_namesKept))), (h_areKept, .inl (cZ, 2, .inl f_areKept))] := hD
            obtain ⟨v62, ev62⟩ : ∃ z : Int32, z = u48 + 1 := ⟨_, rfl⟩
            have bv62 : v62.toInt = u48.toInt + 1 := by rw [ev62]; exact add_k rfl rfl k55 ⟨Int.le_refl _, Int.le_refl _⟩ (by decide)
            have k63 : 1 ≤ v62.toInt ∧ v62.toInt ≤ 18 := add_r bv62 k55 ⟨Int.le_refl _, Int.le_refl _⟩ (by decide)
            refine lv_iinc (v := v62) (lv' := [(2, .int v62), (0, .ref h0), (1, .int 0)]) hx hb dX10_restore_83 hl (k := 0) rfl (by rw [ev62]; rfl) (by decide) rfl (fun ls hl => ?_)
            refine lv_goto (tgt := 60) hx hb dX10_restore_86 (by decide) ?_
            exact ih_60 (v62, g61) ⟨(ir_wk k63 (by decide) (by decide)), (show CPL g61 0 f_namesKept 0 (v62.toInt) from (CPL.step i51 eg61 ev60 (by omega) (by omega) (by omega)))⟩ (by show (18 - v62.toInt).toNat < (18 - u48.toInt).toNat; omega) _ _ _ hP hD hS (lv_sub hl [0, 1, 2] rfl)
        · have dc24 : u19.toInt < 335 := nle_i (a := 335) (b := u19.toInt) rfl rfl c24
          have k64 : 0 ≤ u19.toInt ∧ u19.toInt ≤ 334 := ⟨i21.1, up_lt dc24 (Int.le_refl _) (by decide)⟩
          refine lv_aload_n hx hb dX10_restore_34 rfl (lv_at hl 1 rfl) ?_
          have n65 : F1 6 = .ref h_s := (get_ne eF1 (by decide) e_s)
          refine get_f (D := D) (ci := 10) (v := .ref h_s) (C := RX10) (T := TX10) (N := 67) hx hb hw inAX10 hown hK hP 0 rfl rfl 6 (by decide) (hw _ q_1267) (fun _ h9 => h9) n65 dX10_restore_35 ?_
          refine lv_iload_n hx hb dX10_restore_38 rfl (lv_at hl 0 rfl) ?_
          refine lv_aload_n hx hb dX10_restore_39 rfl (lv_at hl 1 rfl) ?_
          have n66 : F1 64 = .ref h_images := (get_ne eF1 (by decide) e_images)
          refine get_f (D := D) (ci := 10) (v := .ref h_images) (C := RX10) (T := TX10) (N := 67) hx hb hw inAX10 hown hK hP 0 rfl rfl 64 (by decide) (hw _ q_1325) (fun _ h9 => h9) n66 dX10_restore_40 ?_
          refine lv_sipush (v := 335) hx hb dX10_restore_43 (by decide) ?_
          refine lv_iload_n hx hb dX10_restore_46 rfl (lv_at hl 2 rfl) ?_
          refine lv_imul hx hb dX10_restore_47 ?_
          refine lv_ci (y := 0) (by decide +kernel) ?_
          refine lv_iload_n hx hb dX10_restore_48 rfl (lv_at hl 0 rfl) ?_
          refine lv_iadd hx hb dX10_restore_49 ?_
          refine lv_topi (fun v67 ev67 => ?_)
          have bv67 : v67.toInt = 0 + u19.toInt := by rw [ev67]; exact add_k rfl rfl ⟨Int.le_refl _, Int.le_refl _⟩ k64 (by decide)
          have k68 : 0 ≤ v67.toInt ∧ v67.toInt ≤ 334 := add_r bv67 ⟨Int.le_refl _, Int.le_refl _⟩ k64 (by decide)
          refine va_iald hx hb hK hP 3 0 rfl rfl (ix_k k68 (by decide) (by decide)) dX10_restore_50 ?_
          refine lv_topi (fun v69 ev69 => ?_)
          have r70 : IMP (0 ≤ v67.toInt → v67.toInt ≤ 0 → 0 ≤ v69.toInt ∧ v69.toInt ≤ 40) := IMP.mk (fun q1 q2 => by rw [ev69]; exact s_images_0.at _ q1 q2)
          have r71 : IMP (105 ≤ v67.toInt → v67.toInt ≤ 108 → 0 ≤ v69.toInt ∧ v69.toInt ≤ 11) := IMP.mk (fun q1 q2 => by rw [ev69]; exact s_images_105.at _ q1 q2)
          have r72 : IMP (114 ≤ v67.toInt → v67.toInt ≤ 114 → 0 ≤ v69.toInt ∧ v69.toInt ≤ 5) := IMP.mk (fun q1 q2 => by rw [ev69]; exact s_images_114.at _ q1 q2)
          have r73 : IMP (130 ≤ v67.toInt → v67.toInt ≤ 133 → 0 ≤ v69.toInt ∧ v69.toInt ≤ 11) := IMP.mk (fun q1 q2 => by rw [ev69]; exact s_images_130.at _ q1 q2)
          have r74 : IMP (139 ≤ v67.toInt → v67.toInt ≤ 139 → 0 ≤ v69.toInt ∧ v69.toInt ≤ 5) := IMP.mk (fun q1 q2 => by rw [ev69]; exact s_images_139.at _ q1 q2)
          have r75 : IMP (153 ≤ v67.toInt → v67.toInt ≤ 153 → 0 ≤ v69.toInt ∧ v69.toInt ≤ 44) := IMP.mk (fun q1 q2 => by rw [ev69]; exact s_images_153.at _ q1 q2)
          have r76 : IMP (44 ≤ v67.toInt → v67.toInt ≤ 55 → 0 ≤ v69.toInt ∧ v69.toInt ≤ 9) := IMP.mk (fun q1 q2 => by rw [ev69]; exact s_images_44.at _ q1 q2)
          have r77 : IMP (5 ≤ v67.toInt → v67.toInt ≤ 5 → 0 ≤ v69.toInt ∧ v69.toInt ≤ 12) := IMP.mk (fun q1 q2 => by rw [ev69]; exact s_images_5.at _ q1 q2)
          have r78 : IMP (6 ≤ v67.toInt → v67.toInt ≤ 6 → 0 ≤ v69.toInt ∧ v69.toInt ≤ 12) := IMP.mk (fun q1 q2 => by rw [ev69]; exact s_images_6.at _ q1 q2)
          have r79 : IMP (7 ≤ v67.toInt → v67.toInt ≤ 7 → 0 ≤ v69.toInt ∧ v69.toInt ≤ 6) := IMP.mk (fun q1 q2 => by rw [ev69]; exact s_images_7.at _ q1 q2)
          obtain ⟨g80, eg80⟩ : ∃ z : Nat → Int32, upd w20 u19.toNatClampNeg v69 = z := ⟨_, rfl⟩
          refine iast_g hx hb hK hP hD hS 1 0 rfl rfl (ix_k k64 (by decide) (by decide)) eg80 dX10_restore_51 (fun H locs hP hD hS => ?_)
          have hP : va_P D vwCl [(h0, .inr (10, vL 67 F1)), (h_s, .inl (cI, 335, .inl g80)), (h_names, .inl (cJ, 36, .inr (.inl f_names))), (h_images, .inl (cI, 670, .inl f_images)), (h_namesKept, .inl (cJ, 36, .inr (.inl f_namesKept))), (h_areKept, .inl (cZ, 2, .inl f_areKept))] H := hP
          have hD : va_D A [(h0, .inr (10, vL 67 F1)), (h_s, .inl (cI, 335, .inl g80)), (h_names, .inl (cJ, 36, .inr (.inl f_names))), (h_images, .inl (cI, 670, .inl f_images)), (h_namesKept, .inl (cJ, 36, .inr (.inl f_namesKept))), (h_areKept, .inl (cZ, 2, .inl f_areKept))] := hD
          obtain ⟨v81, ev81⟩ : ∃ z : Int32, z = u19 + 1 := ⟨_, rfl⟩
          have bv81 : v81.toInt = u19.toInt + 1 := by rw [ev81]; exact add_k rfl rfl k64 ⟨Int.le_refl _, Int.le_refl _⟩ (by decide)
          have k82 : 1 ≤ v81.toInt ∧ v81.toInt ≤ 335 := add_r bv81 k64 ⟨Int.le_refl _, Int.le_refl _⟩ (by decide)
          refine lv_iinc (v := v81) (lv' := [(2, .int v81), (0, .ref h0), (1, .int 0)]) hx hb dX10_restore_52 hl (k := 0) rfl (by rw [ev81]; rfl) (by decide) rfl (fun ls hl => ?_)
          refine lv_goto (tgt := 27) hx hb dX10_restore_55 (by decide) ?_
          exact ih (v81, g80) ⟨(ir_wk k82 (by decide) (by decide)), (show CPY g80 0 f_images 0 (v81.toInt) from (CPY.step i22 eg80 ev69 (by omega) (by omega) (by omega))), (CPY.step i23 eg80 ev69 (by omega) (by omega) (by omega))⟩ (by show (335 - v81.toInt).toNat < (335 - u19.toInt).toNat; omega) _ _ _ hP hD hS (lv_sub hl [0, 1, 2] rfl)
      have dk17 : p0.toInt ≠ 0 := ne_i rfl rfl k17
      have k83 : 1 ≤ p0.toInt ∧ p0.toInt ≤ 1 := ⟨ne_lo dk17 k13.1 ⟨Int.le_refl _, Int.le_refl _⟩ (by decide), k13.2⟩
      have k84 : p0 = 1 := Int32.toInt_inj.mp (show p0.toInt = 1 by omega)
      have dk84 : p0.toInt = 1 := eq_i rfl rfl k84
      have hl : lv_has ls 3 [(0, .ref h0), (1, .int 1)] := by have q := hl; rw [k84] at q; exact q
      refine lv_iconst (v := 0) hx hb dX10_restore_25 (by decide) ?_
      refine lv_istore_n (lv' := [(2, .int 0), (0, .ref h0), (1, .int 1)]) hx hb dX10_restore_26 rfl hl (by decide) rfl (fun ls hl => ?_)
      refine mloop (α := (Int32) × (Nat → Int32)) (nL := 3) (D := D) (A := A) (H0 := s.heap) (fun a => (335 - a.1.toInt).toNat) (fun a => IR 0 335 a.1 ∧ (CPY a.2 0 f_images 335 (a.1.toInt)) ∧ (CPY a.2 0 f_images 335 (a.1.toInt))) (fun a => [(h0, .inr (10, vL 67 F1)), (h_s, .inl (cI, 335, .inl a.2)), (h_names, .inl (cJ, 36, .inr (.inl f_names))), (h_images, .inl (cI, 670, .inl f_images)), (h_namesKept, .inl (cJ, 36, .inr (.inl f_namesKept))), (h_areKept, .inl (cZ, 2, .inl f_areKept))]) (fun a => [(2, .int a.1), (0, .ref h0), (1, .int 1)]) (fun H locs ls => W p l e ({ frames := 1, cells := 0, slots := 0, locals := 22 } : Room) s m [.ref h0, .int p0].toArray below meth c H locs 0 0 (MQ below (va_Qi (fun (r : Int32) (u : va_W) => (∃ (Gh : Nat → Value), SAME [0] Fh Gh ∧ Gh 0 = .int 0 ∧ ((0 ≤ p0.toInt → p0.toInt ≤ 1 → (r.toInt = 1 ↔ (f_areKept p0.toNatClampNeg).toInt ≠ 0)) ∧ (p0.toInt < 0 ∨ 1 < p0.toInt → r.toInt = 0)) ∧ r = 0 ∧ u = [(h0, .inr (10, vL 67 Gh)), (h_s, .inl (cI, 335, .inl f_s)), (h_names, .inl (cJ, 36, .inr (.inl f_names))), (h_images, .inl (cI, 670, .inl f_images)), (h_namesKept, .inl (cJ, 36, .inr (.inl f_namesKept))), (h_areKept, .inl (cZ, 2, .inl f_areKept))]) ∨ (∃ (Gh : Nat → Value) (g_s : Nat → Int32) (g_names : Nat → Int64), SAME [0, 41] Fh Gh ∧ Gh 0 = .int 0 ∧ Gh 41 = .int 0 ∧ SG 153 153 0 44 g_s ∧ SG 0 0 0 40 g_s ∧ SG 5 5 0 12 g_s ∧ SG 6 6 0 12 g_s ∧ SG 7 7 0 6 g_s ∧ SG 44 55 0 9 g_s ∧ KW 0 g_s ∧ SG 105 108 0 11 g_s ∧ SG 114 114 0 5 g_s ∧ SG 130 133 0 11 g_s ∧ SG 139 139 0 5 g_s ∧ ((0 ≤ p0.toInt → p0.toInt ≤ 1 → (r.toInt = 1 ↔ (f_areKept p0.toNatClampNeg).toInt ≠ 0)) ∧ (p0.toInt < 0 ∨ 1 < p0.toInt → r.toInt = 0)) ∧ ((p0.toInt = 0 → CPY g_s 0 f_images 0 335 ∧ CPL g_names 0 f_namesKept 0 18) ∧ (p0.toInt = 1 → CPY g_s 0 f_images 335 335 ∧ CPL g_names 0 f_namesKept 18 18)) ∧ r = 1 ∧ u = [(h0, .inr (10, vL 67 Gh)), (h_s, .inl (cI, 335, .inl g_s)), (h_names, .inl (cJ, 36, .inr (.inl g_names))), (h_images, .inl (cI, 670, .inl f_images)), (h_namesKept, .inl (cJ, 36, .inr (.inl f_namesKept))), (h_areKept, .inl (cZ, 2, .inl f_areKept))])) (PO D A) A) [.ref h0, .int p0].toArray s 0 0 A) (F0 m 27 ls [])) ?_ (0, f_s) ⟨(show 0 ≤ (0 : Int32).toInt ∧ (0 : Int32).toInt ≤ 335 by decide), (show CPY f_s 0 f_images 335 (0) from (CPY.zero (by decide))), (show CPY f_s 0 f_images 335 (0) from (CPY.zero (by decide)))⟩ _ _ _ hP hD hS hl
      rintro ⟨u85, w86⟩ ⟨i87, i88, i89⟩ ih H locs ls hP hD hS hl
      have i87 : 0 ≤ u85.toInt ∧ u85.toInt ≤ 335 := i87
      have i88 : CPY w86 0 f_images 335 (u85.toInt) := i88
      have i89 : CPY w86 0 f_images 335 (u85.toInt) := i89
      have hP : va_P D vwCl [(h0, .inr (10, vL 67 F1)), (h_s, .inl (cI, 335, .inl w86)), (h_names, .inl (cJ, 36, .inr (.inl f_names))), (h_images, .inl (cI, 670, .inl f_images)), (h_namesKept, .inl (cJ, 36, .inr (.inl f_namesKept))), (h_areKept, .inl (cZ, 2, .inl f_areKept))] H := hP
      have hD : va_D A [(h0, .inr (10, vL 67 F1)), (h_s, .inl (cI, 335, .inl w86)), (h_names, .inl (cJ, 36, .inr (.inl f_names))), (h_images, .inl (cI, 670, .inl f_images)), (h_namesKept, .inl (cJ, 36, .inr (.inl f_namesKept))), (h_areKept, .inl (cZ, 2, .inl f_areKept))] := hD
      have hl : lv_has ls 3 [(2, .int u85), (0, .ref h0), (1, .int 1)] := hl
      refine lv_iload_n hx hb dX10_restore_27 rfl (lv_at hl 0 rfl) ?_
      refine lv_sipush (v := 335) hx hb dX10_restore_28 (by decide) ?_
      refine lv_icmp_ge (tgt := 58) hx hb dX10_restore_31 (by decide) (fun c90 => ?_) (fun c90 => ?_)
      · have dc90 : 335 ≤ u85.toInt := le_i (a := 335) (b := u85.toInt) rfl rfl c90
        have k91 : 335 ≤ u85.toInt ∧ u85.toInt ≤ 335 := ⟨Int.le_trans (Int.le_refl _) dc90, i87.2⟩
        have r93 : KW 0 w86 := KW.cpy i89 s_images_K335 (by omega) (by decide)
        have r100 : SG 0 0 0 40 w86 := SG.cpy i89 s_images_335 (by decide) (by decide) (by decide) (by omega)
        have r101 : SG 5 5 0 12 w86 := SG.cpy i89 s_images_340 (by decide) (by decide) (by decide) (by omega)
        have r102 : SG 6 6 0 12 w86 := SG.cpy i89 s_images_341 (by decide) (by decide) (by decide) (by omega)
        have r103 : SG 7 7 0 6 w86 := SG.cpy i89 s_images_342 (by decide) (by decide) (by decide) (by omega)
        have r104 : SG 44 55 0 9 w86 := SG.cpy i89 s_images_379 (by decide) (by decide) (by decide) (by omega)
        have r106 : SG 105 108 0 11 w86 := SG.cpy i89 s_images_440 (by decide) (by decide) (by decide) (by omega)
        have r107 : SG 114 114 0 5 w86 := SG.cpy i89 s_images_449 (by decide) (by decide) (by decide) (by omega)
        have r108 : SG 130 133 0 11 w86 := SG.cpy i89 s_images_465 (by decide) (by decide) (by decide) (by omega)
        have r109 : SG 139 139 0 5 w86 := SG.cpy i89 s_images_474 (by decide) (by decide) (by decide) (by omega)
        have r110 : SG 153 153 0 44 w86 := SG.cpy i89 s_images_488 (by decide) (by decide) (by decide) (by omega)
        refine lv_iconst (v := 0) hx hb dX10_restore_58 (by decide) ?_
        refine lv_istore_n (lv' := [(2, .int 0), (0, .ref h0), (1, .int 1)]) hx hb dX10_restore_59 rfl hl (by decide) rfl (fun ls hl => ?_)
        refine mloop (α := (Int32) × (Nat → Int64)) (nL := 3) (D := D) (A := A) (H0 := s.heap) (fun a => (18 - a.1.toInt).toNat) (fun a => IR 0 18 a.1 ∧ (CPL a.2 0 f_namesKept 18 (a.1.toInt))) (fun a => [(h0, .inr (10, vL 67 F1)), (h_s, .inl (cI, 335, .inl w86)), (h_names, .inl (cJ, 36, .inr (.inl a.2))), (h_images, .inl (cI, 670, .inl f_images)), (h_namesKept, .inl (cJ, 36, .inr (.inl f_namesKept))), (h_areKept, .inl (cZ, 2, .inl f_areKept))]) (fun a => [(2, .int a.1), (0, .ref h0), (1, .int 1)]) (fun H locs ls => W p l e ({ frames := 1, cells := 0, slots := 0, locals := 22 } : Room) s m [.ref h0, .int p0].toArray below meth c H locs 0 0 (MQ below (va_Qi (fun (r : Int32) (u : va_W) => (∃ (Gh : Nat → Value), SAME [0] Fh Gh ∧ Gh 0 = .int 0 ∧ ((0 ≤ p0.toInt → p0.toInt ≤ 1 → (r.toInt = 1 ↔ (f_areKept p0.toNatClampNeg).toInt ≠ 0)) ∧ (p0.toInt < 0 ∨ 1 < p0.toInt → r.toInt = 0)) ∧ r = 0 ∧ u = [(h0, .inr (10, vL 67 Gh)), (h_s, .inl (cI, 335, .inl f_s)), (h_names, .inl (cJ, 36, .inr (.inl f_names))), (h_images, .inl (cI, 670, .inl f_images)), (h_namesKept, .inl (cJ, 36, .inr (.inl f_namesKept))), (h_areKept, .inl (cZ, 2, .inl f_areKept))]) ∨ (∃ (Gh : Nat → Value) (g_s : Nat → Int32) (g_names : Nat → Int64), SAME [0, 41] Fh Gh ∧ Gh 0 = .int 0 ∧ Gh 41 = .int 0 ∧ SG 153 153 0 44 g_s ∧ SG 0 0 0 40 g_s ∧ SG 5 5 0 12 g_s ∧ SG 6 6 0 12 g_s ∧ SG 7 7 0 6 g_s ∧ SG 44 55 0 9 g_s ∧ KW 0 g_s ∧ SG 105 108 0 11 g_s ∧ SG 114 114 0 5 g_s ∧ SG 130 133 0 11 g_s ∧ SG 139 139 0 5 g_s ∧ ((0 ≤ p0.toInt → p0.toInt ≤ 1 → (r.toInt = 1 ↔ (f_areKept p0.toNatClampNeg).toInt ≠ 0)) ∧ (p0.toInt < 0 ∨ 1 < p0.toInt → r.toInt = 0)) ∧ ((p0.toInt = 0 → CPY g_s 0 f_images 0 335 ∧ CPL g_names 0 f_namesKept 0 18) ∧ (p0.toInt = 1 → CPY g_s 0 f_images 335 335 ∧ CPL g_names 0 f_namesKept 18 18)) ∧ r = 1 ∧ u = [(h0, .inr (10, vL 67 Gh)), (h_s, .inl (cI, 335, .inl g_s)), (h_names, .inl (cJ, 36, .inr (.inl g_names))), (h_images, .inl (cI, 670, .inl f_images)), (h_namesKept, .inl (cJ, 36, .inr (.inl f_namesKept))), (h_areKept, .inl (cZ, 2, .inl f_areKept))])) (PO D A) A) [.ref h0, .int p0].toArray s 0 0 A) (F0 m 60 ls [])) ?_ (0, f_names) ⟨(show 0 ≤ (0 : Int32).toInt ∧ (0 : Int32).toInt ≤ 18 by decide), (show CPL f_names 0 f_namesKept 18 (0) from (CPL.zero (by decide)))⟩ _ _ _ hP hD hS hl
        rintro ⟨u114, w115⟩ ⟨i116, i117⟩ ih_60 H locs ls hP hD hS hl
        have i116 : 0 ≤ u114.toInt ∧ u114.toInt ≤ 18 := i116
        have i117 : CPL w115 0 f_namesKept 18 (u114.toInt) := i117
        have hP : va_P D vwCl [(h0, .inr (10, vL 67 F1)), (h_s, .inl (cI, 335, .inl w86)), (h_names, .inl (cJ, 36, .inr (.inl w115))), (h_images, .inl (cI, 670, .inl f_images)), (h_namesKept, .inl (cJ, 36, .inr (.inl f_namesKept))), (h_areKept, .inl (cZ, 2, .inl f_areKept))] H := hP
        have hD : va_D A [(h0, .inr (10, vL 67 F1)), (h_s, .inl (cI, 335, .inl w86)), (h_names, .inl (cJ, 36, .inr (.inl w115))), (h_images, .inl (cI, 670, .inl f_images)), (h_namesKept, .inl (cJ, 36, .inr (.inl f_namesKept))), (h_areKept, .inl (cZ, 2, .inl f_areKept))] := hD
        have hl : lv_has ls 3 [(2, .int u114), (0, .ref h0), (1, .int 1)] := hl
        refine lv_iload_n hx hb dX10_restore_60 rfl (lv_at hl 0 rfl) ?_
        refine lv_bipush (v := 18) hx hb dX10_restore_61 (by decide) ?_
        refine lv_icmp_ge (tgt := 89) hx hb dX10_restore_63 (by decide) (fun c118 => ?_) (fun c118 => ?_)
        · have dc118 : 18 ≤ u114.toInt := le_i (a := 18) (b := u114.toInt) rfl rfl c118
          have k119 : 18 ≤ u114.toInt ∧ u114.toInt ≤ 18 := ⟨Int.le_trans (Int.le_refl _) dc118, i116.2⟩
          refine lv_aload_n hx hb dX10_restore_89 rfl (lv_at hl 1 rfl) ?_
          refine lv_iconst (v := 0) hx hb dX10_restore_90 (by decide) ?_
          refine put_f (D := D) (ci := 10) (v := .int 0) (ty := .int) (C := RX10) (T := TX10) (N := 67) hx hb hw inAX10 tyX10 tyX10_ok nmX10 hown hK hP hD hS 0 rfl rfl 41 (by decide) (hw _ q_1302) (fun _ h9 => h9) rfl (by decide +kernel) rfl rfl dX10_restore_91 (fun H locs F120 eF120 hP hD hS => ?_)
          have hP : va_P D vwCl [(h0, .inr (10, vL 67 F120)), (h_s, .inl (cI, 335, .inl w86)), (h_names, .inl (cJ, 36, .inr (.inl w115))), (h_images, .inl (cI, 670, .inl f_images)), (h_namesKept, .inl (cJ, 36, .inr (.inl f_namesKept))), (h_areKept, .inl (cZ, 2, .inl f_areKept))] H := hP
          have hD : va_D A [(h0, .inr (10, vL 67 F120)), (h_s, .inl (cI, 335, .inl w86)), (h_names, .inl (cJ, 36, .inr (.inl w115))), (h_images, .inl (cI, 670, .inl f_images)), (h_namesKept, .inl (cJ, 36, .inr (.inl f_namesKept))), (h_areKept, .inl (cZ, 2, .inl f_areKept))] := hD
          refine lv_iconst (v := 1) hx hb dX10_restore_94 (by decide) ?_
          exact ret_i (v := 1) hx hb hr hlocks hS hP hD dX10_restore_95 rfl (Nat.le_of_ble_eq_true rfl) (Nat.le_of_ble_eq_true rfl) (Or.inr ⟨F120, w86, w115, (SAME.up eF120 (SAME.up eF1 SAME.rf (by decide)) (by decide)), (get_ne eF120 (by decide) (get_eq eF1)), (get_eq eF120), r110, r100, r101, r102, r103, r104, r93, r106, r107, r108, r109, (by have hkv15 := congrArg Int32.toInt ev15; have zl1 : (1 : Int32).toInt = 1 := (by decide); omega), ⟨fun q => absurd q (by omega), fun q => ⟨CPY.mn i88 (by omega), CPL.mn i117 (by omega)⟩⟩, rfl, rfl⟩)
        · have dc118 : u114.toInt < 18 := nle_i (a := 18) (b := u114.toInt) rfl rfl c118
          have k121 : 0 ≤ u114.toInt ∧ u114.toInt ≤ 17 := ⟨i116.1, up_lt dc118 (Int.le_refl _) (by decide)⟩
          refine lv_aload_n hx hb dX10_restore_66 rfl (lv_at hl 1 rfl) ?_
          have n122 : F1 9 = .ref h_names := (get_ne eF1 (by decide) e_names)
          refine get_f (D := D) (ci := 10) (v := .ref h_names) (C := RX10) (T := TX10) (N := 67) hx hb hw inAX10 hown hK hP 0 rfl rfl 9 (by decide) (hw _ q_1270) (fun _ h9 => h9) n122 dX10_restore_67 ?_
          refine lv_iload_n hx hb dX10_restore_70 rfl (lv_at hl 0 rfl) ?_
          refine lv_aload_n hx hb dX10_restore_71 rfl (lv_at hl 1 rfl) ?_
          have n123 : F1 65 = .ref h_namesKept := (get_ne eF1 (by decide) e_namesKept)
          refine get_f (D := D) (ci := 10) (v := .ref h_namesKept) (C := RX10) (T := TX10) (N := 67) hx hb hw inAX10 hown hK hP 0 rfl rfl 65 (by decide) (hw _ q_1326) (fun _ h9 => h9) n123 dX10_restore_72 ?_
          refine lv_bipush (v := 18) hx hb dX10_restore_75 (by decide) ?_
          refine lv_iload_n hx hb dX10_restore_77 rfl (lv_at hl 2 rfl) ?_
          refine lv_imul hx hb dX10_restore_78 ?_
          refine lv_ci (y := 18) (by decide +kernel) ?_
          refine lv_iload_n hx hb dX10_restore_79 rfl (lv_at hl 0 rfl) ?_
          refine lv_iadd hx hb dX10_restore_80 ?_
          refine lv_topi (fun v124 ev124 => ?_)
          have bv124 : v124.toInt = 18 + u114.toInt := by rw [ev124]; exact add_k rfl rfl ⟨Int.le_refl _, Int.le_refl _⟩ k121 (by decide)
          have k125 : 18 ≤ v124.toInt ∧ v124.toInt ≤ 35 := add_r bv124 ⟨Int.le_refl _, Int.le_refl _⟩ k121 (by decide)
          refine va_lald hx hb hK hP 4 1 rfl rfl (ix_k k125 (by decide) (by decide)) dX10_restore_81 ?_
          refine lv_topl (fun v126 ev126 => ?_)
          obtain ⟨g127, eg127⟩ : ∃ z : Nat → Int64, vp_updL w115 u114.toNatClampNeg v126 = z := ⟨_, rfl⟩
          refine last_g hx hb hK hP hD hS 2 1 rfl rfl (ix_k k121 (by decide) (by decide)) eg127 dX10_restore_82 (fun H locs hP hD hS => ?_)
          have hP : va_P D vwCl [(h0, .inr (10, vL 67 F1)), (h_s, .inl (cI, 335, .inl w86)), (h_names, .inl (cJ, 36, .inr (.inl g127))), (h_images, .inl (cI, 670, .inl f_images)), (h_namesKept, .inl (cJ, 36, .inr (.inl f_namesKept))), (h_areKept, .inl (cZ, 2, .inl f_areKept))] H := hP
          have hD : va_D A [(h0, .inr (10, vL 67 F1)), (h_s, .inl (cI, 335, .inl w86)), (h_names, .inl (cJ, 36, .inr (.inl g127))), (h_images, .inl (cI, 670, .inl f_images)), (h_namesKept, .inl (cJ, 36, .inr (.inl f_namesKept))), (h_areKept, .inl (cZ, 2, .inl f_areKept))] := hD
          obtain ⟨v128, ev128⟩ : ∃ z : Int32, z = u114 + 1 := ⟨_, rfl⟩
          have bv128 : v128.toInt = u114.toInt + 1 := by rw [ev128]; exact add_k rfl rfl k121 ⟨Int.le_refl _, Int.le_refl _⟩ (by decide)
          have k129 : 1 ≤ v128.toInt ∧ v128.toInt ≤ 18 := add_r bv128 k121 ⟨Int.le_refl _, Int.le_refl _⟩ (by decide)
          refine lv_iinc (v := v128) (lv' := [(2, .int v128), (0, .ref h0), (1, .int 1)]) hx hb dX10_restore_83 hl (k := 0) rfl (by rw [ev128]; rfl) (by decide) rfl (fun ls hl => ?_)
          refine lv_goto (tgt := 60) hx hb dX10_restore_86 (by decide) ?_
          exact ih_60 (v128, g127) ⟨(ir_wk k129 (by decide) (by decide)), (show CPL g127 0 f_namesKept 18 (v128.toInt) from (CPL.step i117 eg127 ev126 (by omega) (by omega) (by omega)))⟩ (by show (18 - v128.toInt).toNat < (18 - u114.toInt).toNat; omega) _ _ _ hP hD hS (lv_sub hl [0, 1, 2] rfl)
      · have dc90 : u85.toInt < 335 := nle_i (a := 335) (b := u85.toInt) rfl rfl c90
        have k130 : 0 ≤ u85.toInt ∧ u85.toInt ≤ 334 := ⟨i87.1, up_lt dc90 (Int.le_refl _) (by decide)⟩
        refine lv_aload_n hx hb dX10_restore_34 rfl (lv_at hl 1 rfl) ?_
        have n131 : F1 6 = .ref h_s := (get_ne eF1 (by decide) e_s)
        refine get_f (D := D) (ci := 10) (v := .ref h_s) (C := RX10) (T := TX10) (N := 67) hx hb hw inAX10 hown hK hP 0 rfl rfl 6 (by decide) (hw _ q_1267) (fun _ h9 => h9) n131 dX10_restore_35 ?_
        refine lv_iload_n hx hb dX10_restore_38 rfl (lv_at hl 0 rfl) ?_
        refine lv_aload_n hx hb dX10_restore_39 rfl (lv_at hl 1 rfl) ?_
        have n132 : F1 64 = .ref h_images := (get_ne eF1 (by decide) e_images)
        refine get_f (D := D) (ci := 10) (v := .ref h_images) (C := RX10) (T := TX10) (N := 67) hx hb hw inAX10 hown hK hP 0 rfl rfl 64 (by decide) (hw _ q_1325) (fun _ h9 => h9) n132 dX10_restore_40 ?_
        refine lv_sipush (v := 335) hx hb dX10_restore_43 (by decide) ?_
        refine lv_iload_n hx hb dX10_restore_46 rfl (lv_at hl 2 rfl) ?_
        refine lv_imul hx hb dX10_restore_47 ?_
        refine lv_ci (y := 335) (by decide +kernel) ?_
        refine lv_iload_n hx hb dX10_restore_48 rfl (lv_at hl 0 rfl) ?_
        refine lv_iadd hx hb dX10_restore_49 ?_
        refine lv_topi (fun v133 ev133 => ?_)
        have bv133 : v133.toInt = 335 + u85.toInt := by rw [ev133]; exact add_k rfl rfl ⟨Int.le_refl _, Int.le_refl _⟩ k130 (by decide)
        have k134 : 335 ≤ v133.toInt ∧ v133.toInt ≤ 669 := add_r bv133 ⟨Int.le_refl _, Int.le_refl _⟩ k130 (by decide)
        refine va_iald hx hb hK hP 3 0 rfl rfl (ix_k k134 (by decide) (by decide)) dX10_restore_50 ?_
        refine lv_topi (fun v135 ev135 => ?_)
        have r136 : IMP (335 ≤ v133.toInt → v133.toInt ≤ 335 → 0 ≤ v135.toInt ∧ v135.toInt ≤ 40) := IMP.mk (fun q1 q2 => by rw [ev135]; exact s_images_335.at _ q1 q2)
        have r137 : IMP (340 ≤ v133.toInt → v133.toInt ≤ 340 → 0 ≤ v135.toInt ∧ v135.toInt ≤ 12) := IMP.mk (fun q1 q2 => by rw [ev135]; exact s_images_340.at _ q1 q2)
        have r138 : IMP (341 ≤ v133.toInt → v133.toInt ≤ 341 → 0 ≤ v135.toInt ∧ v135.toInt ≤ 12) := IMP.mk (fun q1 q2 => by rw [ev135]; exact s_images_341.at _ q1 q2)
        have r139 : IMP (342 ≤ v133.toInt → v133.toInt ≤ 342 → 0 ≤ v135.toInt ∧ v135.toInt ≤ 6) := IMP.mk (fun q1 q2 => by rw [ev135]; exact s_images_342.at _ q1 q2)
        have r140 : IMP (379 ≤ v133.toInt → v133.toInt ≤ 390 → 0 ≤ v135.toInt ∧ v135.toInt ≤ 9) := IMP.mk (fun q1 q2 => by rw [ev135]; exact s_images_379.at _ q1 q2)
        have r141 : IMP (440 ≤ v133.toInt → v133.toInt ≤ 443 → 0 ≤ v135.toInt ∧ v135.toInt ≤ 11) := IMP.mk (fun q1 q2 => by rw [ev135]; exact s_images_440.at _ q1 q2)
        have r142 : IMP (449 ≤ v133.toInt → v133.toInt ≤ 449 → 0 ≤ v135.toInt ∧ v135.toInt ≤ 5) := IMP.mk (fun q1 q2 => by rw [ev135]; exact s_images_449.at _ q1 q2)
        have r143 : IMP (465 ≤ v133.toInt → v133.toInt ≤ 468 → 0 ≤ v135.toInt ∧ v135.toInt ≤ 11) := IMP.mk (fun q1 q2 => by rw [ev135]; exact s_images_465.at _ q1 q2)
        have r144 : IMP (474 ≤ v133.toInt → v133.toInt ≤ 474 → 0 ≤ v135.toInt ∧ v135.toInt ≤ 5) := IMP.mk (fun q1 q2 => by rw [ev135]; exact s_images_474.at _ q1 q2)
        have r145 : IMP (488 ≤ v133.toInt → v133.toInt ≤ 488 → 0 ≤ v135.toInt ∧ v135.toInt ≤ 44) := IMP.mk (fun q1 q2 => by rw [ev135]; exact s_images_488.at _ q1 q2)
        obtain ⟨g146, eg146⟩ : ∃ z : Nat → Int32, upd w86 u85.toNatClampNeg v135 = z := ⟨_, rfl⟩
        refine iast_g hx hb hK hP hD hS 1 0 rfl rfl (ix_k k130 (by decide) (by decide)) eg146 dX10_restore_51 (fun H locs hP hD hS => ?_)
        have hP : va_P D vwCl [(h0, .inr (10, vL 67 F1)), (h_s, .inl (cI, 335, .inl g146)), (h_names, .inl (cJ, 36, .inr (.inl f_names))), (h_images, .inl (cI, 670, .inl f_images)), (h_namesKept, .inl (cJ, 36, .inr (.inl f_namesKept))), (h_areKept, .inl (cZ, 2, .inl f_areKept))] H := hP
        have hD : va_D A [(h0, .inr (10, vL 67 F1)), (h_s, .inl (cI, 335, .inl g146)), (h_names, .inl (cJ, 36, .inr (.inl f_names))), (h_images, .inl (cI, 670, .inl f_images)), (h_namesKept, .inl (cJ, 36, .inr (.inl f_namesKept))), (h_areKept, .inl (cZ, 2, .inl f_areKept))] := hD
        obtain ⟨v147, ev147⟩ : ∃ z : Int32, z = u85 + 1 := ⟨_, rfl⟩
        have bv147 : v147.toInt = u85.toInt + 1 := by rw [ev147]; exact add_k rfl rfl k130 ⟨Int.le_refl _, Int.le_refl _⟩ (by decide)
        have k148 : 1 ≤ v147.toInt ∧ v147.toInt ≤ 335 := add_r bv147 k130 ⟨Int.le_refl _, Int.le_refl _⟩ (by decide)
        refine lv_iinc (v := v147) (lv' := [(2, .int v147), (0, .ref h0), (1, .int 1)]) hx hb dX10_restore_52 hl (k := 0) rfl (by rw [ev147]; rfl) (by decide) rfl (fun ls hl => ?_)
        refine lv_goto (tgt := 27) hx hb dX10_restore_55 (by decide) ?_
        exact ih (v147, g146) ⟨(ir_wk k148 (by decide) (by decide)), (show CPY g146 0 f_images 335 (v147.toInt) from (CPY.step i88 eg146 ev135 (by omega) (by omega) (by omega))), (CPY.step i89 eg146 ev135 (by omega) (by omega) (by omega))⟩ (by show (335 - v147.toInt).toNat < (335 - u85.toInt).toNat; omega) _ _ _ hP hD hS (lv_sub hl [0, 1, 2] rfl)
    · have dc16 : v15.toInt = 0 := eq_i (a := v15.toInt) (b := 0) rfl rfl c16
      have k149 : 0 ≤ v15.toInt ∧ v15.toInt ≤ 0 := ⟨Int.le_trans (Int.le_refl _) (Int.le_of_eq dc16.symm), Int.le_trans (Int.le_of_eq dc16) (Int.le_refl _)⟩
      refine lv_iconst (v := 0) hx hb dX10_restore_23 (by decide) ?_
      exact ret_i (v := 0) hx hb hr hlocks hS hP hD dX10_restore_24 rfl (Nat.le_of_ble_eq_true rfl) (Nat.le_of_ble_eq_true rfl) (Or.inl ⟨F1, (SAME.up eF1 SAME.rf (by decide)), (get_eq eF1), (by have hkv15 := congrArg Int32.toInt ev15; have zl0 : (0 : Int32).toInt = 0 := (by decide); omega), rfl, rfl⟩)
set_option maxHeartbeats 4000000 in
set_option maxRecDepth 100000 in
theorem m_X10_count (l : Launch) (D : va_G) (cI cJ cB cP cM cZ : ClassId) (h0 : Nat) (h_s : Nat) (Fh : Nat → Value) (x_length : Int32) (f_s : Nat → Int32) (p0 : Int32) (bs : Nat → Int32) (sz : Nat) (e_length : Fh 2 = .int x_length) (i_x_length : IR 0 940 x_length) (e_s : Fh 6 = .ref h_s) (s_s_K0 : KW 0 f_s) (s_s_US : US bs f_s) (s_s_0 : SG 0 0 0 40 f_s) (s_s_105 : SG 105 108 0 11 f_s) (s_s_114 : SG 114 114 0 5 f_s) (s_s_130 : SG 130 133 0 11 f_s) (s_s_139 : SG 139 139 0 5 f_s) (s_s_153 : SG 153 153 0 44 f_s) (s_s_44 : SG 44 55 0 9 f_s) (s_s_5 : SG 5 5 0 12 f_s) (s_s_6 : SG 6 6 0 12 f_s) (s_s_7 : SG 7 7 0 6 f_s) : CI l yX10_count cX10_count 2 (some .int) { frames := 1, cells := 0, slots := 0, locals := 22 } (GG D cI cJ cB cP cM cZ) D [(h0, .inr (10, vL 67 Fh)), (h_s, .inl (cI, 335, .inl f_s))] sz [.ref h0, .int p0] (fun (r : Int32) (u : va_W) => ∃ (Gh : Nat → Value), SAME [0] Fh Gh ∧ Gh 0 = .int 0 ∧ u = [(h0, .inr (10, vL 67 Gh)), (h_s, .inl (cI, 335, .inl f_s))]) := by
  refine CI_mk (by decide) (Nat.le_of_ble_eq_true rfl) ?_
  intro p e s m below meth c A ls E hAe hG hsz hP hD hA hS hl
  obtain ⟨hx, hb, hr, hw, hown, hlocks, hml, hnm⟩ := E
  have hK := hG.1
  have i_x_length : 0 ≤ x_length.toInt ∧ x_length.toInt ≤ 940 := i_x_length
  have hl : lv_has ls 2 [(0, .ref h0), (1, .int p0)] := hl
  refine lv_aload_n hx hb dX10_count_0 rfl (lv_at hl 0 rfl) ?_
  refine lv_iconst (v := 0) hx hb dX10_count_1 (by decide) ?_
  refine put_f (D := D) (ci := 10) (v := .int 0) (ty := .int) (C := RX10) (T := TX10) (N := 67) hx hb hw inAX10 tyX10 tyX10_ok nmX10 hown hK hP hD hS 0 rfl rfl 0 (by decide) (hw _ q_1261) (fun _ h9 => h9) rfl (by decide +kernel) rfl rfl dX10_count_2 (fun H locs F1 eF1 hP hD hS => ?_)
  have hP : va_P D vwCl [(h0, .inr (10, vL 67 F1)), (h_s, .inl (cI, 335, .inl f_s))] H := hP
  have hD : va_D A [(h0, .inr (10, vL 67 F1)), (h_s, .inl (cI, 335, .inl f_s))] := hD
  refine lv_iload_n hx hb dX10_count_5 rfl (lv_at hl 1 rfl) ?_
  by_cases k2 : p0 = 8
  · have dk2 : p0.toInt = 8 := eq_i rfl rfl k2
    have k3 : 8 ≤ p0.toInt ∧ p0.toInt ≤ 8 := ⟨Int.le_trans (Int.le_refl _) (Int.le_of_eq dk2.symm), Int.le_trans (Int.le_of_eq dk2) (Int.le_refl _)⟩
    refine lv_ci (y := 8) k2 ?_
    refine lv_tableIn (tgt := 40) (off := 34) hx hb dX10_count_6 (by decide) (by decide) (by decide) (by decide) ?_
    refine lv_aload_n hx hb dX10_count_40 rfl (lv_at hl 0 rfl) ?_
    have n4 : F1 6 = .ref h_s := (get_ne eF1 (by decide) e_s)
    refine get_f (D := D) (ci := 10) (v := .ref h_s) (C := RX10) (T := TX10) (N := 67) hx hb hw inAX10 hown hK hP 0 rfl rfl 6 (by decide) (hw _ q_1267) (fun _ h9 => h9) n4 dX10_count_41 ?_
    refine lv_bipush (v := 113) hx hb dX10_count_44 (by decide) ?_
    refine iald_n hx hb hK hP 1 0 rfl rfl 113 rfl (Nat.le_of_ble_eq_true rfl) (Nat.le_of_ble_eq_true rfl) rfl dX10_count_46 ?_
    refine lv_topi (fun v5 ev5 => ?_)
    exact ret_i (v := v5) hx hb hr hlocks hS hP hD dX10_count_47 rfl (Nat.le_of_ble_eq_true rfl) (Nat.le_of_ble_eq_true rfl) ⟨F1, (SAME.up eF1 SAME.rf (by decide)), (get_eq eF1), rfl⟩
  by_cases k6 : p0 = 9
  · have dk6 : p0.toInt = 9 := eq_i rfl rfl k6
    have k7 : 9 ≤ p0.toInt ∧ p0.toInt ≤ 9 := ⟨Int.le_trans (Int.le_refl _) (Int.le_of_eq dk6.symm), Int.le_trans (Int.le_of_eq dk6) (Int.le_refl _)⟩
    refine lv_ci (y := 9) k6 ?_
    refine lv_tableIn (tgt := 48) (off := 42) hx hb dX10_count_6 (by decide) (by decide) (by decide) (by decide) ?_
    refine lv_aload_n hx hb dX10_count_48 rfl (lv_at hl 0 rfl) ?_
    have n8 : F1 6 = .ref h_s := (get_ne eF1 (by decide) e_s)
    refine get_f (D := D) (ci := 10) (v := .ref h_s) (C := RX10) (T := TX10) (N := 67) hx hb hw inAX10 hown hK hP 0 rfl rfl 6 (by decide) (hw _ q_1267) (fun _ h9 => h9) n8 dX10_count_49 ?_
    refine lv_bipush (v := 7) hx hb dX10_count_52 (by decide) ?_
    refine iald_n hx hb hK hP 1 0 rfl rfl 7 rfl (Nat.le_of_ble_eq_true rfl) (Nat.le_of_ble_eq_true rfl) rfl dX10_count_54 ?_
    refine lv_topi (fun v9 ev9 => ?_)
    have k10 : 0 ≤ v9.toInt ∧ v9.toInt ≤ 6 := by rw [ev9]; exact s_s_7.atN 7 (by decide) (by decide)
    refine lv_if_ne (tgt := 62) hx hb dX10_count_55 (by decide) (fun c11 => ?_) (fun c11 => ?_)
    · have dc11 : v9.toInt ≠ 0 := ne_i (a := v9.toInt) (b := 0) rfl rfl c11
      have k12 : 1 ≤ v9.toInt ∧ v9.toInt ≤ 6 := ⟨ne_lo dc11 k10.1 ⟨Int.le_refl _, Int.le_refl _⟩ (by decide), k10.2⟩
      refine lv_aload_n hx hb dX10_count_62 rfl (lv_at hl 0 rfl) ?_
      refine get_f (D := D) (ci := 10) (v := .ref h_s) (C := RX10) (T := TX10) (N := 67) hx hb hw inAX10 hown hK hP 0 rfl rfl 6 (by decide) (hw _ q_1267) (fun _ h9 => h9) n8 dX10_count_63 ?_
      refine lv_bipush (v := 114) hx hb dX10_count_66 (by decide) ?_
      refine iald_n hx hb hK hP 1 0 rfl rfl 114 rfl (Nat.le_of_ble_eq_true rfl) (Nat.le_of_ble_eq_true rfl) rfl dX10_count_68 ?_
      refine lv_topi (fun v13 ev13 => ?_)
      have k14 : 0 ≤ v13.toInt ∧ v13.toInt ≤ 5 := by rw [ev13]; exact s_s_114.atN 114 (by decide) (by decide)
      exact ret_i (v := v13) hx hb hr hlocks hS hP hD dX10_count_69 rfl (Nat.le_of_ble_eq_true rfl) (Nat.le_of_ble_eq_true rfl) ⟨F1, (SAME.up eF1 SAME.rf (by decide)), (get_eq eF1), rfl⟩
    · have dc11 : v9.toInt = 0 := eq_i (a := v9.toInt) (b := 0) rfl rfl c11
      have k15 : 0 ≤ v9.toInt ∧ v9.toInt ≤ 0 := ⟨k10.1, Int.le_trans (Int.le_of_eq dc11) (Int.le_refl _)⟩
      refine lv_iconst (v := (-1)) hx hb dX10_count_58 (by decide) ?_
      refine lv_goto (tgt := 69) hx hb dX10_count_59 (by decide) ?_
      exact ret_i (v := (-1)) hx hb hr hlocks hS hP hD dX10_count_69 rfl (Nat.le_of_ble_eq_true rfl) (Nat.le_of_ble_eq_true rfl) ⟨F1, (SAME.up eF1 SAME.rf (by decide)), (get_eq eF1), rfl⟩
  by_cases k16 : p0 = 10
  · have dk16 : p0.toInt = 10 := eq_i rfl rfl k16
    have k17 : 10 ≤ p0.toInt ∧ p0.toInt ≤ 10 := ⟨Int.le_trans (Int.le_refl _) (Int.le_of_eq dk16.symm), Int.le_trans (Int.le_of_eq dk16) (Int.le_refl _)⟩
    refine lv_ci (y := 10) k16 ?_
    refine lv_tableIn (tgt := 70) (off := 64) hx hb dX10_count_6 (by decide) (by decide) (by decide) (by decide) ?_
    refine lv_aload_n hx hb dX10_count_70 rfl (lv_at hl 0 rfl) ?_
    have n18 : F1 6 = .ref h_s := (get_ne eF1 (by decide) e_s)
    refine get_f (D := D) (ci := 10) (v := .ref h_s) (C := RX10) (T := TX10) (N := 67) hx hb hw inAX10 hown hK hP 0 rfl rfl 6 (by decide) (hw _ q_1267) (fun _ h9 => h9) n18 dX10_count_71 ?_
    refine lv_bipush (v := 115) hx hb dX10_count_74 (by decide) ?_
    refine iald_n hx hb hK hP 1 0 rfl rfl 115 rfl (Nat.le_of_ble_eq_true rfl) (Nat.le_of_ble_eq_true rfl) rfl dX10_count_76 ?_
    refine lv_topi (fun v19 ev19 => ?_)
    exact ret_i (v := v19) hx hb hr hlocks hS hP hD dX10_count_77 rfl (Nat.le_of_ble_eq_true rfl) (Nat.le_of_ble_eq_true rfl) ⟨F1, (SAME.up eF1 SAME.rf (by decide)), (get_eq eF1), rfl⟩
  by_cases k20 : p0 = 11
  · have dk20 : p0.toInt = 11 := eq_i rfl rfl k20
    have k21 : 11 ≤ p0.toInt ∧ p0.toInt ≤ 11 := ⟨Int.le_trans (Int.le_refl _) (Int.le_of_eq dk20.symm), Int.le_trans (Int.le_of_eq dk20) (Int.le_refl _)⟩
    refine lv_ci (y := 11) k20 ?_
    refine lv_tableIn (tgt := 78) (off := 72) hx hb dX10_count_6 (by decide) (by decide) (by decide) (by decide) ?_
    refine lv_aload_n hx hb dX10_count_78 rfl (lv_at hl 0 rfl) ?_
    have n22 : F1 6 = .ref h_s := (get_ne eF1 (by decide) e_s)
    refine get_f (D := D) (ci := 10) (v := .ref h_s) (C := RX10) (T := TX10) (N := 67) hx hb hw inAX10 hown hK hP 0 rfl rfl 6 (by decide) (hw _ q_1267) (fun _ h9 => h9) n22 dX10_count_79 ?_
    refine lv_bipush (v := 104) hx hb dX10_count_82 (by decide) ?_
    refine iald_n hx hb hK hP 1 0 rfl rfl 104 rfl (Nat.le_of_ble_eq_true rfl) (Nat.le_of_ble_eq_true rfl) rfl dX10_count_84 ?_
    refine lv_topi (fun v23 ev23 => ?_)
    exact ret_i (v := v23) hx hb hr hlocks hS hP hD dX10_count_85 rfl (Nat.le_of_ble_eq_true rfl) (Nat.le_of_ble_eq_true rfl) ⟨F1, (SAME.up eF1 SAME.rf (by decide)), (get_eq eF1), rfl⟩
  by_cases k24 : p0 = 12
  · have dk24 : p0.toInt = 12 := eq_i rfl rfl k24
    have k25 : 12 ≤ p0.toInt ∧ p0.toInt ≤ 12 := ⟨Int.le_trans (Int.le_refl _) (Int.le_of_eq dk24.symm), Int.le_trans (Int.le_of_eq dk24) (Int.le_refl _)⟩
    refine lv_ci (y := 12) k24 ?_
    refine lv_tableIn (tgt := 86) (off := 80) hx hb dX10_count_6 (by decide) (by decide) (by decide) (by decide) ?_
    refine lv_aload_n hx hb dX10_count_86 rfl (lv_at hl 0 rfl) ?_
    have n26 : F1 2 = .int x_length := (get_ne eF1 (by decide) e_length)
    refine get_f (D := D) (ci := 10) (v := .int x_length) (C := RX10) (T := TX10) (N := 67) hx hb hw inAX10 hown hK hP 0 rfl rfl 2 (by decide) (hw _ q_1263) (fun _ h9 => h9) n26 dX10_count_87 ?_
    exact ret_i (v := x_length) hx hb hr hlocks hS hP hD dX10_count_90 rfl (Nat.le_of_ble_eq_true rfl) (Nat.le_of_ble_eq_true rfl) ⟨F1, (SAME.up eF1 SAME.rf (by decide)), (get_eq eF1), rfl⟩
  have dk2 : p0.toInt ≠ 8 := ne_i rfl rfl k2
  have dk6 : p0.toInt ≠ 9 := ne_i rfl rfl k6
  have dk16 : p0.toInt ≠ 10 := ne_i rfl rfl k16
  have dk20 : p0.toInt ≠ 11 := ne_i rfl rfl k20
  have dk24 : p0.toInt ≠ 12 := ne_i rfl rfl k24
  refine lv_tableOut (tgt := 91) hx hb dX10_count_6 (by omega) (by decide) ?_
  refine lv_iload_n hx hb dX10_count_91 rfl (lv_at hl 1 rfl) ?_
  refine lv_iconst (v := 0) hx hb dX10_count_92 (by decide) ?_
  refine lv_bipush (v := 7) hx hb dX10_count_93 (by decide) ?_
  refine call_Si (wr := [(h0, .inr (10, vL 67 F1)), (h_s, .inl (cI, 335, .inl f_s))]) (As := [.int p0, .int 0, .int 7]) (rest := []) hx hb hml hown hw (m_X10_isIn l D cI cJ cB cP cM cZ p0 0 7 _ ) wS_X10_211_X10_isIn dX10_count_95 hP hD hS hA [] [0, 1] rfl rfl (by decide) (by decide) (by decide) GG.fb hG.at hl.1 rfl (Nat.le_of_ble_eq_true rfl) ⟨(Nat.le_of_ble_eq_true rfl), (Nat.le_of_ble_eq_true rfl)⟩ ⟨(Nat.le_of_ble_eq_true rfl), (Nat.le_of_ble_eq_true rfl)⟩ (fun r27 u H locs hp hP hD hS => ?_)
  have zl0 : (0 : Int32).toInt = 0 := by decide
  have zl7 : (7 : Int32).toInt = 7 := by decide
  rcases hp with ⟨t28, rfl, rfl⟩ | ⟨t29, t30, rfl, rfl⟩ | ⟨t31, t32, rfl, rfl⟩
  · have hP : va_P D vwCl [(h0, .inr (10, vL 67 F1)), (h_s, .inl (cI, 335, .inl f_s))] H := hP
    have hD : va_D A [(h0, .inr (10, vL 67 F1)), (h_s, .inl (cI, 335, .inl f_s))] := hD
    refine W.widen (k := 0) (n := 0) (Nat.le_of_ble_eq_true rfl) (Nat.le_of_ble_eq_true rfl) ?_
    have k34 : (-2147483648) ≤ p0.toInt ∧ p0.toInt ≤ (-1) := ⟨(ir_any _).1, up_lt t28 (Int.le_refl _) (by decide)⟩
    refine lv_if_eq (tgt := 110) hx hb dX10_count_98 (by decide) (fun _ => ?_) (fun g => absurd (by decide) g)
    refine lv_iconst (v := (-1)) hx hb dX10_count_110 (by decide) ?_
    exact ret_i (v := (-1)) hx hb hr hlocks hS hP hD dX10_count_111 rfl (Nat.le_of_ble_eq_true rfl) (Nat.le_of_ble_eq_true rfl) ⟨F1, (SAME.up eF1 SAME.rf (by decide)), (get_eq eF1), rfl⟩
  · have hP : va_P D vwCl [(h0, .inr (10, vL 67 F1)), (h_s, .inl (cI, 335, .inl f_s))] H := hP
    have hD : va_D A [(h0, .inr (10, vL 67 F1)), (h_s, .inl (cI, 335, .inl f_s))] := hD
    refine W.widen (k := 0) (n := 0) (Nat.le_of_ble_eq_true rfl) (Nat.le_of_ble_eq_true rfl) ?_
    have k35 : 0 ≤ p0.toInt ∧ p0.toInt ≤ 2147483647 := ⟨Int.le_trans (Int.le_refl _) t29, (ir_any _).2⟩
    have k36 : 8 ≤ p0.toInt ∧ p0.toInt ≤ 2147483647 := ⟨lo_lt t30 (Int.le_refl _) (by decide), k35.2⟩
    refine lv_if_eq (tgt := 110) hx hb dX10_count_98 (by decide) (fun _ => ?_) (fun g => absurd (by decide) g)
    refine lv_iconst (v := (-1)) hx hb dX10_count_110 (by decide) ?_
    exact ret_i (v := (-1)) hx hb hr hlocks hS hP hD dX10_count_111 rfl (Nat.le_of_ble_eq_true rfl) (Nat.le_of_ble_eq_true rfl) ⟨F1, (SAME.up eF1 SAME.rf (by decide)), (get_eq eF1), rfl⟩
  · have hP : va_P D vwCl [(h0, .inr (10, vL 67 F1)), (h_s, .inl (cI, 335, .inl f_s))] H := hP
    have hD : va_D A [(h0, .inr (10, vL 67 F1)), (h_s, .inl (cI, 335, .inl f_s))] := hD
    refine W.widen (k := 0) (n := 0) (Nat.le_of_ble_eq_true rfl) (Nat.le_of_ble_eq_true rfl) ?_
    have k37 : 0 ≤ p0.toInt ∧ p0.toInt ≤ 2147483647 := ⟨Int.le_trans (Int.le_refl _) t31, (ir_any _).2⟩
    have k38 : 0 ≤ p0.toInt ∧ p0.toInt ≤ 7 := ⟨k37.1, Int.le_trans t32 (Int.le_refl _)⟩
    refine lv_if_eq (tgt := 110) hx hb dX10_count_98 (by decide) (fun g => absurd g (by decide)) (fun _ => ?_)
    refine lv_aload_n hx hb dX10_count_101 rfl (lv_at hl 0 rfl) ?_
    have n39 : F1 6 = .ref h_s := (get_ne eF1 (by decide) e_s)
    refine get_f (D := D) (ci := 10) (v := .ref h_s) (C := RX10) (T := TX10) (N := 67) hx hb hw inAX10 hown hK hP 0 rfl rfl 6 (by decide) (hw _ q_1267) (fun _ h9 => h9) n39 dX10_count_102 ?_
    refine lv_iload_n hx hb dX10_count_105 rfl (lv_at hl 1 rfl) ?_
    refine va_iald hx hb hK hP 1 0 rfl rfl (ix_k k38 (by decide) (by decide)) dX10_count_106 ?_
    refine lv_topi (fun v40 ev40 => ?_)
    have r41 : IMP (0 ≤ p0.toInt → p0.toInt ≤ 0 → 0 ≤ v40.toInt ∧ v40.toInt ≤ 40) := IMP.mk (fun q1 q2 => by rw [ev40]; exact s_s_0.at _ q1 q2)
    have r42 : IMP (5 ≤ p0.toInt → p0.toInt ≤ 5 → 0 ≤ v40.toInt ∧ v40.toInt ≤ 12) := IMP.mk (fun q1 q2 => by rw [ev40]; exact s_s_5.at _ q1 q2)
    have r43 : IMP (6 ≤ p0.toInt → p0.toInt ≤ 6 → 0 ≤ v40.toInt ∧ v40.toInt ≤ 12) := IMP.mk (fun q1 q2 => by rw [ev40]; exact s_s_6.at _ q1 q2)
    have r44 : IMP (7 ≤ p0.toInt → p0.toInt ≤ 7 → 0 ≤ v40.toInt ∧ v40.toInt ≤ 6) := IMP.mk (fun q1 q2 => by rw [ev40]; exact s_s_7.at _ q1 q2)
    refine lv_goto (tgt := 111) hx hb dX10_count_107 (by decide) ?_
    exact ret_i (v := v40) hx hb hr hlocks hS hP hD dX10_count_111 rfl (Nat.le_of_ble_eq_true rfl) (Nat.le_of_ble_eq_true rfl) ⟨F1, (SAME.up eF1 SAME.rf (by decide)), (get_eq eF1), rfl⟩
