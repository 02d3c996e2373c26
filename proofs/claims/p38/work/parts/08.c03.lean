set_option maxHeartbeats 4000000 in
set_option maxRecDepth 100000 in
theorem m_J7_fill_53178_4 (l : Launch) (D : va_G) (cI cJ cB cP cM cZ : ClassId) (p0 : Nat) (f_p0 : Nat → Int32) (p1 : Int32) (sz : Nat)  : CV l yJ7_fill_53178 cJ7_fill_53178 4 none { frames := 0, cells := 0, slots := 0, locals := 0 } (GG D cI cJ cB cP cM cZ) D [(p0, .inl (cI, 4, .inl f_p0))] sz [.ref p0, .int p1] (fun (u : va_W) => ∃ (g_p0 : Nat → Int32), (FILK g_p0 p1 4) ∧ u = [(p0, .inl (cI, 4, .inl g_p0))]) := by
  refine CV_mk (by decide) (Nat.le_of_ble_eq_true rfl) ?_
  intro p e s m below meth c A ls E hAe hG hsz hP hD hA hS hl
  obtain ⟨hx, hb, hr, hw, hown, hlocks, hml, hnm⟩ := E
  have hK := hG.1
  have hl : lv_has ls 4 [(0, .ref p0), (1, .int p1)] := hl
  refine lv_iconst (v := 0) hx hb dJ7_fill_53178_0 (by decide) ?_
  refine lv_istore_n (lv' := [(2, .int 0), (0, .ref p0), (1, .int p1)]) hx hb dJ7_fill_53178_1 rfl hl (by decide) rfl (fun ls hl => ?_)
  refine lv_aload_n hx hb dJ7_fill_53178_2 rfl (lv_at hl 1 rfl) ?_
  refine va_alen (v := 4) hx hb hK hP 0 0 rfl rfl rfl dJ7_fill_53178_3 ?_
  refine lv_istore_n (lv' := [(3, .int 4), (2, .int 0), (0, .ref p0), (1, .int p1)]) hx hb dJ7_fill_53178_4 rfl hl (by decide) rfl (fun ls hl => ?_)
  refine mloop (α := (Int32) × (Nat → Int32)) (nL := 4) (D := D) (A := A) (H0 := s.heap) (fun a => (6 - a.1.toInt).toNat) (fun a => IR 0 6 a.1 ∧ (FILK a.2 p1 (a.1.toInt))) (fun a => [(p0, .inl (cI, 4, .inl a.2))]) (fun a => [(3, .int 4), (2, .int a.1), (0, .ref p0), (1, .int p1)]) (fun H locs ls => W p l e ({ frames := 0, cells := 0, slots := 0, locals := 0 } : Room) s m [.ref p0, .int p1].toArray below meth c H locs 0 0 (MQ below (va_Qv (fun (u : va_W) => ∃ (g_p0 : Nat → Int32), (FILK g_p0 p1 4) ∧ u = [(p0, .inl (cI, 4, .inl g_p0))]) (PO D A) A) [.ref p0, .int p1].toArray s 0 0 A) (F0 m 5 ls [])) ?_ (0, f_p0) ⟨⟨by decide, by decide⟩, (FILK.zero (by decide))⟩ _ _ _ hP hD hS hl
  rintro ⟨u1, w2⟩ ⟨i3, i4⟩ ih H locs ls hP hD hS hl
  have i3 : 0 ≤ u1.toInt ∧ u1.toInt ≤ 6 := i3
  have i4 : FILK w2 p1 (u1.toInt) := i4
  have hP : va_P D vwCl [(p0, .inl (cI, 4, .inl w2))] H := hP
  have hD : va_D A [(p0, .inl (cI, 4, .inl w2))] := hD
  have hl : lv_has ls 4 [(3, .int 4), (2, .int u1), (0, .ref p0), (1, .int p1)] := hl
  refine lv_iload_n hx hb dJ7_fill_53178_5 rfl (lv_at hl 1 rfl) ?_
  refine lv_iload_n hx hb dJ7_fill_53178_6 rfl (lv_at hl 0 rfl) ?_
  refine lv_icmp_ge (tgt := 20) hx hb dJ7_fill_53178_7 (by decide) (fun c5 => ?_) (fun c5 => ?_)
  · have dc5 : 4 ≤ u1.toInt := le_i (a := 4) (b := u1.toInt) rfl rfl c5
    have k6 : 4 ≤ u1.toInt ∧ u1.toInt ≤ 6 := ⟨Int.le_trans (Int.le_refl _) dc5, i3.2⟩
    exact ret_v hx hb hr hlocks hS hP hD dJ7_fill_53178_20 (Nat.le_of_ble_eq_true rfl) (Nat.le_of_ble_eq_true rfl) ⟨w2, (FILK.mono i4 (by omega)), rfl⟩
  · have dc5 : u1.toInt < 4 := nle_i (a := 4) (b := u1.toInt) rfl rfl c5
    have k7 : 0 ≤ u1.toInt ∧ u1.toInt ≤ 3 := ⟨i3.1, up_lt dc5 (Int.le_refl _) (by decide)⟩
    refine lv_aload_n hx hb dJ7_fill_53178_10 rfl (lv_at hl 2 rfl) ?_
    refine lv_iload_n hx hb dJ7_fill_53178_11 rfl (lv_at hl 1 rfl) ?_
    refine lv_iload_n hx hb dJ7_fill_53178_12 rfl (lv_at hl 3 rfl) ?_
    obtain ⟨g8, eg8⟩ : ∃ z : Nat → Int32, upd w2 u1.toNatClampNeg p1 = z := ⟨_, rfl⟩
    refine iast_g hx hb hK hP hD hS 0 0 rfl rfl (ix_k k7 (by decide) (by decide)) eg8 dJ7_fill_53178_13 (fun H locs hP hD hS => ?_)
    have hP : va_P D vwCl [(p0, .inl (cI, 4, .inl g8))] H := hP
    have hD : va_D A [(p0, .inl (cI, 4, .inl g8))] := hD
    obtain ⟨v9, ev9⟩ : ∃ z : Int32, z = u1 + 1 := ⟨_, rfl⟩
    have bv9 : v9.toInt = u1.toInt + 1 := by rw [ev9]; exact add_k rfl rfl k7 ⟨Int.le_refl _, Int.le_refl _⟩ (by decide)
    have k10 : 1 ≤ v9.toInt ∧ v9.toInt ≤ 4 := add_r bv9 k7 ⟨Int.le_refl _, Int.le_refl _⟩ (by decide)
    refine lv_iinc (v := v9) (lv' := [(2, .int v9), (3, .int 4), (0, .ref p0), (1, .int p1)]) hx hb dJ7_fill_53178_14 hl (k := 1) rfl (by rw [ev9]; rfl) (by decide) rfl (fun ls hl => ?_)
    refine lv_goto (tgt := 5) hx hb dJ7_fill_53178_17 (by decide) ?_
    exact ih (v9, g8) ⟨(ir_wk k10 (by decide) (by decide)), (FILK.step i4 eg8 (by omega) (by omega) (by omega))⟩ (by show (6 - v9.toInt).toNat < (6 - u1.toInt).toNat; omega) _ _ _ hP hD hS (lv_sub hl [1, 0, 2, 3] rfl)
set_option maxHeartbeats 4000000 in
set_option maxRecDepth 100000 in
theorem m_X5_clear (l : Launch) (D : va_G) (cI cJ cB cP cM cZ : ClassId) (h0 : Nat) (h_crew : Nat) (h_yard : Nat) (h_high : Nat) (p0 : Nat) (h_p0_settings : Nat) (h_p0_ideal : Nat) (Fh : Nat → Value) (f_crew : Nat → Int32) (f_yard : Nat → Int32) (f_high : Nat → Int32) (F_p0_ : Nat → Value) (x_p0_runners : Int32) (f_p0_settings : Nat → Int32) (f_p0_ideal : Nat → Int32) (sz : Nat) (e_crew : Fh 0 = .ref h_crew) (e_yard : Fh 1 = .ref h_yard) (e_high : Fh 2 = .ref h_high) (s_crew_0 : SG 0 3 0 11 f_crew) (e_p0_settings : F_p0_ 1 = .ref h_p0_settings) (e_p0_ideal : F_p0_ 8 = .ref h_p0_ideal) (e_p0_runners : F_p0_ 15 = .int x_p0_runners) (i_x_p0_runners : IR 0 6 x_p0_runners) : CV l yX5_clear cX5_clear 2 none { frames := 1, cells := 0, slots := 0, locals := 80 } (GG D cI cJ cB cP cM cZ) D [(h0, .inr (5, vL 11 Fh)), (h_crew, .inl (cI, 4, .inl f_crew)), (h_yard, .inl (cI, 4, .inl f_yard)), (h_high, .inl (cI, 12, .inl f_high)), (p0, .inr (1, vL 18 F_p0_)), (h_p0_settings, .inl (cI, 5, .inl f_p0_settings)), (h_p0_ideal, .inl (cI, 12, .inl f_p0_ideal))] sz [.ref h0, .ref p0] (fun (u : va_W) => ∃ (Gh : Nat → Value) (y_runner : Int32) (g_crew : Nat → Int32) (g_yard : Nat → Int32) (g_high : Nat → Int32), SAME [3, 4, 5, 6] Fh Gh ∧ Gh 3 = .int 0 ∧ Gh 4 = .int 0 ∧ Gh 5 = .int y_runner ∧ IR (-1) 0 y_runner ∧ Gh 6 = .int 1 ∧ SG 0 3 0 11 g_crew ∧ u = [(h0, .inr (5, vL 11 Gh)), (h_crew, .inl (cI, 4, .inl g_crew)), (h_yard, .inl (cI, 4, .inl g_yard)), (h_high, .inl (cI, 12, .inl g_high)), (p0, .inr (1, vL 18 F_p0_)), (h_p0_settings, .inl (cI, 5, .inl f_p0_settings)), (h_p0_ideal, .inl (cI, 12, .inl f_p0_ideal))]) := by
  refine CV_mk (by decide) (Nat.le_of_ble_eq_true rfl) ?_
  intro p e s m below meth c A ls E hAe hG hsz hP hD hA hS hl
  obtain ⟨hx, hb, hr, hw, hown, hlocks, hml, hnm⟩ := E
  have hK := hG.1
  have i_x_p0_runners : 0 ≤ x_p0_runners.toInt ∧ x_p0_runners.toInt ≤ 6 := i_x_p0_runners
  have hl : lv_has ls 2 [(0, .ref h0), (1, .ref p0)] := hl
  refine lv_aload_n hx hb dX5_clear_0 rfl (lv_at hl 0 rfl) ?_
  refine lv_iconst (v := 0) hx hb dX5_clear_1 (by decide) ?_
  refine put_f (D := D) (ci := 5) (v := .int 0) (ty := .boolean) (C := RX5) (T := TX5) (N := 11) hx hb hw inAX5 tyX5 tyX5_ok nmX5 hown hK hP hD hS 0 rfl rfl 3 (by decide) (hw _ q_157) (fun _ h9 => h9) rfl (by decide +kernel) rfl rfl dX5_clear_2 (fun H locs F1 eF1 hP hD hS => ?_)
  have hP : va_P D vwCl [(h0, .inr (5, vL 11 F1)), (h_crew, .inl (cI, 4, .inl f_crew)), (h_yard, .inl (cI, 4, .inl f_yard)), (h_high, .inl (cI, 12, .inl f_high)), (p0, .inr (1, vL 18 F_p0_)), (h_p0_settings, .inl (cI, 5, .inl f_p0_settings)), (h_p0_ideal, .inl (cI, 12, .inl f_p0_ideal))] H := hP
  have hD : va_D A [(h0, .inr (5, vL 11 F1)), (h_crew, .inl (cI, 4, .inl f_crew)), (h_yard, .inl (cI, 4, .inl f_yard)), (h_high, .inl (cI, 12, .inl f_high)), (p0, .inr (1, vL 18 F_p0_)), (h_p0_settings, .inl (cI, 5, .inl f_p0_settings)), (h_p0_ideal, .inl (cI, 12, .inl f_p0_ideal))] := hD
  refine lv_aload_n hx hb dX5_clear_5 rfl (lv_at hl 0 rfl) ?_
  refine lv_iconst (v := 0) hx hb dX5_clear_6 (by decide) ?_
  refine put_f (D := D) (ci := 5) (v := .int 0) (ty := .int) (C := RX5) (T := TX5) (N := 11) hx hb hw inAX5 tyX5 tyX5_ok nmX5 hown hK hP hD hS 0 rfl rfl 4 (by decide) (hw _ q_160) (fun _ h9 => h9) rfl (by decide +kernel) rfl rfl dX5_clear_7 (fun H locs F2 eF2 hP hD hS => ?_)
  have hP : va_P D vwCl [(h0, .inr (5, vL 11 F2)), (h_crew, .inl (cI, 4, .inl f_crew)), (h_yard, .inl (cI, 4, .inl f_yard)), (h_high, .inl (cI, 12, .inl f_high)), (p0, .inr (1, vL 18 F_p0_)), (h_p0_settings, .inl (cI, 5, .inl f_p0_settings)), (h_p0_ideal, .inl (cI, 12, .inl f_p0_ideal))] H := hP
  have hD : va_D A [(h0, .inr (5, vL 11 F2)), (h_crew, .inl (cI, 4, .inl f_crew)), (h_yard, .inl (cI, 4, .inl f_yard)), (h_high, .inl (cI, 12, .inl f_high)), (p0, .inr (1, vL 18 F_p0_)), (h_p0_settings, .inl (cI, 5, .inl f_p0_settings)), (h_p0_ideal, .inl (cI, 12, .inl f_p0_ideal))] := hD
  refine lv_aload_n hx hb dX5_clear_10 rfl (lv_at hl 0 rfl) ?_
  refine lv_aload_n hx hb dX5_clear_11 rfl (lv_at hl 1 rfl) ?_
  refine get_f (D := D) (ci := 1) (v := .int x_p0_runners) (C := RX1) (T := TX1) (N := 18) hx hb hw inAX1 hown hK hP 4 rfl rfl 15 (by decide) (hw _ q_360) (fun _ h9 => h9) e_p0_runners dX5_clear_12 ?_
  refine lv_if_le (tgt := 22) hx hb dX5_clear_15 (by decide) (fun c3 => ?_) (fun c3 => ?_)
  · have dc3 : x_p0_runners.toInt ≤ 0 := le_i (a := x_p0_runners.toInt) (b := 0) rfl rfl c3
    have k4 : 0 ≤ x_p0_runners.toInt ∧ x_p0_runners.toInt ≤ 0 := ⟨i_x_p0_runners.1, Int.le_trans dc3 (Int.le_refl _)⟩
    refine lv_iconst (v := (-1)) hx hb dX5_clear_22 (by decide) ?_
    refine put_f (D := D) (ci := 5) (v := .int (-1)) (ty := .int) (C := RX5) (T := TX5) (N := 11) hx hb hw inAX5 tyX5 tyX5_ok nmX5 hown hK hP hD hS 0 rfl rfl 5 (by decide) (hw _ q_164) (fun _ h9 => h9) rfl (by decide +kernel) rfl rfl dX5_clear_23 (fun H locs F5 eF5 hP hD hS => ?_)
    have hP : va_P D vwCl [(h0, .inr (5, vL 11 F5)), (h_crew, .inl (cI, 4, .inl f_crew)), (h_yard, .inl (cI, 4, .inl f_yard)), (h_high, .inl (cI, 12, .inl f_high)), (p0, .inr (1, vL 18 F_p0_)), (h_p0_settings, .inl (cI, 5, .inl f_p0_settings)), (h_p0_ideal, .inl (cI, 12, .inl f_p0_ideal))] H := hP
    have hD : va_D A [(h0, .inr (5, vL 11 F5)), (h_crew, .inl (cI, 4, .inl f_crew)), (h_yard, .inl (cI, 4, .inl f_yard)), (h_high, .inl (cI, 12, .inl f_high)), (p0, .inr (1, vL 18 F_p0_)), (h_p0_settings, .inl (cI, 5, .inl f_p0_settings)), (h_p0_ideal, .inl (cI, 12, .inl f_p0_ideal))] := hD
    refine lv_aload_n hx hb dX5_clear_26 rfl (lv_at hl 0 rfl) ?_
    refine lv_iconst (v := 1) hx hb dX5_clear_27 (by decide) ?_
    refine put_f (D := D) (ci := 5) (v := .int 1) (ty := .int) (C := RX5) (T := TX5) (N := 11) hx hb hw inAX5 tyX5 tyX5_ok nmX5 hown hK hP hD hS 0 rfl rfl 6 (by decide) (hw _ q_167) (fun _ h9 => h9) rfl (by decide +kernel) rfl rfl dX5_clear_28 (fun H locs F6 eF6 hP hD hS => ?_)
    have hP : va_P D vwCl [(h0, .inr (5, vL 11 F6)), (h_crew, .inl (cI, 4, .inl f_crew)), (h_yard, .inl (cI, 4, .inl f_yard)), (h_high, .inl (cI, 12, .inl f_high)), (p0, .inr (1, vL 18 F_p0_)), (h_p0_settings, .inl (cI, 5, .inl f_p0_settings)), (h_p0_ideal, .inl (cI, 12, .inl f_p0_ideal))] H := hP
    have hD : va_D A [(h0, .inr (5, vL 11 F6)), (h_crew, .inl (cI, 4, .inl f_crew)), (h_yard, .inl (cI, 4, .inl f_yard)), (h_high, .inl (cI, 12, .inl f_high)), (p0, .inr (1, vL 18 F_p0_)), (h_p0_settings, .inl (cI, 5, .inl f_p0_settings)), (h_p0_ideal, .inl (cI, 12, .inl f_p0_ideal))] := hD
    refine lv_aload_n hx hb dX5_clear_31 rfl (lv_at hl 0 rfl) ?_
    have n7 : F1 0 = .ref h_crew := (get_ne eF1 (by decide) e_crew)
    have n8 : F2 0 = .ref h_crew := (get_ne eF2 (by decide) n7)
    have n9 : F5 0 = .ref h_crew := (get_ne eF5 (by decide) n8)
    have n10 : F6 0 = .ref h_crew := (get_ne eF6 (by decide) n9)
    refine get_f (D := D) (ci := 5) (v := .ref h_crew) (C := RX5) (T := TX5) (N := 11) hx hb hw inAX5 hown hK hP 0 rfl rfl 0 (by decide) (hw _ q_145) (fun _ h9 => h9) n10 dX5_clear_32 ?_
    refine lv_iconst (v := 0) hx hb dX5_clear_35 (by decide) ?_
    refine call_Sv (wr := [(h0, .inr (5, vL 11 F6)), (h_yard, .inl (cI, 4, .inl f_yard)), (h_high, .inl (cI, 12, .inl f_high)), (p0, .inr (1, vL 18 F_p0_)), (h_p0_settings, .inl (cI, 5, .inl f_p0_settings)), (h_p0_ideal, .inl (cI, 12, .inl f_p0_ideal))]) (As := [.ref h_crew, .int 0]) (rest := []) hx hb hml hown hw (m_J7_fill_53178_4 l D cI cJ cB cP cM cZ h_crew f_crew 0 _ ) wS_X5_52_J7_fill_53178 dX5_clear_36 hP hD hS hA [1] [0, 2, 3, 4, 5, 6] rfl rfl (by decide) (by decide) (by decide) GG.fb hG.at hl.1 rfl (Nat.le_of_ble_eq_true rfl) ⟨(Nat.le_of_ble_eq_true rfl), (Nat.le_of_ble_eq_true rfl)⟩ ⟨(Nat.le_of_ble_eq_true rfl), (Nat.le_of_ble_eq_true rfl)⟩ (fun u H locs hp hP hD hS => ?_)
    obtain ⟨g12, t13, rfl⟩ := hp
    have hP : va_P D vwCl [(h0, .inr (5, vL 11 F6)), (h_yard, .inl (cI, 4, .inl f_yard)), (h_high, .inl (cI, 12, .inl f_high)), (p0, .inr (1, vL 18 F_p0_)), (h_p0_settings, .inl (cI, 5, .inl f_p0_settings)), (h_p0_ideal, .inl (cI, 12, .inl f_p0_ideal)), (h_crew, .inl (cI, 4, .inl g12))] H := hP
    have hD : va_D A [(h0, .inr (5, vL 11 F6)), (h_yard, .inl (cI, 4, .inl f_yard)), (h_high, .inl (cI, 12, .inl f_high)), (p0, .inr (1, vL 18 F_p0_)), (h_p0_settings, .inl (cI, 5, .inl f_p0_settings)), (h_p0_ideal, .inl (cI, 12, .inl f_p0_ideal)), (h_crew, .inl (cI, 4, .inl g12))] := hD
    refine W.widen (k := 0) (n := 0) (Nat.le_of_ble_eq_true rfl) (Nat.le_of_ble_eq_true rfl) ?_
    have r14 : SG 0 3 0 11 g12 := FILK.sg t13 (by decide) ⟨by decide, by decide⟩
    refine lv_aload_n hx hb dX5_clear_39 rfl (lv_at hl 0 rfl) ?_
    have n15 : F1 1 = .ref h_yard := (get_ne eF1 (by decide) e_yard)
    have n16 : F2 1 = .ref h_yard := (get_ne eF2 (by decide) n15)
    have n17 : F5 1 = .ref h_yard := (get_ne eF5 (by decide) n16)
    have n18 : F6 1 = .ref h_yard := (get_ne eF6 (by decide) n17)
    refine get_f (D := D) (ci := 5) (v := .ref h_yard) (C := RX5) (T := TX5) (N := 11) hx hb hw inAX5 hown hK hP 0 rfl rfl 1 (by decide) (hw _ q_150) (fun _ h9 => h9) n18 dX5_clear_40 ?_
    refine lv_aload_n hx hb dX5_clear_43 rfl (lv_at hl 1 rfl) ?_
    refine get_f (D := D) (ci := 1) (v := .ref h_p0_settings) (C := RX1) (T := TX1) (N := 18) hx hb hw inAX1 hown hK hP 3 rfl rfl 1 (by decide) (hw _ q_318) (fun _ h9 => h9) e_p0_settings dX5_clear_44 ?_
    refine lv_iconst (v := 0) hx hb dX5_clear_47 (by decide) ?_
    refine iald_n hx hb hK hP 4 0 rfl rfl 0 rfl (Nat.le_of_ble_eq_true rfl) (Nat.le_of_ble_eq_true rfl) rfl dX5_clear_48 ?_
    refine lv_topi (fun v19 ev19 => ?_)
    refine lv_iconst (v := 1) hx hb dX5_clear_49 (by decide) ?_
    refine lv_isub hx hb dX5_clear_50 ?_
    refine lv_topi (fun v20 ev20 => ?_)
    refine call_Sv (wr := [(h0, .inr (5, vL 11 F6)), (h_high, .inl (cI, 12, .inl f_high)), (p0, .inr (1, vL 18 F_p0_)), (h_p0_settings, .inl (cI, 5, .inl f_p0_settings)), (h_p0_ideal, .inl (cI, 12, .inl f_p0_ideal)), (h_crew, .inl (cI, 4, .inl g12))]) (As := [.ref h_yard, .int v20]) (rest := []) hx hb hml hown hw (m_J7_fill_53178_4 l D cI cJ cB cP cM cZ h_yard f_yard v20 _ ) wS_X5_52_J7_fill_53178 dX5_clear_51 hP hD hS hA [1] [0, 2, 3, 4, 5, 6] rfl rfl (by decide) (by decide) (by decide) GG.fb hG.at hl.1 rfl (Nat.le_of_ble_eq_true rfl) ⟨(Nat.le_of_ble_eq_true rfl), (Nat.le_of_ble_eq_true rfl)⟩ ⟨(Nat.le_of_ble_eq_true rfl), (Nat.le_of_ble_eq_true rfl)⟩ (fun u H locs hp hP hD hS => ?_)
    obtain ⟨g22, t23, rfl⟩ := hp
    have hP : va_P D vwCl [(h0, .inr (5, vL 11 F6)), (h_high, .inl (cI, 12, .inl f_high)), (p0, .inr (1, vL 18 F_p0_)), (h_p0_settings, .inl (cI, 5, .inl f_p0_settings)), (h_p0_ideal, .inl (cI, 12, .inl f_p0_ideal)), (h_crew, .inl (cI, 4, .inl g12)), (h_yard, .inl (cI, 4, .inl g22))] H := hP
    have hD : va_D A [(h0, .inr (5, vL 11 F6)), (h_high, .inl (cI, 12, .inl f_high)), (p0, .inr (1, vL 18 F_p0_)), (h_p0_settings, .inl (cI, 5, .inl f_p0_settings)), (h_p0_ideal, .inl (cI, 12, .inl f_p0_ideal)), (h_crew, .inl (cI, 4, .inl g12)), (h_yard, .inl (cI, 4, .inl g22))] := hD
    refine W.widen (k := 0) (n := 0) (Nat.le_of_ble_eq_true rfl) (Nat.le_of_ble_eq_true rfl) ?_
    refine lv_aload_n hx hb dX5_clear_54 rfl (lv_at hl 1 rfl) ?_
    refine get_f (D := D) (ci := 1) (v := .ref h_p0_ideal) (C := RX1) (T := TX1) (N := 18) hx hb hw inAX1 hown hK hP 2 rfl rfl 8 (by decide) (hw _ q_343) (fun _ h9 => h9) e_p0_ideal dX5_clear_55 ?_
    refine lv_iconst (v := 0) hx hb dX5_clear_58 (by decide) ?_
    refine lv_aload_n hx hb dX5_clear_59 rfl (lv_at hl 0 rfl) ?_
    have n24 : F1 2 = .ref h_high := (get_ne eF1 (by decide) e_high)
    have n25 : F2 2 = .ref h_high := (get_ne eF2 (by decide) n24)
    have n26 : F5 2 = .ref h_high := (get_ne eF5 (by decide) n25)
    have n27 : F6 2 = .ref h_high := (get_ne eF6 (by decide) n26)
    refine get_f (D := D) (ci := 5) (v := .ref h_high) (C := RX5) (T := TX5) (N := 11) hx hb hw inAX5 hown hK hP 0 rfl rfl 2 (by decide) (hw _ q_154) (fun _ h9 => h9) n27 dX5_clear_60 ?_
    refine lv_iconst (v := 0) hx hb dX5_clear_63 (by decide) ?_
    refine lv_bipush (v := 12) hx hb dX5_clear_64 (by decide) ?_
    refine va_copyi (ty := .int) hx hb (hml.trans hl.1.symm) hown (hw _ q_437) (hw _ q_439) (hw _ q_438) (hw _ q_13) hK hP hD hS 4 1 0 0 rfl rfl rfl rfl rfl (by decide) (by decide) (by decide) (Nat.le_of_ble_eq_true rfl) (Nat.le_of_ble_eq_true rfl) (fun _ _ => rfl) (Nat.le_of_ble_eq_true rfl) (Nat.le_of_ble_eq_true rfl) dX5_clear_66 (fun H locs hP hD hS => ?_)
    obtain ⟨g28, eg28⟩ : ∃ z : Nat → Int32, va_cpy f_p0_ideal f_high 0 0 12 = z := ⟨_, rfl⟩
    have hP : va_P D vwCl [(h0, .inr (5, vL 11 F6)), (h_high, .inl (cI, 12, .inl g28)), (p0, .inr (1, vL 18 F_p0_)), (h_p0_settings, .inl (cI, 5, .inl f_p0_settings)), (h_p0_ideal, .inl (cI, 12, .inl f_p0_ideal)), (h_crew, .inl (cI, 4, .inl g12)), (h_yard, .inl (cI, 4, .inl g22))] H := eg28 ▸ hP
    have hD : va_D A [(h0, .inr (5, vL 11 F6)), (h_high, .inl (cI, 12, .inl g28)), (p0, .inr (1, vL 18 F_p0_)), (h_p0_settings, .inl (cI, 5, .inl f_p0_settings)), (h_p0_ideal, .inl (cI, 12, .inl f_p0_ideal)), (h_crew, .inl (cI, 4, .inl g12)), (h_yard, .inl (cI, 4, .inl g22))] := eg28 ▸ hD
    exact ret_v hx hb hr hlocks hS (hP.sub (ws' := [(h0, .inr (5, vL 11 F6)), (h_crew, .inl (cI, 4, .inl g12)), (h_yard, .inl (cI, 4, .inl g22)), (h_high, .inl (cI, 12, .inl g28)), (p0, .inr (1, vL 18 F_p0_)), (h_p0_settings, .inl (cI, 5, .inl f_p0_settings)), (h_p0_ideal, .inl (cI, 12, .inl f_p0_ideal))]) [0, 5, 6, 1, 2, 3, 4] rfl) (hD.sub (ws' := [(h0, .inr (5, vL 11 F6)), (h_crew, .inl (cI, 4, .inl g12)), (h_yard, .inl (cI, 4, .inl g22)), (h_high, .inl (cI, 12, .inl g28)), (p0, .inr (1, vL 18 F_p0_)), (h_p0_settings, .inl (cI, 5, .inl f_p0_settings)), (h_p0_ideal, .inl (cI, 12, .inl f_p0_ideal))]) [0, 5, 6, 1, 2, 3, 4] (by decide) rfl) dX5_clear_69 (Nat.le_of_ble_eq_true rfl) (Nat.le_of_ble_eq_true rfl) ⟨F6, (-1), g12, g22, g28, (SAME.up eF6 (SAME.up eF5 (SAME.up eF2 (SAME.up eF1 SAME.rf (by decide)) (by decide)) (by decide)) (by decide)), (get_ne eF6 (by decide) (get_ne eF5 (by decide) (get_ne eF2 (by decide) (get_eq eF1)))), (get_ne eF6 (by decide) (get_ne eF5 (by decide) (get_eq eF2))), (get_ne eF6 (by decide) (get_eq eF5)), ⟨by decide, by decide⟩, (get_eq eF6), r14, rfl⟩
  · have dc3 : 0 < x_p0_runners.toInt := nle_i (a := x_p0_runners.toInt) (b := 0) rfl rfl c3
    have k29 : 1 ≤ x_p0_runners.toInt ∧ x_p0_runners.toInt ≤ 6 := ⟨lo_lt dc3 (Int.le_refl _) (by decide), i_x_p0_runners.2⟩
    refine lv_iconst (v := 0) hx hb dX5_clear_18 (by decide) ?_
    refine lv_goto (tgt := 23) hx hb dX5_clear_19 (by decide) ?_
    refine put_f (D := D) (ci := 5) (v := .int 0) (ty := .int) (C := RX5) (T := TX5) (N := 11) hx hb hw inAX5 tyX5 tyX5_ok nmX5 hown hK hP hD hS 0 rfl rfl 5 (by decide) (hw _ q_164) (fun _ h9 => h9) rfl (by decide +kernel) rfl rfl dX5_clear_23 (fun H locs F30 eF30 hP hD hS => ?_)
    have hP : va_P D vwCl [(h0, .inr (5, vL 11 F30)), (h_crew, .inl (cI, 4, .inl f_crew)), (h_yard, .inl (cI, 4, .inl f_yard)), (h_high, .inl (cI, 12, .inl f_high)), (p0, .inr (1, vL 18 F_p0_)), (h_p0_settings, .inl (cI, 5, .inl f_p0_settings)), (h_p0_ideal, .inl (cI, 12, .inl f_p0_ideal))] H := hP
    have hD : va_D A [(h0, .inr (5, vL 11 F30)), (h_crew, .inl (cI, 4, .inl f_crew)), (h_yard, .inl (cI, 4, .inl f_yard)), (h_high, .inl (cI, 12, .inl f_high)), (p0, .inr (1, vL 18 F_p0_)), (h_p0_settings, .inl (cI, 5, .inl f_p0_settings)), (h_p0_ideal, .inl (cI, 12, .inl f_p0_ideal))] := hD
    refine lv_aload_n hx hb dX5_clear_26 rfl (lv_at hl 0 rfl) ?_
    refine lv_iconst (v := 1) hx hb dX5_clear_27 (by decide) ?_
    refine put_f (D := D) (ci := 5) (v := .int 1) (ty := .int) (C := RX5) (T := TX5) (N := 11) hx hb hw inAX5 tyX5 tyX5_ok nmX5 hown hK hP hD hS 0 rfl rfl 6 (by decide) (hw _ q_167) (fun _ h9 => h9) rfl (by decide +kernel) rfl rfl dX5_clear_28 (fun H locs F31 eF31 hP hD hS => ?_)
    have hP : va_P D vwCl [(h0, .inr (5, vL 11 F31)), (h_crew, .inl (cI, 4, .inl f_crew)), (h_yard, .inl (cI, 4, .inl f_yard)), (h_high, .inl (cI, 12, .inl f_high)), (p0, .inr (1, vL 18 F_p0_)), (h_p0_settings, .inl (cI, 5, .inl f_p0_settings)), (h_p0_ideal, .inl (cI, 12, .inl f_p0_ideal))] H := hP
    have hD : va_D A [(h0, .inr (5, vL 11 F31)), (h_crew, .inl (cI, 4, .inl f_crew)), (h_yard, .inl (cI, 4, .inl f_yard)), (h_high, .inl (cI, 12, .inl f_high)), (p0, .inr (1, vL 18 F_p0_)), (h_p0_settings, .inl (cI, 5, .inl f_p0_settings)), (h_p0_ideal, .inl (cI, 12, .inl f_p0_ideal))] := hD
    refine lv_aload_n hx hb dX5_clear_31 rfl (lv_at hl 0 rfl) ?_
    have n32 : F1 0 = .ref h_crew := (get_ne eF1 (by decide) e_crew)
    have n33 : F2 0 = .ref h_crew := (get_ne eF2 (by decide) n32)
    have n34 : F30 0 = .ref h_crew := (get_ne eF30 (by decide) n33)
    have n35 : F31 0 = .ref h_crew := (get_ne eF31 (by decide) n34)
    refine get_f (D := D) (ci := 5) (v := .ref h_crew) (C := RX5) (T := TX5) (N := 11) hx hb hw inAX5 hown hK hP 0 rfl rfl 0 (by decide) (hw _ q_145) (fun _ h9 => h9) n35 dX5_clear_32 ?_
    refine lv_iconst (v := 0) hx hb dX5_clear_35 (by decide) ?_
    refine call_Sv (wr := [(h0, .inr (5, vL 11 F31)), (h_yard, .inl (cI, 4, .inl f_yard)), (h_high, .inl (cI, 12, .inl f_high)), (p0, .inr (1, vL 18 F_p0_)), (h_p0_settings, .inl (cI, 5, .inl f_p0_settings)), (h_p0_ideal, .inl (cI, 12, .inl f_p0_ideal))]) (As := [.ref h_crew, .int 0]) (rest := []) hx hb hml hown hw (m_J7_fill_53178_4 l D cI cJ cB cP cM cZ h_crew f_crew 0 _ ) wS_X5_52_J7_fill_53178 dX5_clear_36 hP hD hS hA [1] [0, 2, 3, 4, 5, 6] rfl rfl (by decide) (by decide) (by decide) GG.fb hG.at hl.1 rfl (Nat.le_of_ble_eq_true rfl) ⟨(Nat.le_of_ble_eq_true rfl), (Nat.le_of_ble_eq_true rfl)⟩ ⟨(Nat.le_of_ble_eq_true rfl), (Nat.le_of_ble_eq_true rfl)⟩ (fun u H locs hp hP hD hS => ?_)
    obtain ⟨g37, t38, rfl⟩ := hp
    have hP : va_P D vwCl [(h0, .inr (5, vL 11 F31)), (h_yard, .inl (cI, 4, .inl f_yard)), (h_high, .inl (cI, 12, .inl f_high)), (p0, .inr (1, vL 18 F_p0_)), (h_p0_settings, .inl (cI, 5, .inl f_p0_settings)), (h_p0_ideal, .inl (cI, 12, .inl f_p0_ideal)), (h_crew, .inl (cI, 4, .inl g37))] H := hP
    have hD : va_D A [(h0, .inr (5, vL 11 F31)), (h_yard, .inl (cI, 4, .inl f_yard)), (h_high, .inl (cI, 12, .inl f_high)), (p0, .inr (1, vL 18 F_p0_)), (h_p0_settings, .inl (cI, 5, .inl f_p0_settings)), (h_p0_ideal, .inl (cI, 12, .inl f_p0_ideal)), (h_crew, .inl (cI, 4, .inl g37))] := hD
    refine W.widen (k := 0) (n := 0) (Nat.le_of_ble_eq_true rfl) (Nat.le_of_ble_eq_true rfl) ?_
    have r39 : SG 0 3 0 11 g37 := FILK.sg t38 (by decide) ⟨by decide, by decide⟩
    refine lv_aload_n hx hb dX5_clear_39 rfl (lv_at hl 0 rfl) ?_
    have n40 : F1 1 = .ref h_yard := (get_ne eF1 (by decide) e_yard)
    have n41 : F2 1 = .ref h_yard := (get_ne eF2 (by decide) n40)
    have n42 : F30 1 = .ref h_yard := (get_ne eF30 (by decide) n41)
    have n43 : F31 1 = .ref h_yard := (get_ne eF31 (by decide) n42)
    refine get_f (D := D) (ci := 5) (v := .ref h_yard) (C := RX5) (T := TX5) (N := 11) hx hb hw inAX5 hown hK hP 0 rfl rfl 1 (by decide) (hw _ q_150) (fun _ h9 => h9) n43 dX5_clear_40 ?_
    refine lv_aload_n hx hb dX5_clear_43 rfl (lv_at hl 1 rfl) ?_
    refine get_f (D := D) (ci := 1) (v := .ref h_p0_settings) (C := RX1) (T := TX1) (N := 18) hx hb hw inAX1 hown hK hP 3 rfl rfl 1 (by decide) (hw _ q_318) (fun _ h9 => h9) e_p0_settings dX5_clear_44 ?_
    refine lv_iconst (v := 0) hx hb dX5_clear_47 (by decide) ?_
    refine iald_n hx hb hK hP 4 0 rfl rfl 0 rfl (Nat.le_of_ble_eq_true rfl) (Nat.le_of_ble_eq_true rfl) rfl dX5_clear_48 ?_
    refine lv_topi (fun v44 ev44 => ?_)
    refine lv_iconst (v := 1) hx hb dX5_clear_49 (by decide) ?_
    refine lv_isub hx hb dX5_clear_50 ?_
    refine lv_topi (fun v45 ev45 => ?_)
    refine call_Sv (wr := [(h0, .inr (5, vL 11 F31)), (h_high, .inl (cI, 12, .inl f_high)), (p0, .inr (1, vL 18 F_p0_)), (h_p0_settings, .inl (cI, 5, .inl f_p0_settings)), (h_p0_ideal, .inl (cI, 12, .inl f_p0_ideal)), (h_crew, .inl (cI, 4, .inl g37))]) (As := [.ref h_yard, .int v45]) (rest := []) hx hb hml hown hw (m_J7_fill_53178_4 l D cI cJ cB cP cM cZ h_yard f_yard v45 _ ) wS_X5_52_J7_fill_53178 dX5_clear_51 hP hD hS hA [1] [0, 2, 3, 4, 5, 6] rfl rfl (by decide) (by decide) (by decide) GG.fb hG.at hl.1 rfl (Nat.le_of_ble_eq_true rfl) ⟨(Nat.le_of_ble_eq_true rfl), (Nat.le_of_ble_eq_true rfl)⟩ ⟨(Nat.le_of_ble_eq_true rfl), (Nat.le_of_ble_eq_true rfl)⟩ (fun u H locs hp hP hD hS => ?_)
    obtain ⟨g47, t48, rfl⟩ := hp
    have hP : va_P D vwCl [(h0, .inr (5, vL 11 F31)), (h_high, .inl (cI, 12, .inl f_high)), (p0, .inr (1, vL 18 F_p0_)), (h_p0_settings, .inl (cI, 5, .inl f_p0_settings)), (h_p0_ideal, .inl (cI, 12, .inl f_p0_ideal)), (h_crew, .inl (cI, 4, .inl g37)), (h_yard, .inl (cI, 4, .inl g47))] H := hP
    have hD : va_D A [(h0, .inr (5, vL 11 F31)), (h_high, .inl (cI, 12, .inl f_high)), (p0, .inr (1, vL 18 F_p0_)), (h_p0_settings, .inl (cI, 5, .inl f_p0_settings)), (h_p0_ideal, .inl (cI, 12, .inl f_p0_ideal)), (h_crew, .inl (cI, 4, .inl g37)), (h_yard, .inl (cI, 4, .inl g47))] := hD
    refine W.widen (k := 0) (n := 0) (Nat.le_of_ble_eq_true rfl) (Nat.le_of_ble_eq_true rfl) ?_
    refine lv_aload_n hx hb dX5_clear_54 rfl (lv_at hl 1 rfl) ?_
    refine get_f (D := D) (ci := 1) (v := .ref h_p0_ideal) (C := RX1) (T := TX1) (N := 18) hx hb hw inAX1 hown hK hP 2 rfl rfl 8 (by decide) (hw _ q_343) (fun _ h9 => h9) e_p0_ideal dX5_clear_55 ?_
    refine lv_iconst (v := 0) hx hb dX5_clear_58 (by decide) ?_
    refine lv_aload_n hx hb dX5_clear_59 rfl (lv_at hl 0 rfl) ?_
    have n49 : F1 2 = .ref h_high := (get_ne eF1 (by decide) e_high)
    have n50 : F2 2 = .ref h_high := (get_ne eF2 (by decide) n49)
    have n51 : F30 2 = .ref h_high := (get_ne eF30 (by decide) n50)
    have n52 : F31 2 = .ref h_high := (get_ne eF31 (by decide) n51)
    refine get_f (D := D) (ci := 5) (v := .ref h_high) (C := RX5) (T := TX5) (N := 11) hx hb hw inAX5 hown hK hP 0 rfl rfl 2 (by decide) (hw _ q_154) (fun _ h9 => h9) n52 dX5_clear_60 ?_
    refine lv_iconst (v := 0) hx hb dX5_clear_63 (by decide) ?_
    refine lv_bipush (v := 12) hx hb dX5_clear_64 (by decide) ?_
    refine va_copyi (ty := .int) hx hb (hml.trans hl.1.symm) hown (hw _ q_437) (hw _ q_439) (hw _ q_438) (hw _ q_13) hK hP hD hS 4 1 0 0 rfl rfl rfl rfl rfl (by decide) (by decide) (by decide) (Nat.le_of_ble_eq_true rfl) (Nat.le_of_ble_eq_true rfl) (fun _ _ => rfl) (Nat.le_of_ble_eq_true rfl) (Nat.le_of_ble_eq_true rfl) dX5_clear_66 (fun H locs hP hD hS => ?_)
    obtain ⟨g53, eg53⟩ : ∃ z : Nat → Int32, va_cpy f_p0_ideal f_high 0 0 12 = z := ⟨_, rfl⟩
    have hP : va_P D vwCl [(h0, .inr (5, vL 11 F31)), (h_high, .inl (cI, 12, .inl g53)), (p0, .inr (1, vL 18 F_p0_)), (h_p0_settings, .inl (cI, 5, .inl f_p0_settings)), (h_p0_ideal, .inl (cI, 12, .inl f_p0_ideal)), (h_crew, .inl (cI, 4, .inl g37)), (h_yard, .inl (cI, 4, .inl g47))] H := eg53 ▸ hP
    have hD : va_D A [(h0, .inr (5, vL 11 F31)), (h_high, .inl (cI, 12, .inl g53)), (p0, .inr (1, vL 18 F_p0_)), (h_p0_settings, .inl (cI, 5, .inl f_p0_settings)), (h_p0_ideal, .inl (cI, 12, .inl f_p0_ideal)), (h_crew, .inl (cI, 4, .inl g37)), (h_yard, .inl (cI, 4, .inl g47))] := eg53 ▸ hD
    exact ret_v hx hb hr hlocks hS (hP.sub (ws' := [(h0, .inr (5, vL 11 F31)), (h_crew, .inl (cI, 4, .inl g37)), (h_yard, .inl (cI, 4, .inl g47)), (h_high, .inl (cI, 12, .inl g53)), (p0, .inr (1, vL 18 F_p0_)), (h_p0_settings, .inl (cI, 5, .inl f_p0_settings)), (h_p0_ideal, .inl (cI, 12, .inl f_p0_ideal))]) [0, 5, 6, 1, 2, 3, 4] rfl) (hD.sub (ws' := [(h0, .inr (5, vL 11 F31)), (h_crew, .inl (cI, 4, .inl g37)), (h_yard, .inl (cI, 4, .inl g47)), (h_high, .inl (cI, 12, .inl g53)), (p0, .inr (1, vL 18 F_p0_)), (h_p0_settings, .inl (cI, 5, .inl f_p0_settings)), (h_p0_ideal, .inl (cI, 12, .inl f_p0_ideal))]) [0, 5, 6, 1, 2, 3, 4] (by decide) rfl) dX5_clear_69 (Nat.le_of_ble_eq_true rfl) (Nat.le_of_ble_eq_true rfl) ⟨F31, 0, g37, g47, g53, (SAME.up eF31 (SAME.up eF30 (SAME.up eF2 (SAME.up eF1 SAME.rf (by decide)) (by decide)) (by decide)) (by decide)), (get_ne eF31 (by decide) (get_ne eF30 (by decide) (get_ne eF2 (by decide) (get_eq eF1)))), (get_ne eF31 (by decide) (get_ne eF30 (by decide) (get_eq eF2))), (get_ne eF31 (by decide) (get_eq eF30)), ⟨by decide, by decide⟩, (get_eq eF31), r39, rfl⟩
set_option maxHeartbeats 4000000 in
set_option maxRecDepth 100000 in
theorem m_X5_copyFrom (l : Launch) (D : va_G) (cI cJ cB cP cM cZ : ClassId) (h0 : Nat) (h_crew : Nat) (h_yard : Nat) (h_high : Nat) (p0 : Nat) (h_p0_crew : Nat) (h_p0_yard : Nat) (h_p0_high : Nat) (Fh : Nat → Value) (f_crew : Nat → Int32) (f_yard : Nat → Int32) (f_high : Nat → Int32) (F_p0_ : Nat → Value) (x_p0_crewed : Int32) (x_p0_lead : Int32) (x_p0_runner : Int32) (x_p0_number : Int32) (f_p0_crew : Nat → Int32) (f_p0_yard : Nat → Int32) (f_p0_high : Nat → Int32) (sz : Nat) (e_crew : Fh 0 = .ref h_crew) (e_yard : Fh 1 = .ref h_yard) (e_high : Fh 2 = .ref h_high) (s_crew_0 : SG 0 3 0 11 f_crew) (e_p0_crew : F_p0_ 0 = .ref h_p0_crew) (e_p0_yard : F_p0_ 1 = .ref h_p0_yard) (e_p0_high : F_p0_ 2 = .ref h_p0_high) (e_p0_crewed : F_p0_ 3 = .int x_p0_crewed) (i_x_p0_crewed : IR 0 1 x_p0_crewed) (e_p0_lead : F_p0_ 4 = .int x_p0_lead) (e_p0_runner : F_p0_ 5 = .int x_p0_runner) (e_p0_number : F_p0_ 6 = .int x_p0_number) (s_p0_crew_0 : SG 0 3 0 11 f_p0_crew) : CV l yX5_copyFrom cX5_copyFrom 2 none { frames := 1, cells := 0, slots := 0, locals := 80 } (GG D cI cJ cB cP cM cZ) D [(h0, .inr (5, vL 11 Fh)), (h_crew, .inl (cI, 4, .inl f_crew)), (h_yard, .inl (cI, 4, .inl f_yard)), (h_high, .inl (cI, 12, .inl f_high)), (p0, .inr (5, vL 11 F_p0_)), (h_p0_crew, .inl (cI, 4, .inl f_p0_crew)), (h_p0_yard, .inl (cI, 4, .inl f_p0_yard)), (h_p0_high, .inl (cI, 12, .inl f_p0_high))] sz [.ref h0, .ref p0] (fun (u : va_W) => ∃ (Gh : Nat → Value) (g_crew : Nat → Int32) (g_yard : Nat → Int32) (g_high : Nat → Int32), SAME [3, 4, 5, 6] Fh Gh ∧ Gh 3 = .int x_p0_crewed ∧ Gh 4 = .int x_p0_lead ∧ Gh 5 = .int x_p0_runner ∧ Gh 6 = .int x_p0_number ∧ SG 0 3 0 11 g_crew ∧ u = [(h0, .inr (5, vL 11 Gh)), (h_crew, .inl (cI, 4, .inl g_crew)), (h_yard, .inl (cI, 4, .inl g_yard)), (h_high, .inl (cI, 12, .inl g_high)), (p0, .inr (5, vL 11 F_p0_)), (h_p0_crew, .inl (cI, 4, .inl f_p0_crew)), (h_p0_yard, .inl (cI, 4, .inl f_p0_yard)), (h_p0_high, .inl (cI, 12, .inl f_p0_high))]) := by
  refine CV_mk (by decide) (Nat.le_of_ble_eq_true rfl) ?_
  intro p e s m below meth c A ls E hAe hG hsz hP hD hA hS hl
  obtain ⟨hx, hb, hr, hw, hown, hlocks, hml, hnm⟩ := E
  have hK := hG.1
  have i_x_p0_crewed : 0 ≤ x_p0_crewed.toInt ∧ x_p0_crewed.toInt ≤ 1 := i_x_p0_crewed
  have hl : lv_has ls 2 [(0, .ref h0), (1, .ref p0)] := hl
  refine lv_aload_n hx hb dX5_copyFrom_0 rfl (lv_at hl 0 rfl) ?_
  refine lv_aload_n hx hb dX5_copyFrom_1 rfl (lv_at hl 1 rfl) ?_
  refine get_f (D := D) (ci := 5) (v := .int x_p0_crewed) (C := RX5) (T := TX5) (N := 11) hx hb hw inAX5 hown hK hP 4 rfl rfl 3 (by decide) (hw _ q_157) (fun _ h9 => h9) e_p0_crewed dX5_copyFrom_2 ?_
  refine put_f (D := D) (ci := 5) (v := .int x_p0_crewed) (ty := .boolean) (C := RX5) (T := TX5) (N := 11) hx hb hw inAX5 tyX5 tyX5_ok nmX5 hown hK hP hD hS 0 rfl rfl 3 (by decide) (hw _ q_157) (fun _ h9 => h9) rfl (by decide +kernel) (nz_i i_x_p0_crewed.1 i_x_p0_crewed.2) (fz_i i_x_p0_crewed.1 i_x_p0_crewed.2) dX5_copyFrom_5 (fun H locs F1 eF1 hP hD hS => ?_)
  have hP : va_P D vwCl [(h0, .inr (5, vL 11 F1)), (h_crew, .inl (cI, 4, .inl f_crew)), (h_yard, .inl (cI, 4, .inl f_yard)), (h_high, .inl (cI, 12, .inl f_high)), (p0, .inr (5, vL 11 F_p0_)), (h_p0_crew, .inl (cI, 4, .inl f_p0_crew)), (h_p0_yard, .inl (cI, 4, .inl f_p0_yard)), (h_p0_high, .inl (cI, 12, .inl f_p0_high))] H := hP
  have hD : va_D A [(h0, .inr (5, vL 11 F1)), (h_crew, .inl (cI, 4, .inl f_crew)), (h_yard, .inl (cI, 4, .inl f_yard)), (h_high, .inl (cI, 12, .inl f_high)), (p0, .inr (5, vL 11 F_p0_)), (h_p0_crew, .inl (cI, 4, .inl f_p0_crew)), (h_p0_yard, .inl (cI, 4, .inl f_p0_yard)), (h_p0_high, .inl (cI, 12, .inl f_p0_high))] := hD
  refine lv_aload_n hx hb dX5_copyFrom_8 rfl (lv_at hl 0 rfl) ?_
  refine lv_aload_n hx hb dX5_copyFrom_9 rfl (lv_at hl 1 rfl) ?_
  refine get_f (D := D) (ci := 5) (v := .int x_p0_lead) (C := RX5) (T := TX5) (N := 11) hx hb hw inAX5 hown hK hP 4 rfl rfl 4 (by decide) (hw _ q_160) (fun _ h9 => h9) e_p0_lead dX5_copyFrom_10 ?_
  refine put_f (D := D) (ci := 5) (v := .int x_p0_lead) (ty := .int) (C := RX5) (T := TX5) (N := 11) hx hb hw inAX5 tyX5 tyX5_ok nmX5 hown hK hP hD hS 0 rfl rfl 4 (by decide) (hw _ q_160) (fun _ h9 => h9) rfl (by decide +kernel) rfl rfl dX5_copyFrom_13 (fun H locs F2 eF2 hP hD hS => ?_)
  have hP : va_P D vwCl [(h0, .inr (5, vL 11 F2)), (h_crew, .inl (cI, 4, .inl f_crew)), (h_yard, .inl (cI, 4, .inl f_yard)), (h_high, .inl (cI, 12, .inl f_high)), (p0, .inr (5, vL 11 F_p0_)), (h_p0_crew, .inl (cI, 4, .inl f_p0_crew)), (h_p0_yard, .inl (cI, 4, .inl f_p0_yard)), (h_p0_high, .inl (cI, 12, .inl f_p0_high))] H := hP
  have hD : va_D A [(h0, .inr (5, vL 11 F2)), (h_crew, .inl (cI, 4, .inl f_crew)), (h_yard, .inl (cI, 4, .inl f_yard)), (h_high, .inl (cI, 12, .inl f_high)), (p0, .inr (5, vL 11 F_p0_)), (h_p0_crew, .inl (cI, 4, .inl f_p0_crew)), (h_p0_yard, .inl (cI, 4, .inl f_p0_yard)), (h_p0_high, .inl (cI, 12, .inl f_p0_high))] := hD
  refine lv_aload_n hx hb dX5_copyFrom_16 rfl (lv_at hl 0 rfl) ?_
  refine lv_aload_n hx hb dX5_copyFrom_17 rfl (lv_at hl 1 rfl) ?_
  refine get_f (D := D) (ci := 5) (v := .int x_p0_runner) (C := RX5) (T := TX5) (N := 11) hx hb hw inAX5 hown hK hP 4 rfl rfl 5 (by decide) (hw _ q_164) (fun _ h9 => h9) e_p0_runner dX5_copyFrom_18 ?_
  refine put_f (D := D) (ci := 5) (v := .int x_p0_runner) (ty := .int) (C := RX5) (T := TX5) (N := 11) hx hb hw inAX5 tyX5 tyX5_ok nmX5 hown hK hP hD hS 0 rfl rfl 5 (by decide) (hw _ q_164) (fun _ h9 => h9) rfl (by decide +kernel) rfl rfl dX5_copyFrom_21 (fun H locs F3 eF3 hP hD hS => ?_)
  have hP : va_P D vwCl [(h0, .inr (5, vL 11 F3)), (h_crew, .inl (cI, 4, .inl f_crew)), (h_yard, .inl (cI, 4, .inl f_yard)), (h_high, .inl (cI, 12, .inl f_high)), (p0, .inr (5, vL 11 F_p0_)), (h_p0_crew, .inl (cI, 4, .inl f_p0_crew)), (h_p0_yard, .inl (cI, 4, .inl f_p0_yard)), (h_p0_high, .inl (cI, 12, .inl f_p0_high))] H := hP
  have hD : va_D A [(h0, .inr (5, vL 11 F3)), (h_crew, .inl (cI, 4, .inl f_crew)), (h_yard, .inl (cI, 4, .inl f_yard)), (h_high, .inl (cI, 12, .inl f_high)), (p0, .inr (5, vL 11 F_p0_)), (h_p0_crew, .inl (cI, 4, .inl f_p0_crew)), (h_p0_yard, .inl (cI, 4, .inl f_p0_yard)), (h_p0_high, .inl (cI, 12, .inl f_p0_high))] := hD
  refine lv_aload_n hx hb dX5_copyFrom_24 rfl (lv_at hl 0 rfl) ?_
  refine lv_aload_n hx hb dX5_copyFrom_25 rfl (lv_at hl 1 rfl) ?_
  refine get_f (D := D) (ci := 5) (v := .int x_p0_number) (C := RX5) (T := TX5) (N := 11) hx hb hw inAX5 hown hK hP 4 rfl rfl 6 (by decide) (hw _ q_167) (fun _ h9 => h9) e_p0_number dX5_copyFrom_26 ?_
  refine put_f (D := D) (ci := 5) (v := .int x_p0_number) (ty := .int) (C := RX5) (T := TX5) (N := 11) hx hb hw inAX5 tyX5 tyX5_ok nmX5 hown hK hP hD hS 0 rfl rfl 6 (by decide) (hw _ q_167) (fun _ h9 => h9) rfl (by decide +kernel) rfl rfl dX5_copyFrom_29 (fun H locs F4 eF4 hP hD hS => ?_)
  have hP : va_P D vwCl [(h0, .inr (5, vL 11 F4)), (h_crew, .inl (cI, 4, .inl f_crew)), (h_yard, .inl (cI, 4, .inl f_yard)), (h_high, .inl (cI, 12, .inl f_high)), (p0, .inr (5, vL 11 F_p0_)), (h_p0_crew, .inl (cI, 4, .inl f_p0_crew)), (h_p0_yard, .inl (cI, 4, .inl f_p0_yard)), (h_p0_high, .inl (cI, 12, .inl f_p0_high))] H := hP
  have hD : va_D A [(h0, .inr (5, vL 11 F4)), (h_crew, .inl (cI, 4, .inl f_crew)), (h_yard, .inl (cI, 4, .inl f_yard)), (h_high, .inl (cI, 12, .inl f_high)), (p0, .inr (5, vL 11 F_p0_)), (h_p0_crew, .inl (cI, 4, .inl f_p0_crew)), (h_p0_yard, .inl (cI, 4, .inl f_p0_yard)), (h_p0_high, .inl (cI, 12, .inl f_p0_high))] := hD
  refine lv_aload_n hx hb dX5_copyFrom_32 rfl (lv_at hl 1 rfl) ?_
  refine get_f (D := D) (ci := 5) (v := .ref h_p0_crew) (C := RX5) (T := TX5) (N := 11) hx hb hw inAX5 hown hK hP 4 rfl rfl 0 (by decide) (hw _ q_145) (fun _ h9 => h9) e_p0_crew dX5_copyFrom_33 ?_
  refine lv_iconst (v := 0) hx hb dX5_copyFrom_36 (by decide) ?_
  refine lv_aload_n hx hb dX5_copyFrom_37 rfl (lv_at hl 0 rfl) ?_
  have n5 : F1 0 = .ref h_crew := (get_ne eF1 (by decide) e_crew)
  have n6 : F2 0 = .ref h_crew := (get_ne eF2 (by decide) n5)
  have n7 : F3 0 = .ref h_crew := (get_ne eF3 (by decide) n6)
  have n8 : F4 0 = .ref h_crew := (get_ne eF4 (by decide) n7)
  refine get_f (D := D) (ci := 5) (v := .ref h_crew) (C := RX5) (T := TX5) (N := 11) hx hb hw inAX5 hown hK hP 0 rfl rfl 0 (by decide) (hw _ q_145) (fun _ h9 => h9) n8 dX5_copyFrom_38 ?_
  refine lv_iconst (v := 0) hx hb dX5_copyFrom_41 (by decide) ?_
  refine lv_iconst (v := 4) hx hb dX5_copyFrom_42 (by decide) ?_
  refine va_copyi (ty := .int) hx hb (hml.trans hl.1.symm) hown (hw _ q_437) (hw _ q_439) (hw _ q_438) (hw _ q_13) hK hP hD hS 5 1 0 0 rfl rfl rfl rfl rfl (by decide) (by decide) (by decide) (Nat.le_of_ble_eq_true rfl) (Nat.le_of_ble_eq_true rfl) (fun _ _ => rfl) (Nat.le_of_ble_eq_true rfl) (Nat.le_of_ble_eq_true rfl) dX5_copyFrom_43 (fun H locs hP hD hS => ?_)
  obtain ⟨g9, eg9⟩ : ∃ z : Nat → Int32, va_cpy f_p0_crew f_crew 0 0 4 = z := ⟨_, rfl⟩
  have r10 : SG 0 3 0 11 g9 := by rw [← eg9]; exact SG.cp s_p0_crew_0 (by decide)
  have hP : va_P D vwCl [(h0, .inr (5, vL 11 F4)), (h_crew, .inl (cI, 4, .inl g9)), (h_yard, .inl (cI, 4, .inl f_yard)), (h_high, .inl (cI, 12, .inl f_high)), (p0, .inr (5, vL 11 F_p0_)), (h_p0_crew, .inl (cI, 4, .inl f_p0_crew)), (h_p0_yard, .inl (cI, 4, .inl f_p0_yard)), (h_p0_high, .inl (cI, 12, .inl f_p0_high))] H := eg9 ▸ hP
  have hD : va_D A [(h0, .inr (5, vL 11 F4)), (h_crew, .inl (cI, 4, .inl g9)), (h_yard, .inl (cI, 4, .inl f_yard)), (h_high, .inl (cI, 12, .inl f_high)), (p0, .inr (5, vL 11 F_p0_)), (h_p0_crew, .inl (cI, 4, .inl f_p0_crew)), (h_p0_yard, .inl (cI, 4, .inl f_p0_yard)), (h_p0_high, .inl (cI, 12, .inl f_p0_high))] := eg9 ▸ hD
  refine lv_aload_n hx hb dX5_copyFrom_46 rfl (lv_at hl 1 rfl) ?_
  refine get_f (D := D) (ci := 5) (v := .ref h_p0_yard) (C := RX5) (T := TX5) (N := 11) hx hb hw inAX5 hown hK hP 4 rfl rfl 1 (by decide) (hw _ q_150) (fun _ h9 => h9) e_p0_yard dX5_copyFrom_47 ?_
  refine lv_iconst (v := 0) hx hb dX5_copyFrom_50 (by decide) ?_
  refine lv_aload_n hx hb dX5_copyFrom_51 rfl (lv_at hl 0 rfl) ?_
  have n11 : F1 1 = .ref h_yard := (get_ne eF1 (by decide) e_yard)
  have n12 : F2 1 = .ref h_yard := (get_ne eF2 (by decide) n11)
  have n13 : F3 1 = .ref h_yard := (get_ne eF3 (by decide) n12)
  have n14 : F4 1 = .ref h_yard := (get_ne eF4 (by decide) n13)
  refine get_f (D := D) (ci := 5) (v := .ref h_yard) (C := RX5) (T := TX5) (N := 11) hx hb hw inAX5 hown hK hP 0 rfl rfl 1 (by decide) (hw _ q_150) (fun _ h9 => h9) n14 dX5_copyFrom_52 ?_
  refine lv_iconst (v := 0) hx hb dX5_copyFrom_55 (by decide) ?_
  refine lv_iconst (v := 4) hx hb dX5_copyFrom_56 (by decide) ?_
  refine va_copyi (ty := .int) hx hb (hml.trans hl.1.symm) hown (hw _ q_437) (hw _ q_439) (hw _ q_438) (hw _ q_13) hK hP hD hS 6 2 0 0 rfl rfl rfl rfl rfl (by decide) (by decide) (by decide) (Nat.le_of_ble_eq_true rfl) (Nat.le_of_ble_eq_true rfl) (fun _ _ => rfl) (Nat.le_of_ble_eq_true rfl) (Nat.le_of_ble_eq_true rfl) dX5_copyFrom_57 (fun H locs hP hD hS => ?_)
  obtain ⟨g15, eg15⟩ : ∃ z : Nat → Int32, va_cpy f_p0_yard f_yard 0 0 4 = z := ⟨_, rfl⟩
  have hP : va_P D vwCl [(h0, .inr (5, vL 11 F4)), (h_crew, .inl (cI, 4, .inl g9)), (h_yard, .inl (cI, 4, .inl g15)), (h_high, .inl (cI, 12, .inl f_high)), (p0, .inr (5, vL 11 F_p0_)), (h_p0_crew, .inl (cI, 4, .inl f_p0_crew)), (h_p0_yard, .inl (cI, 4, .inl f_p0_yard)), (h_p0_high, .inl (cI, 12, .inl f_p0_high))] H := eg15 ▸ hP
  have hD : va_D A [(h0, .inr (5, vL 11 F4)), (h_crew, .inl (cI, 4, .inl g9)), (h_yard, .inl (cI, 4, .inl g15)), (h_high, .inl (cI, 12, .inl f_high)), (p0, .inr (5, vL 11 F_p0_)), (h_p0_crew, .inl (cI, 4, .inl f_p0_crew)), (h_p0_yard, .inl (cI, 4, .inl f_p0_yard)), (h_p0_high, .inl (cI, 12, .inl f_p0_high))] := eg15 ▸ hD
  refine lv_aload_n hx hb dX5_copyFrom_60 rfl (lv_at hl 1 rfl) ?_
  refine get_f (D := D) (ci := 5) (v := .ref h_p0_high) (C := RX5) (T := TX5) (N := 11) hx hb hw inAX5 hown hK hP 4 rfl rfl 2 (by decide) (hw _ q_154) (fun _ h9 => h9) e_p0_high dX5_copyFrom_61 ?_
  refine lv_iconst (v := 0) hx hb dX5_copyFrom_64 (by decide) ?_
  refine lv_aload_n hx hb dX5_copyFrom_65 rfl (lv_at hl 0 rfl) ?_
  have n16 : F1 2 = .ref h_high := (get_ne eF1 (by decide) e_high)
  have n17 : F2 2 = .ref h_high := (get_ne eF2 (by decide) n16)
  have n18 : F3 2 = .ref h_high := (get_ne eF3 (by decide) n17)
  have n19 : F4 2 = .ref h_high := (get_ne eF4 (by decide) n18)
  refine get_f (D := D) (ci := 5) (v := .ref h_high) (C := RX5) (T := TX5) (N := 11) hx hb hw inAX5 hown hK hP 0 rfl rfl 2 (by decide) (hw _ q_154) (fun _ h9 => h9) n19 dX5_copyFrom_66 ?_
  refine lv_iconst (v := 0) hx hb dX5_copyFrom_69 (by decide) ?_
  refine lv_bipush (v := 12) hx hb dX5_copyFrom_70 (by decide) ?_
  refine va_copyi (ty := .int) hx hb (hml.trans hl.1.symm) hown (hw _ q_437) (hw _ q_439) (hw _ q_438) (hw _ q_13) hK hP hD hS 7 3 0 0 rfl rfl rfl rfl rfl (by decide) (by decide) (by decide) (Nat.le_of_ble_eq_true rfl) (Nat.le_of_ble_eq_true rfl) (fun _ _ => rfl) (Nat.le_of_ble_eq_true rfl) (Nat.le_of_ble_eq_true rfl) dX5_copyFrom_72 (fun H locs hP hD hS => ?_)
  obtain ⟨g20, eg20⟩ : ∃ z : Nat → Int32, va_cpy f_p0_high f_high 0 0 12 = z := ⟨_, rfl⟩
  have hP : va_P D vwCl [(h0, .inr (5, vL 11 F4)), (h_crew, .inl (cI, 4, .inl g9)), (h_yard, .inl (cI, 4, .inl g15)), (h_high, .inl (cI, 12, .inl g20)), (p0, .inr (5, vL 11 F_p0_)), (h_p0_crew, .inl (cI, 4, .inl f_p0_crew)), (h_p0_yard, .inl (cI, 4, .inl f_p0_yard)), (h_p0_high, .inl (cI, 12, .inl f_p0_high))] H := eg20 ▸ hP
  have hD : va_D A [(h0, .inr (5, vL 11 F4)), (h_crew, .inl (cI, 4, .inl g9)), (h_yard, .inl (cI, 4, .inl g15)), (h_high, .inl (cI, 12, .inl g20)), (p0, .inr (5, vL 11 F_p0_)), (h_p0_crew, .inl (cI, 4, .inl f_p0_crew)), (h_p0_yard, .inl (cI, 4, .inl f_p0_yard)), (h_p0_high, .inl (cI, 12, .inl f_p0_high))] := eg20 ▸ hD
  exact ret_v hx hb hr hlocks hS hP hD dX5_copyFrom_75 (Nat.le_of_ble_eq_true rfl) (Nat.le_of_ble_eq_true rfl) ⟨F4, g9, g15, g20, (SAME.up eF4 (SAME.up eF3 (SAME.up eF2 (SAME.up eF1 SAME.rf (by decide)) (by decide)) (by decide)) (by decide)), (get_ne eF4 (by decide) (get_ne eF3 (by decide) (get_ne eF2 (by decide) (get_eq eF1)))), (get_ne eF4 (by decide) (get_ne eF3 (by decide) (get_eq eF2))), (get_ne eF4 (by decide) (get_eq eF3)), (get_eq eF4), r10, rfl⟩
set_option maxHeartbeats 4000000 in
set_option maxRecDepth 100000 in
theorem m_X5_putCrew (l : Launch) (D : va_G) (cI cJ cB cP cM cZ : ClassId) (h0 : Nat) (h_crew : Nat) (Fh : Nat → Value) (f_crew : Nat → Int32) (p0 : Int32) (p1 : Int32) (p2 : Int32) (p3 : Int32) (sz : Nat) (e_crew : Fh 0 = .ref h_crew) (s_crew_0 : SG 0 3 0 11 f_crew) (i_p0 : IR 0 11 p0) (i_p1 : IR 0 11 p1) (i_p2 : IR 0 11 p2) (i_p3 : IR 0 11 p3) : CV l yX5_putCrew cX5_putCrew 5 none { frames := 0, cells := 0, slots := 0, locals := 0 } (GG D cI cJ cB cP cM cZ) D [(h0, .inr (5, vL 11 Fh)), (h_crew, .inl (cI, 4, .inl f_crew))] sz [.ref h0, .int p0, .int p1, .int p2, .int p3] (fun (u : va_W) => ∃ (Gh : Nat → Value) (g_crew : Nat → Int32), SAME [3] Fh Gh ∧ Gh 3 = .int 1 ∧ SG 0 3 0 11 g_crew ∧ u = [(h0, .inr (5, vL 11 Gh)), (h_crew, .inl (cI, 4, .inl g_crew))]) := by
  refine CV_mk (by decide) (Nat.le_of_ble_eq_true rfl) ?_
  intro p e s m below meth c A ls E hAe hG hsz hP hD hA hS hl
  obtain ⟨hx, hb, hr, hw, hown, hlocks, hml, hnm⟩ := E
  have hK := hG.1
  have i_p0 : 0 ≤ p0.toInt ∧ p0.toInt ≤ 11 := i_p0
  have i_p1 : 0 ≤ p1.toInt ∧ p1.toInt ≤ 11 := i_p1
  have i_p2 : 0 ≤ p2.toInt ∧ p2.toInt ≤ 11 := i_p2
  have i_p3 : 0 ≤ p3.toInt ∧ p3.toInt ≤ 11 := i_p3
  have hl : lv_has ls 5 [(0, .ref h0), (1, .int p0), (2, .int p1), (3, .int p2), (4, .int p3)] := hl
  refine lv_aload_n hx hb dX5_putCrew_0 rfl (lv_at hl 0 rfl) ?_
  refine lv_iconst (v := 1) hx hb dX5_putCrew_1 (by decide) ?_
  refine put_f (D := D) (ci := 5) (v := .int 1) (ty := .boolean) (C := RX5) (T := TX5) (N := 11) hx hb hw inAX5 tyX5 tyX5_ok nmX5 hown hK hP hD hS 0 rfl rfl 3 (by decide) (hw _ q_157) (fun _ h9 => h9) rfl (by decide +kernel) rfl rfl dX5_putCrew_2 (fun H locs F1 eF1 hP hD hS => ?_)
  have hP : va_P D vwCl [(h0, .inr (5, vL 11 F1)), (h_crew, .inl (cI, 4, .inl f_crew))] H := hP
  have hD : va_D A [(h0, .inr (5, vL 11 F1)), (h_crew, .inl (cI, 4, .inl f_crew))] := hD
  refine lv_aload_n hx hb dX5_putCrew_5 rfl (lv_at hl 0 rfl) ?_
  have n2 : F1 0 = .ref h_crew := (get_ne eF1 (by decide) e_crew)
  refine get_f (D := D) (ci := 5) (v := .ref h_crew) (C := RX5) (T := TX5) (N := 11) hx hb hw inAX5 hown hK hP 0 rfl rfl 0 (by decide) (hw _ q_145) (fun _ h9 => h9) n2 dX5_putCrew_6 ?_
  refine lv_iconst (v := 0) hx hb dX5_putCrew_9 (by decide) ?_
  refine lv_iload_n hx hb dX5_putCrew_10 rfl (lv_at hl 1 rfl) ?_
  obtain ⟨g3, eg3⟩ : ∃ z : Nat → Int32, upd f_crew 0 p0 = z := ⟨_, rfl⟩
  have r4 : SG 0 3 0 11 g3 := by rw [← eg3]; exact s_crew_0.upN (Or.inr (Or.inr (ir_wk i_p0 (by decide) (by decide))))
  refine iast_n hx hb hK hP hD hS 1 0 rfl rfl 0 rfl (Nat.le_of_ble_eq_true rfl) (Nat.le_of_ble_eq_true rfl) eg3 dX5_putCrew_11 (fun H locs hP hD hS => ?_)
  have hP : va_P D vwCl [(h0, .inr (5, vL 11 F1)), (h_crew, .inl (cI, 4, .inl g3))] H := hP
  have hD : va_D A [(h0, .inr (5, vL 11 F1)), (h_crew, .inl (cI, 4, .inl g3))] := hD
  refine lv_aload_n hx hb dX5_putCrew_12 rfl (lv_at hl 0 rfl) ?_
  refine get_f (D := D) (ci := 5) (v := .ref h_crew) (C := RX5) (T := TX5) (N := 11) hx hb hw inAX5 hown hK hP 0 rfl rfl 0 (by decide) (hw _ q_145) (fun _ h9 => h9) n2 dX5_putCrew_13 ?_
  refine lv_iconst (v := 1) hx hb dX5_putCrew_16 (by decide) ?_
  refine lv_iload_n hx hb dX5_putCrew_17 rfl (lv_at hl 2 rfl) ?_
  obtain ⟨g5, eg5⟩ : ∃ z : Nat → Int32, upd g3 1 p1 = z := ⟨_, rfl⟩
  have r6 : SG 0 3 0 11 g5 := by rw [← eg5]; exact r4.upN (Or.inr (Or.inr (ir_wk i_p1 (by decide) (by decide))))
  refine iast_n hx hb hK hP hD hS 1 0 rfl rfl 1 rfl (Nat.le_of_ble_eq_true rfl) (Nat.le_of_ble_eq_true rfl) eg5 dX5_putCrew_18 (fun H locs hP hD hS => ?_)
  have hP : va_P D vwCl [(h0, .inr (5, vL 11 F1)), (h_crew, .inl (cI, 4, .inl g5))] H := hP
  have hD : va_D A [(h0, .inr (5, vL 11 F1)), (h_crew, .inl (cI, 4, .inl g5))] := hD
  refine lv_aload_n hx hb dX5_putCrew_19 rfl (lv_at hl 0 rfl) ?_
  refine get_f (D := D) (ci := 5) (v := .ref h_crew) (C := RX5) (T := TX5) (N := 11) hx hb hw inAX5 hown hK hP 0 rfl rfl 0 (by decide) (hw _ q_145) (fun _ h9 => h9) n2 dX5_putCrew_20 ?_
  refine lv_iconst (v := 2) hx hb dX5_putCrew_23 (by decide) ?_
  refine lv_iload_n hx hb dX5_putCrew_24 rfl (lv_at hl 3 rfl) ?_
  obtain ⟨g7, eg7⟩ : ∃ z : Nat → Int32, upd g5 2 p2 = z := ⟨_, rfl⟩
  have r8 : SG 0 3 0 11 g7 := by rw [← eg7]; exact r6.upN (Or.inr (Or.inr (ir_wk i_p2 (by decide) (by decide))))
  refine iast_n hx hb hK hP hD hS 1 0 rfl rfl 2 rfl (Nat.le_of_ble_eq_true rfl) (Nat.le_of_ble_eq_true rfl) eg7 dX5_putCrew_25 (fun H locs hP hD hS => ?_)
  have hP : va_P D vwCl [(h0, .inr (5, vL 11 F1)), (h_crew, .inl (cI, 4, .inl g7))] H := hP
  have hD : va_D A [(h0, .inr (5, vL 11 F1)), (h_crew, .inl (cI, 4, .inl g7))] := hD
  refine lv_aload_n hx hb dX5_putCrew_26 rfl (lv_at hl 0 rfl) ?_
  refine get_f (D := D) (ci := 5) (v := .ref h_crew) (C := RX5) (T := TX5) (N := 11) hx hb hw inAX5 hown hK hP 0 rfl rfl 0 (by decide) (hw _ q_145) (fun _ h9 => h9) n2 dX5_putCrew_27 ?_
  refine lv_iconst (v := 3) hx hb dX5_putCrew_30 (by decide) ?_
  refine lv_iload hx hb dX5_putCrew_31 (lv_at hl 4 rfl) ?_
  obtain ⟨g9, eg9⟩ : ∃ z : Nat → Int32, upd g7 3 p3 = z := ⟨_, rfl⟩
  have r10 : SG 0 3 0 11 g9 := by rw [← eg9]; exact r8.upN (Or.inr (Or.inr (ir_wk i_p3 (by decide) (by decide))))
  refine iast_n hx hb hK hP hD hS 1 0 rfl rfl 3 rfl (Nat.le_of_ble_eq_true rfl) (Nat.le_of_ble_eq_true rfl) eg9 dX5_putCrew_33 (fun H locs hP hD hS => ?_)
  have hP : va_P D vwCl [(h0, .inr (5, vL 11 F1)), (h_crew, .inl (cI, 4, .inl g9))] H := hP
  have hD : va_D A [(h0, .inr (5, vL 11 F1)), (h_crew, .inl (cI, 4, .inl g9))] := hD
  exact ret_v hx hb hr hlocks hS hP hD dX5_putCrew_34 (Nat.le_of_ble_eq_true rfl) (Nat.le_of_ble_eq_true rfl) ⟨F1, g9, (SAME.up eF1 SAME.rf (by decide)), (get_eq eF1), r10, rfl⟩
set_option maxHeartbeats 4000000 in
set_option maxRecDepth 100000 in
theorem m_X5_placeAmong (l : Launch) (D : va_G) (cI cJ cB cP cM cZ : ClassId) (h0 : Nat) (h_crew : Nat) (Fh : Nat → Value) (f_crew : Nat → Int32) (p0 : Int32) (p1 : Int32) (sz : Nat) (e_crew : Fh 0 = .ref h_crew) (s_crew_0 : SG 0 3 0 11 f_crew) : CI l yX5_placeAmong cX5_placeAmong 4 (some .int) { frames := 0, cells := 0, slots := 0, locals := 0 } (GG D cI cJ cB cP cM cZ) D [(h0, .inr (5, vL 11 Fh)), (h_crew, .inl (cI, 4, .inl f_crew))] sz [.ref h0, .int p0, .int p1] (fun (r : Int32) (u : va_W) => IR (-1) 3 r ∧ u = [(h0, .inr (5, vL 11 Fh)), (h_crew, .inl (cI, 4, .inl f_crew))]) := by
  refine CI_mk (by decide) (Nat.le_of_ble_eq_true rfl) ?_
  intro p e s m below meth c A ls E hAe hG hsz hP hD hA hS hl
  obtain ⟨hx, hb, hr, hw, hown, hlocks, hml, hnm⟩ := E
  have hK := hG.1
  have hl : lv_has ls 4 [(0, .ref h0), (1, .int p0), (2, .int p1)] := hl
  refine lv_iconst (v := 0) hx hb dX5_placeAmong_0 (by decide) ?_
  refine lv_istore_n (lv' := [(3, .int 0), (0, .ref h0), (1, .int p0), (2, .int p1)]) hx hb dX5_placeAmong_1 rfl hl (by decide) rfl (fun ls hl => ?_)
  refine mloop (α := (Int32)) (nL := 4) (D := D) (A := A) (H0 := s.heap) (fun a => (4 - a.toInt).toNat) (fun a => IR 0 4 a) (fun a => [(h0, .inr (5, vL 11 Fh)), (h_crew, .inl (cI, 4, .inl f_crew))]) (fun a => [(3, .int a), (0, .ref h0), (1, .int p0), (2, .int p1)]) (fun H locs ls => W p l e ({ frames := 0, cells := 0, slots := 0, locals := 0 } : Room) s m [.ref h0, .int p0, .int p1].toArray below meth c H locs 0 0 (MQ below (va_Qi (fun (r : Int32) (u : va_W) => IR (-1) 3 r ∧ u = [(h0, .inr (5, vL 11 Fh)), (h_crew, .inl (cI, 4, .inl f_crew))]) (PO D A) A) [.ref h0, .int p0, .int p1].toArray s 0 0 A) (F0 m 2 ls [])) ?_ (0) ⟨by decide, by decide⟩ _ _ _ hP hD hS hl
  rintro u1 i2 ih H locs ls hP hD hS hl
  have i2 : 0 ≤ u1.toInt ∧ u1.toInt ≤ 4 := i2
  have hP : va_P D vwCl [(h0, .inr (5, vL 11 Fh)), (h_crew, .inl (cI, 4, .inl f_crew))] H := hP
  have hD : va_D A [(h0, .inr (5, vL 11 Fh)), (h_crew, .inl (cI, 4, .inl f_crew))] := hD
  have hl : lv_has ls 4 [(3, .int u1), (0, .ref h0), (1, .int p0), (2, .int p1)] := hl
  refine lv_iload_n hx hb dX5_placeAmong_2 rfl (lv_at hl 0 rfl) ?_
  refine lv_iload_n hx hb dX5_placeAmong_3 rfl (lv_at hl 3 rfl) ?_
  refine lv_icmp_ge (tgt := 30) hx hb dX5_placeAmong_4 (by decide) (fun c3 => ?_) (fun c3 => ?_)
  · have dc3 : p1.toInt ≤ u1.toInt := le_i (a := p1.toInt) (b := u1.toInt) rfl rfl c3
    have k4 : (-2147483648) ≤ p1.toInt ∧ p1.toInt ≤ 4 := ⟨(ir_any _).1, Int.le_trans dc3 i2.2⟩
    refine lv_iconst (v := (-1)) hx hb dX5_placeAmong_30 (by decide) ?_
    exact ret_i (v := (-1)) hx hb hr hlocks hS hP hD dX5_placeAmong_31 rfl (Nat.le_of_ble_eq_true rfl) (Nat.le_of_ble_eq_true rfl) ⟨⟨by decide, by decide⟩, rfl⟩
  · have dc3 : u1.toInt < p1.toInt := nle_i (a := p1.toInt) (b := u1.toInt) rfl rfl c3
    have k5 : 1 ≤ p1.toInt ∧ p1.toInt ≤ 2147483647 := ⟨lo_lt dc3 i2.1 (by decide), (ir_any _).2⟩
    refine lv_iload_n hx hb dX5_placeAmong_7 rfl (lv_at hl 0 rfl) ?_
    refine lv_iconst (v := 4) hx hb dX5_placeAmong_8 (by decide) ?_
    refine lv_icmp_ge (tgt := 30) hx hb dX5_placeAmong_9 (by decide) (fun c6 => ?_) (fun c6 => ?_)
    · have dc6 : 4 ≤ u1.toInt := le_i (a := 4) (b := u1.toInt) rfl rfl c6
      have k7 : 4 ≤ u1.toInt ∧ u1.toInt ≤ 4 := ⟨Int.le_trans (Int.le_refl _) dc6, i2.2⟩
      refine lv_iconst (v := (-1)) hx hb dX5_placeAmong_30 (by decide) ?_
      exact ret_i (v := (-1)) hx hb hr hlocks hS hP hD dX5_placeAmong_31 rfl (Nat.le_of_ble_eq_true rfl) (Nat.le_of_ble_eq_true rfl) ⟨⟨by decide, by decide⟩, rfl⟩
    · have dc6 : u1.toInt < 4 := nle_i (a := 4) (b := u1.toInt) rfl rfl c6
      have k8 : 0 ≤ u1.toInt ∧ u1.toInt ≤ 3 := ⟨i2.1, up_lt dc6 (Int.le_refl _) (by decide)⟩
      refine lv_aload_n hx hb dX5_placeAmong_12 rfl (lv_at hl 1 rfl) ?_
      refine get_f (D := D) (ci := 5) (v := .ref h_crew) (C := RX5) (T := TX5) (N := 11) hx hb hw inAX5 hown hK hP 0 rfl rfl 0 (by decide) (hw _ q_145) (fun _ h9 => h9) e_crew dX5_placeAmong_13 ?_
      refine lv_iload_n hx hb dX5_placeAmong_16 rfl (lv_at hl 0 rfl) ?_
      refine va_iald hx hb hK hP 1 0 rfl rfl (ix_k k8 (by decide) (by decide)) dX5_placeAmong_17 ?_
      refine lv_topi (fun v9 ev9 => ?_)
      have k10 : 0 ≤ v9.toInt ∧ v9.toInt ≤ 11 := by rw [ev9]; exact s_crew_0.at _ (Int.le_trans (by decide) k8.1) (Int.le_trans k8.2 (by decide))
      refine lv_iload_n hx hb dX5_placeAmong_18 rfl (lv_at hl 2 rfl) ?_
      refine lv_icmp_ne (tgt := 24) hx hb dX5_placeAmong_19 (by decide) (fun c11 => ?_) (fun c11 => ?_)
      · have dc11 : v9.toInt ≠ p0.toInt := ne_i (a := v9.toInt) (b := p0.toInt) rfl rfl c11
        obtain ⟨v12, ev12⟩ : ∃ z : Int32, z = u1 + 1 := ⟨_, rfl⟩
        have bv12 : v12.toInt = u1.toInt + 1 := by rw [ev12]; exact add_k rfl rfl k8 ⟨Int.le_refl _, Int.le_refl _⟩ (by decide)
        have k13 : 1 ≤ v12.toInt ∧ v12.toInt ≤ 4 := add_r bv12 k8 ⟨Int.le_refl _, Int.le_refl _⟩ (by decide)
        refine lv_iinc (v := v12) (lv' := [(3, .int v12), (0, .ref h0), (1, .int p0), (2, .int p1)]) hx hb dX5_placeAmong_24 hl (k := 0) rfl (by rw [ev12]; rfl) (by decide) rfl (fun ls hl => ?_)
        refine lv_goto (tgt := 2) hx hb dX5_placeAmong_27 (by decide) ?_
        exact ih (v12) (ir_wk k13 (by decide) (by decide)) (by show (4 - v12.toInt).toNat < (4 - u1.toInt).toNat; omega) _ _ _ hP hD hS (lv_sub hl [0, 1, 2, 3] rfl)
      · have dc11 : v9.toInt = p0.toInt := eq_i (a := v9.toInt) (b := p0.toInt) rfl rfl c11
        have k14 : 0 ≤ p0.toInt ∧ p0.toInt ≤ 11 := ⟨Int.le_trans k10.1 (Int.le_of_eq dc11), Int.le_trans (Int.le_of_eq dc11.symm) k10.2⟩
        refine lv_iload_n hx hb dX5_placeAmong_22 rfl (lv_at hl 0 rfl) ?_
        exact ret_i (v := u1) hx hb hr hlocks hS hP hD dX5_placeAmong_23 rfl (Nat.le_of_ble_eq_true rfl) (Nat.le_of_ble_eq_true rfl) ⟨(ir_wk k8 (by decide) (by decide)), rfl⟩
set_option maxHeartbeats 4000000 in
set_option maxRecDepth 100000 in
theorem m_X5_placeOf (l : Launch) (D : va_G) (cI cJ cB cP cM cZ : ClassId) (h0 : Nat) (h_crew : Nat) (Fh : Nat → Value) (x_crewed : Int32) (f_crew : Nat → Int32) (p0 : Int32) (sz : Nat) (e_crew : Fh 0 = .ref h_crew) (e_crewed : Fh 3 = .int x_crewed) (i_x_crewed : IR 0 1 x_crewed) (s_crew_0 : SG 0 3 0 11 f_crew) : CI l yX5_placeOf cX5_placeOf 2 (some .int) { frames := 1, cells := 0, slots := 0, locals := 23 } (GG D cI cJ cB cP cM cZ) D [(h0, .inr (5, vL 11 Fh)), (h_crew, .inl (cI, 4, .inl f_crew))] sz [.ref h0, .int p0] (fun (r : Int32) (u : va_W) => IR (-1) 3 r ∧ u = [(h0, .inr (5, vL 11 Fh)), (h_crew, .inl (cI, 4, .inl f_crew))]) := by
  refine CI_mk (by decide) (Nat.le_of_ble_eq_true rfl) ?_
  intro p e s m below meth c A ls E hAe hG hsz hP hD hA hS hl
  obtain ⟨hx, hb, hr, hw, hown, hlocks, hml, hnm⟩ := E
  have hK := hG.1
  have i_x_crewed : 0 ≤ x_crewed.toInt ∧ x_crewed.toInt ≤ 1 := i_x_crewed
  have hl : lv_has ls 2 [(0, .ref h0), (1, .int p0)] := hl
  refine lv_aload_n hx hb dX5_placeOf_0 rfl (lv_at hl 0 rfl) ?_
  refine get_f (D := D) (ci := 5) (v := .int x_crewed) (C := RX5) (T := TX5) (N := 11) hx hb hw inAX5 hown hK hP 0 rfl rfl 3 (by decide) (hw _ q_157) (fun _ h9 => h9) e_crewed dX5_placeOf_1 ?_
  refine lv_if_eq (tgt := 16) hx hb dX5_placeOf_4 (by decide) (fun c1 => ?_) (fun c1 => ?_)
  · have dc1 : x_crewed.toInt = 0 := eq_i (a := x_crewed.toInt) (b := 0) rfl rfl c1
    have k2 : 0 ≤ x_crewed.toInt ∧ x_crewed.toInt ≤ 0 := ⟨i_x_crewed.1, Int.le_trans (Int.le_of_eq dc1) (Int.le_refl _)⟩
    refine lv_iconst (v := (-1)) hx hb dX5_placeOf_16 (by decide) ?_
    exact ret_i (v := (-1)) hx hb hr hlocks hS hP hD dX5_placeOf_17 rfl (Nat.le_of_ble_eq_true rfl) (Nat.le_of_ble_eq_true rfl) ⟨⟨by decide, by decide⟩, rfl⟩
  · have dc1 : x_crewed.toInt ≠ 0 := ne_i (a := x_crewed.toInt) (b := 0) rfl rfl c1
    have k3 : 1 ≤ x_crewed.toInt ∧ x_crewed.toInt ≤ 1 := ⟨ne_lo dc1 i_x_crewed.1 ⟨Int.le_refl _, Int.le_refl _⟩ (by decide), i_x_crewed.2⟩
    refine lv_aload_n hx hb dX5_placeOf_7 rfl (lv_at hl 0 rfl) ?_
    refine lv_iload_n hx hb dX5_placeOf_8 rfl (lv_at hl 1 rfl) ?_
    refine lv_iconst (v := 4) hx hb dX5_placeOf_9 (by decide) ?_
    refine call_Vi (wr := []) (As := [.int p0, .int 4]) (rest := []) hx hb hml hown hw (m_X5_placeAmong l D cI cJ cB cP cM cZ h0 h_crew Fh f_crew p0 4 _ e_crew s_crew_0) wV_X5_70_X5_placeAmong dX5_placeOf_10 hK hP hD hS hA [0, 1] [] rfl rfl (by decide) (by decide) (by decide) 0 5 rfl rfl GG.fb hG.at hl.1 rfl (Nat.le_of_ble_eq_true rfl) ⟨(Nat.le_of_ble_eq_true rfl), (Nat.le_of_ble_eq_true rfl)⟩ ⟨(Nat.le_of_ble_eq_true rfl), (Nat.le_of_ble_eq_true rfl)⟩ (fun r4 u H locs hp hP hD hS => ?_)
    obtain ⟨t5, rfl⟩ := hp
    have hP : va_P D vwCl [(h0, .inr (5, vL 11 Fh)), (h_crew, .inl (cI, 4, .inl f_crew))] H := hP
    have hD : va_D A [(h0, .inr (5, vL 11 Fh)), (h_crew, .inl (cI, 4, .inl f_crew))] := hD
    refine W.widen (k := 0) (n := 0) (Nat.le_of_ble_eq_true rfl) (Nat.le_of_ble_eq_true rfl) ?_
    refine lv_goto (tgt := 17) hx hb dX5_placeOf_13 (by decide) ?_
    exact ret_i (v := r4) hx hb hr hlocks hS hP hD dX5_placeOf_17 rfl (Nat.le_of_ble_eq_true rfl) (Nat.le_of_ble_eq_true rfl) ⟨t5, rfl⟩
set_option maxHeartbeats 4000000 in
set_option maxRecDepth 100000 in
theorem m_X6_takeNumber (l : Launch) (D : va_G) (cI cJ cB cP cM cZ : ClassId) (h0 : Nat) (h_bytes : Nat) (h_wordNames : Nat) (Fh : Nat → Value) (x_length : Int32) (x_kind : Int32) (x_place : Int32) (x_value : Int32) (x_name : Int64) (x_at : Int32) (x_mostBytes : Int32) (f_bytes : Nat → Int32) (f_wordNames : Nat → Int64) (p0 : Int32) (p1 : Int32) (sz : Nat) (e_bytes : Fh 0 = .ref h_bytes) (e_length : Fh 1 = .int x_length) (i_x_length : IR 0 940 x_length) (e_kind : Fh 2 = .int x_kind) (e_place : Fh 3 = .int x_place) (e_value : Fh 4 = .int x_value) (e_name : Fh 5 = .long x_name) (e_wordNames : Fh 9 = .ref h_wordNames) (e_at : Fh 10 = .int x_at) (i_x_at : IR 0 940 x_at) (e_mostBytes : Fh 11 = .int x_mostBytes) : CI l yX6_takeNumber cX6_takeNumber 3 (some .boolean) { frames := 2, cells := 0, slots := 0, locals := 43 } (GG D cI cJ cB cP cM cZ) D [(h0, .inr (6, vL 12 Fh)), (h_bytes, .inl (cB, 940, .inl f_bytes)), (h_wordNames, .inl (cJ, 23, .inr (.inl f_wordNames)))] sz [.ref h0, .int p0, .int p1] (fun (r : Int32) (u : va_W) => (∃ (Gh : Nat → Value) (y_faultKind : Int32), SAME [7, 8] Fh Gh ∧ Gh 7 = .int y_faultKind ∧ IR 1 2 y_faultKind ∧ Gh 8 = .int x_place ∧ r = 0 ∧ u = [(h0, .inr (6, vL 12 Gh)), (h_bytes, .inl (cB, 940, .inl f_bytes)), (h_wordNames, .inl (cJ, 23, .inr (.inl f_wordNames)))]) ∨ (∃ (Gh : Nat → Value) (y_kind : Int32) (y_place : Int32) (y_value : Int32) (y_name : Int64) (y_at : Int32), SAME [2, 3, 4, 5, 6, 10] Fh Gh ∧ Gh 2 = .int y_kind ∧ Gh 3 = .int y_place ∧ IR (-2147483648) 940 y_place ∧ Gh 4 = .int y_value ∧ Gh 5 = .long y_name ∧ Gh 6 = .int x_value ∧ Gh 10 = .int y_at ∧ IR 0 940 y_at ∧ x_kind.toInt = 3 ∧ p0.toInt ≤ x_value.toInt ∧ x_value.toInt ≤ p1.toInt ∧ r = 1 ∧ u = [(h0, .inr (6, vL 12 Gh)), (h_bytes, .inl (cB, 940, .inl f_bytes)), (h_wordNames, .inl (cJ, 23, .inr (.inl f_wordNames)))])) := by
  refine CI_mk (by decide) (Nat.le_of_ble_eq_true rfl) ?_
  intro p e s m below meth c A ls E hAe hG hsz hP hD hA hS hl
  obtain ⟨hx, hb, hr, hw, hown, hlocks, hml, hnm⟩ := E
  have hK := hG.1
  have i_x_length : 0 ≤ x_length.toInt ∧ x_length.toInt ≤ 940 := i_x_length
  have i_x_at : 0 ≤ x_at.toInt ∧ x_at.toInt ≤ 940 := i_x_at
  have hl : lv_has ls 3 [(0, .ref h0), (1, .int p0), (2, .int p1)] := hl
  refine lv_aload_n hx hb dX6_takeNumber_0 rfl (lv_at hl 0 rfl) ?_
  refine lv_iload_n hx hb dX6_takeNumber_1 rfl (lv_at hl 1 rfl) ?_
  refine lv_iload_n hx hb dX6_takeNumber_2 rfl (lv_at hl 2 rfl) ?_
  refine call_Vi (wr := [(h_bytes, .inl (cB, 940, .inl f_bytes)), (h_wordNames, .inl (cJ, 23, .inr (.inl f_wordNames)))]) (As := [.int p0, .int p1]) (rest := []) hx hb hml hown hw (m_X6_isNumberWithin l D cI cJ cB cP cM cZ h0 Fh x_kind x_place x_value p0 p1 _ e_kind e_place e_value) wV_X6_83_X6_isNumberWithin dX6_takeNumber_3 hK hP hD hS hA [0] [1, 2] rfl rfl (by decide) (by decide) (by decide) 0 6 rfl rfl GG.fb hG.at hl.1 rfl (Nat.le_of_ble_eq_true rfl) ⟨(Nat.le_of_ble_eq_true rfl), (Nat.le_of_ble_eq_true rfl)⟩ ⟨(Nat.le_of_ble_eq_true rfl), (Nat.le_of_ble_eq_true rfl)⟩ (fun r1 u H locs hp hP hD hS => ?_)
  rcases hp with ⟨F2, y3, t4, t5, t6, t7, rfl, rfl⟩ | ⟨t8, t9, t10, rfl, rfl⟩
  · have hP : va_P D vwCl [(h_bytes, .inl (cB, 940, .inl f_bytes)), (h_wordNames, .inl (cJ, 23, .inr (.inl f_wordNames))), (h0, .inr (6, vL 12 F2))] H := hP
    have hD : va_D A [(h_bytes, .inl (cB, 940, .inl f_bytes)), (h_wordNames, .inl (cJ, 23, .inr (.inl f_wordNames))), (h0, .inr (6, vL 12 F2))] := hD
    refine W.widen (k := 0) (n := 0) (Nat.le_of_ble_eq_true rfl) (Nat.le_of_ble_eq_true rfl) ?_
    refine lv_if_ne (tgt := 11) hx hb dX6_takeNumber_6 (by decide) (fun g => absurd (by decide) g) (fun _ => ?_)
    refine lv_iconst (v := 0) hx hb dX6_takeNumber_9 (by decide) ?_
    exact ret_i (v := 0) hx hb hr hlocks hS (hP.sub (ws' := [(h0, .inr (6, vL 12 F2)), (h_bytes, .inl (cB, 940, .inl f_bytes)), (h_wordNames, .inl (cJ, 23, .inr (.inl f_wordNames)))]) [2, 0, 1] rfl) (hD.sub (ws' := [(h0, .inr (6, vL 12 F2)), (h_bytes, .inl (cB, 940, .inl f_bytes)), (h_wordNames, .inl (cJ, 23, .inr (.inl f_wordNames)))]) [2, 0, 1] (by decide) rfl) dX6_takeNumber_10 rfl (Nat.le_of_ble_eq_true rfl) (Nat.le_of_ble_eq_true rfl) (Or.inl ⟨F2, y3, (SAME.tr SAME.rf t4 (by decide)), t5, t6, t7, rfl, rfl⟩)
  · have hP : va_P D vwCl [(h_bytes, .inl (cB, 940, .inl f_bytes)), (h_wordNames, .inl (cJ, 23, .inr (.inl f_wordNames))), (h0, .inr (6, vL 12 Fh))] H := hP
    have hD : va_D A [(h_bytes, .inl (cB, 940, .inl f_bytes)), (h_wordNames, .inl (cJ, 23, .inr (.inl f_wordNames))), (h0, .inr (6, vL 12 Fh))] := hD
    refine W.widen (k := 0) (n := 0) (Nat.le_of_ble_eq_true rfl) (Nat.le_of_ble_eq_true rfl) ?_
    have k11 : 3 ≤ x_kind.toInt ∧ x_kind.toInt ≤ 3 := ⟨Int.le_trans (Int.le_refl _) (Int.le_of_eq t8.symm), Int.le_trans (Int.le_of_eq t8) (Int.le_refl _)⟩
    refine lv_if_ne (tgt := 11) hx hb dX6_takeNumber_6 (by decide) (fun _ => ?_) (fun g => absurd g (by decide))
    refine lv_aload_n hx hb dX6_takeNumber_11 rfl (lv_at hl 0 rfl) ?_
    refine lv_aload_n hx hb dX6_takeNumber_12 rfl (lv_at hl 0 rfl) ?_
    refine get_f (D := D) (ci := 6) (v := .int x_value) (C := RX6) (T := TX6) (N := 12) hx hb hw inAX6 hown hK hP 2 rfl rfl 4 (by decide) (hw _ q_97) (fun _ h9 => h9) e_value dX6_takeNumber_13 ?_
    refine put_f (D := D) (ci := 6) (v := .int x_value) (ty := .int) (C := RX6) (T := TX6) (N := 12) hx hb hw inAX6 tyX6 tyX6_ok nmX6 hown hK hP hD hS 2 rfl rfl 6 (by decide) (hw _ q_102) (fun _ h9 => h9) rfl (by decide +kernel) rfl rfl dX6_takeNumber_16 (fun H locs F12 eF12 hP hD hS => ?_)
    have hP : va_P D vwCl [(h_bytes, .inl (cB, 940, .inl f_bytes)), (h_wordNames, .inl (cJ, 23, .inr (.inl f_wordNames))), (h0, .inr (6, vL 12 F12))] H := hP
    have hD : va_D A [(h_bytes, .inl (cB, 940, .inl f_bytes)), (h_wordNames, .inl (cJ, 23, .inr (.inl f_wordNames))), (h0, .inr (6, vL 12 F12))] := hD
    refine lv_aload_n hx hb dX6_takeNumber_19 rfl (lv_at hl 0 rfl) ?_
    have n13 : F12 0 = .ref h_bytes := (get_ne eF12 (by decide) e_bytes)
    have n14 : F12 1 = .int x_length := (get_ne eF12 (by decide) e_length)
    have n15 : F12 4 = .int x_value := (get_ne eF12 (by decide) e_value)
    have n16 : F12 5 = .long x_name := (get_ne eF12 (by decide) e_name)
    have n17 : F12 9 = .ref h_wordNames := (get_ne eF12 (by decide) e_wordNames)
    have n18 : F12 10 = .int x_at := (get_ne eF12 (by decide) e_at)
    have n19 : F12 11 = .int x_mostBytes := (get_ne eF12 (by decide) e_mostBytes)
    refine call_Vv (wr := []) (As := []) (rest := []) hx hb hml hown hw (m_X6_advance l D cI cJ cB cP cM cZ h0 h_bytes h_wordNames F12 x_length x_value x_name x_at x_mostBytes f_bytes f_wordNames _ n13 n14 i_x_length n15 n16 n17 n18 i_x_at n19) wV_X6_66_X6_advance dX6_takeNumber_20 hK hP hD hS hA [2, 0, 1] [] rfl rfl (by decide) (by decide) (by decide) 0 6 rfl rfl GG.fb hG.at hl.1 rfl (Nat.le_of_ble_eq_true rfl) ⟨(Nat.le_of_ble_eq_true rfl), (Nat.le_of_ble_eq_true rfl)⟩ ⟨(Nat.le_of_ble_eq_true rfl), (Nat.le_of_ble_eq_true rfl)⟩ (fun u H locs hp hP hD hS => ?_)
    obtain ⟨F21, y22, y23, y24, y25, y26, t27, t28, t29, t30, t31, t32, t33, t34, rfl⟩ := hp
    have hP : va_P D vwCl [(h0, .inr (6, vL 12 F21)), (h_bytes, .inl (cB, 940, .inl f_bytes)), (h_wordNames, .inl (cJ, 23, .inr (.inl f_wordNames)))] H := hP
    have hD : va_D A [(h0, .inr (6, vL 12 F21)), (h_bytes, .inl (cB, 940, .inl f_bytes)), (h_wordNames, .inl (cJ, 23, .inr (.inl f_wordNames)))] := hD
    refine W.widen (k := 0) (n := 0) (Nat.le_of_ble_eq_true rfl) (Nat.le_of_ble_eq_true rfl) ?_
    refine lv_iconst (v := 1) hx hb dX6_takeNumber_23 (by decide) ?_
    exact ret_i (v := 1) hx hb hr hlocks hS hP hD dX6_takeNumber_24 rfl (Nat.le_of_ble_eq_true rfl) (Nat.le_of_ble_eq_true rfl) (Or.inr ⟨F21, y22, y23, y24, y25, y26, (SAME.tr (SAME.up eF12 SAME.rf (by decide)) t27 (by decide)), t28, t29, t30, t31, t32, (SAME.at t27 (by decide) (get_eq eF12)), t33, t34, t8, t9, t10, rfl, rfl⟩)
set_option maxHeartbeats 4000000 in
set_option maxRecDepth 100000 in
theorem m_X5_readJump (l : Launch) (D : va_G) (cI cJ cB cP cM cZ : ClassId) (h0 : Nat) (h_crew : Nat) (h_yard : Nat) (p0 : Nat) (h_p0_bytes : Nat) (h_p0_wordNames : Nat) (p1 : Nat) (h_p1_settings : Nat) (h_p1_manName : Nat) (Fh : Nat → Value) (x_crewed : Int32) (x_jumpsTold : Int32) (f_crew : Nat → Int32) (f_yard : Nat → Int32) (F_p0_ : Nat → Value) (x_p0_length : Int32) (x_p0_kind : Int32) (x_p0_place : Int32) (x_p0_value : Int32) (x_p0_name : Int64) (x_p0_number : Int32) (x_p0_faultKind : Int32) (x_p0_faultPlace : Int32) (x_p0_at : Int32) (x_p0_mostBytes : Int32) (f_p0_bytes : Nat → Int32) (f_p0_wordNames : Nat → Int64) (F_p1_ : Nat → Value) (x_p1_men : Int32) (f_p1_settings : Nat → Int32) (f_p1_manName : Nat → Int64) (sz : Nat) (e_crew : Fh 0 = .ref h_crew) (e_yard : Fh 1 = .ref h_yard) (e_crewed : Fh 3 = .int x_crewed) (i_x_crewed : IR 0 1 x_crewed) (e_jumpsTold : Fh 9 = .int x_jumpsTold) (s_crew_0 : SG 0 3 0 11 f_crew) (e_p0_bytes : F_p0_ 0 = .ref h_p0_bytes) (e_p0_length : F_p0_ 1 = .int x_p0_length) (i_x_p0_length : IR 0 940 x_p0_length) (e_p0_kind : F_p0_ 2 = .int x_p0_kind) (e_p0_place : F_p0_ 3 = .int x_p0_place) (e_p0_value : F_p0_ 4 = .int x_p0_value) (e_p0_name : F_p0_ 5 = .long x_p0_name) (e_p0_number : F_p0_ 6 = .int x_p0_number) (e_p0_faultKind : F_p0_ 7 = .int x_p0_faultKind) (e_p0_faultPlace : F_p0_ 8 = .int x_p0_faultPlace) (e_p0_wordNames : F_p0_ 9 = .ref h_p0_wordNames) (e_p0_at : F_p0_ 10 = .int x_p0_at) (i_x_p0_at : IR 0 940 x_p0_at) (e_p0_mostBytes : F_p0_ 11 = .int x_p0_mostBytes) (e_p1_settings : F_p1_ 1 = .ref h_p1_settings) (e_p1_manName : F_p1_ 2 = .ref h_p1_manName) (e_p1_men : F_p1_ 13 = .int x_p1_men) (i_x_p1_men : IR 0 12 x_p1_men) : CI l yX5_readJump cX5_readJump 5 (some .boolean) { frames := 3, cells := 0, slots := 0, locals := 65 } (GG D cI cJ cB cP cM cZ) D [(h0, .inr (5, vL 11 Fh)), (h_crew, .inl (cI, 4, .inl f_crew)), (h_yard, .inl (cI, 4, .inl f_yard)), (p0, .inr (6, vL 12 F_p0_)), (h_p0_bytes, .inl (cB, 940, .inl f_p0_bytes)), (h_p0_wordNames, .inl (cJ, 23, .inr (.inl f_p0_wordNames))), (p1, .inr (1, vL 18 F_p1_)), (h_p1_settings, .inl (cI, 5, .inl f_p1_settings)), (h_p1_manName, .inl (cJ, 12, .inr (.inl f_p1_manName)))] sz [.ref h0, .ref p0, .ref p1] (fun (r : Int32) (u : va_W) => ∃ (Gh : Nat → Value) (y_jumpsTold : Int32) (G_p0_ : Nat → Value) (y_p0_kind : Int32) (y_p0_place : Int32) (y_p0_value : Int32) (y_p0_name : Int64) (y_p0_number : Int32) (y_p0_faultKind : Int32) (y_p0_faultPlace : Int32) (y_p0_at : Int32) (g_yard : Nat → Int32), SAME [9] Fh Gh ∧ Gh 9 = .int y_jumpsTold ∧ SAME [2, 3, 4, 5, 6, 7, 8, 10] F_p0_ G_p0_ ∧ G_p0_ 2 = .int y_p0_kind ∧ G_p0_ 3 = .int y_p0_place ∧ G_p0_ 4 = .int y_p0_value ∧ G_p0_ 5 = .long y_p0_name ∧ G_p0_ 6 = .int y_p0_number ∧ G_p0_ 7 = .int y_p0_faultKind ∧ G_p0_ 8 = .int y_p0_faultPlace ∧ G_p0_ 10 = .int y_p0_at ∧ IR 0 940 y_p0_at ∧ IR 0 1 r ∧ u = [(h0, .inr (5, vL 11 Gh)), (h_crew, .inl (cI, 4, .inl f_crew)), (h_yard, .inl (cI, 4, .inl g_yard)), (p0, .inr (6, vL 12 G_p0_)), (h_p0_bytes, .inl (cB, 940, .inl f_p0_bytes)), (h_p0_wordNames, .inl (cJ, 23, .inr (.inl f_p0_wordNames))), (p1, .inr (1, vL 18 F_p1_)), (h_p1_settings, .inl (cI, 5, .inl f_p1_settings)), (h_p1_manName, .inl (cJ, 12, .inr (.inl f_p1_manName)))]) := by
  refine CI_mk (by decide) (Nat.le_of_ble_eq_true rfl) ?_
  intro p e s m below meth c A ls E hAe hG hsz hP hD hA hS hl
  obtain ⟨hx, hb, hr, hw, hown, hlocks, hml, hnm⟩ := E
  have hK := hG.1
  have i_x_crewed : 0 ≤ x_crewed.toInt ∧ x_crewed.toInt ≤ 1 := i_x_crewed
  have i_x_p0_length : 0 ≤ x_p0_length.toInt ∧ x_p0_length.toInt ≤ 940 := i_x_p0_length
  have i_x_p0_at : 0 ≤ x_p0_at.toInt ∧ x_p0_at.toInt ≤ 940 := i_x_p0_at
  have i_x_p1_men : 0 ≤ x_p1_men.toInt ∧ x_p1_men.toInt ≤ 12 := i_x_p1_men
  have hl : lv_has ls 5 [(0, .ref h0), (1, .ref p0), (2, .ref p1)] := hl
  refine lv_aload_n hx hb dX5_readJump_0 rfl (lv_at hl 1 rfl) ?_
  refine call_Vi (wr := [(h0, .inr (5, vL 11 Fh)), (h_crew, .inl (cI, 4, .inl f_crew)), (h_yard, .inl (cI, 4, .inl f_yard)), (h_p0_bytes, .inl (cB, 940, .inl f_p0_bytes)), (h_p0_wordNames, .inl (cJ, 23, .inr (.inl f_p0_wordNames))), (p1, .inr (1, vL 18 F_p1_)), (h_p1_settings, .inl (cI, 5, .inl f_p1_settings)), (h_p1_manName, .inl (cJ, 12, .inr (.inl f_p1_manName)))]) (As := []) (rest := []) hx hb hml hown hw (m_X6_isName l D cI cJ cB cP cM cZ p0 F_p0_ x_p0_kind x_p0_value _ e_p0_kind e_p0_value) wV_X5_120_X6_isName dX5_readJump_1 hK hP hD hS hA [3] [0, 1, 2, 4, 5, 6, 7, 8] rfl rfl (by decide) (by decide) (by decide) 0 6 rfl rfl GG.fb hG.at hl.1 rfl (Nat.le_of_ble_eq_true rfl) ⟨(Nat.le_of_ble_eq_true rfl), (Nat.le_of_ble_eq_true rfl)⟩ ⟨(Nat.le_of_ble_eq_true rfl), (Nat.le_of_ble_eq_true rfl)⟩ (fun r1 u H locs hp hP hD hS => ?_)
  obtain ⟨t2, rfl⟩ := hp
  have hP : va_P D vwCl [(h0, .inr (5, vL 11 Fh)), (h_crew, .inl (cI, 4, .inl f_crew)), (h_yard, .inl (cI, 4, .inl f_yard)), (h_p0_bytes, .inl (cB, 940, .inl f_p0_bytes)), (h_p0_wordNames, .inl (cJ, 23, .inr (.inl f_p0_wordNames))), (p1, .inr (1, vL 18 F_p1_)), (h_p1_settings, .inl (cI, 5, .inl f_p1_settings)), (h_p1_manName, .inl (cJ, 12, .inr (.inl f_p1_manName))), (p0, .inr (6, vL 12 F_p0_))] H := hP
  have hD : va_D A [(h0, .inr (5, vL 11 Fh)), (h_crew, .inl (cI, 4, .inl f_crew)), (h_yard, .inl (cI, 4, .inl f_yard)), (h_p0_bytes, .inl (cB, 940, .inl f_p0_bytes)), (h_p0_wordNames, .inl (cJ, 23, .inr (.inl f_p0_wordNames))), (p1, .inr (1, vL 18 F_p1_)), (h_p1_settings, .inl (cI, 5, .inl f_p1_settings)), (h_p1_manName, .inl (cJ, 12, .inr (.inl f_p1_manName))), (p0, .inr (6, vL 12 F_p0_))] := hD
  refine W.widen (k := 0) (n := 0) (Nat.le_of_ble_eq_true rfl) (Nat.le_of_ble_eq_true rfl) ?_
  refine lv_if_ne (tgt := 13) hx hb dX5_readJump_4 (by decide) (fun c3 => ?_) (fun c3 => ?_)
  · have dc3 : r1.toInt ≠ 0 := ne_i (a := r1.toInt) (b := 0) rfl rfl c3
    have k4 : 1 ≤ r1.toInt ∧ r1.toInt ≤ 1 := ⟨ne_lo dc3 t2.1 ⟨Int.le_refl _, Int.le_refl _⟩ (by decide), t2.2⟩
    refine lv_aload_n hx hb dX5_readJump_13 rfl (lv_at hl 2 rfl) ?_
    refine lv_aload_n hx hb dX5_readJump_14 rfl (lv_at hl 1 rfl) ?_
    refine get_f (D := D) (ci := 6) (v := .long x_p0_name) (C := RX6) (T := TX6) (N := 12) hx hb hw inAX6 hown hK hP 8 rfl rfl 5 (by decide) (hw _ q_100) (fun _ h9 => h9) e_p0_name dX5_readJump_15 ?_
    refine call_Vi (wr := [(h0, .inr (5, vL 11 Fh)), (h_crew, .inl (cI, 4, .inl f_crew)), (h_yard, .inl (cI, 4, .inl f_yard)), (h_p0_bytes, .inl (cB, 940, .inl f_p0_bytes)), (h_p0_wordNames, .inl (cJ, 23, .inr (.inl f_p0_wordNames))), (h_p1_settings, .inl (cI, 5, .inl f_p1_settings)), (p0, .inr (6, vL 12 F_p0_))]) (As := [.long x_p0_name]) (rest := []) hx hb hml hown hw (m_X1_manNamed l D cI cJ cB cP cM cZ p1 h_p1_manName F_p1_ x_p1_men f_p1_manName x_p0_name _ e_p1_manName e_p1_men i_x_p1_men) wV_X5_128_X1_manNamed dX5_readJump_18 hK hP hD hS hA [5, 7] [0, 1, 2, 3, 4, 6, 8] rfl rfl (by decide) (by decide) (by decide) 0 1 rfl rfl GG.fb hG.at hl.1 rfl (Nat.le_of_ble_eq_true rfl) ⟨(Nat.le_of_ble_eq_true rfl), (Nat.le_of_ble_eq_true rfl)⟩ ⟨(Nat.le_of_ble_eq_true rfl), (Nat.le_of_ble_eq_true rfl)⟩ (fun r5 u H locs hp hP hD hS => ?_)
    obtain ⟨t6, rfl⟩ := hp
    have hP : va_P D vwCl [(h0, .inr (5, vL 11 Fh)), (h_crew, .inl (cI, 4, .inl f_crew)), (h_yard, .inl (cI, 4, .inl f_yard)), (h_p0_bytes, .inl (cB, 940, .inl f_p0_bytes)), (h_p0_wordNames, .inl (cJ, 23, .inr (.inl f_p0_wordNames))), (h_p1_settings, .inl (cI, 5, .inl f_p1_settings)), (p0, .inr (6, vL 12 F_p0_)), (p1, .inr (1, vL 18 F_p1_)), (h_p1_manName, .inl (cJ, 12, .inr (.inl f_p1_manName)))] H := hP
    have hD : va_D A [(h0, .inr (5, vL 11 Fh)), (h_crew, .inl (cI, 4, .inl f_crew)), (h_yard, .inl (cI, 4, .inl f_yard)), (h_p0_bytes, .inl (cB, 940, .inl f_p0_bytes)), (h_p0_wordNames, .inl (cJ, 23, .inr (.inl f_p0_wordNames))), (h_p1_settings, .inl (cI, 5, .inl f_p1_settings)), (p0, .inr (6, vL 12 F_p0_)), (p1, .inr (1, vL 18 F_p1_)), (h_p1_manName, .inl (cJ, 12, .inr (.inl f_p1_manName)))] := hD
    refine W.widen (k := 0) (n := 0) (Nat.le_of_ble_eq_true rfl) (Nat.le_of_ble_eq_true rfl) ?_
    refine lv_istore_n (lv' := [(3, .int r5), (0, .ref h0), (1, .ref p0), (2, .ref p1)]) hx hb dX5_readJump_21 rfl hl (by decide) rfl (fun ls hl => ?_)
    refine lv_iload_n hx hb dX5_readJump_22 rfl (lv_at hl 0 rfl) ?_
    refine lv_iconst (v := (-1)) hx hb dX5_readJump_23 (by decide) ?_
    refine lv_icmp_ne (tgt := 31) hx hb dX5_readJump_24 (by decide) (fun c7 => ?_) (fun c7 => ?_)
    · have dc7 : r5.toInt ≠ (-1) := ne_i (a := r5.toInt) (b := (-1)) rfl rfl c7
      have k8 : 0 ≤ r5.toInt ∧ r5.toInt ≤ 11 := ⟨ne_lo dc7 t6.1 ⟨Int.le_refl _, Int.le_refl _⟩ (by decide), t6.2⟩
      refine lv_aload_n hx hb dX5_readJump_31 rfl (lv_at hl 1 rfl) ?_
      refine lv_iload_n hx hb dX5_readJump_32 rfl (lv_at hl 0 rfl) ?_
      refine call_Vi (wr := [(h_yard, .inl (cI, 4, .inl f_yard)), (h_p0_bytes, .inl (cB, 940, .inl f_p0_bytes)), (h_p0_wordNames, .inl (cJ, 23, .inr (.inl f_p0_wordNames))), (h_p1_settings, .inl (cI, 5, .inl f_p1_settings)), (p0, .inr (6, vL 12 F_p0_)), (p1, .inr (1, vL 18 F_p1_)), (h_p1_manName, .inl (cJ, 12, .inr (.inl f_p1_manName)))]) (As := [.int r5]) (rest := []) hx hb hml hown hw (m_X5_placeOf l D cI cJ cB cP cM cZ h0 h_crew Fh x_crewed f_crew r5 _ e_crew e_crewed i_x_crewed s_crew_0) wV_X5_132_X5_placeOf dX5_readJump_33 hK hP hD hS hA [0, 1] [2, 3, 4, 5, 6, 7, 8] rfl rfl (by decide) (by decide) (by decide) 0 5 rfl rfl GG.fb hG.at hl.1 rfl (Nat.le_of_ble_eq_true rfl) ⟨(Nat.le_of_ble_eq_true rfl), (Nat.le_of_ble_eq_true rfl)⟩ ⟨(Nat.le_of_ble_eq_true rfl), (Nat.le_of_ble_eq_true rfl)⟩ (fun r9 u H locs hp hP hD hS => ?_)
      obtain ⟨t10, rfl⟩ := hp
      have hP : va_P D vwCl [(h_yard, .inl (cI, 4, .inl f_yard)), (h_p0_bytes, .inl (cB, 940, .inl f_p0_bytes)), (h_p0_wordNames, .inl (cJ, 23, .inr (.inl f_p0_wordNames))), (h_p1_settings, .inl (cI, 5, .inl f_p1_settings)), (p0, .inr (6, vL 12 F_p0_)), (p1, .inr (1, vL 18 F_p1_)), (h_p1_manName, .inl (cJ, 12, .inr (.inl f_p1_manName))), (h0, .inr (5, vL 11 Fh)), (h_crew, .inl (cI, 4, .inl f_crew))] H := hP
      have hD : va_D A [(h_yard, .inl (cI, 4, .inl f_yard)), (h_p0_bytes, .inl (cB, 940, .inl f_p0_bytes)), (h_p0_wordNames, .inl (cJ, 23, .inr (.inl f_p0_wordNames))), (h_p1_settings, .inl (cI, 5, .inl f_p1_settings)), (p0, .inr (6, vL 12 F_p0_)), (p1, .inr (1, vL 18 F_p1_)), (h_p1_manName, .inl (cJ, 12, .inr (.inl f_p1_manName))), (h0, .inr (5, vL 11 Fh)), (h_crew, .inl (cI, 4, .inl f_crew))] := hD
      refine W.widen (k := 0) (n := 0) (Nat.le_of_ble_eq_true rfl) (Nat.le_of_ble_eq_true rfl) ?_
      refine lv_istore (lv' := [(4, .int r9), (3, .int r5), (0, .ref h0), (1, .ref p0), (2, .ref p1)]) hx hb dX5_readJump_36 hl (by decide) rfl (fun ls hl => ?_)
      refine lv_iload hx hb dX5_readJump_38 (lv_at hl 0 rfl) ?_
      refine lv_iconst (v := (-1)) hx hb dX5_readJump_40 (by decide) ?_
      refine lv_icmp_eq (tgt := 56) hx hb dX5_readJump_41 (by decide) (fun c11 => ?_) (fun c11 => ?_)
      · have dc11 : r9.toInt = (-1) := eq_i (a := r9.toInt) (b := (-1)) rfl rfl c11
        have k12 : (-1) ≤ r9.toInt ∧ r9.toInt ≤ (-1) := ⟨t10.1, Int.le_trans (Int.le_of_eq dc11) (Int.le_refl _)⟩
        refine lv_aload_n hx hb dX5_readJump_56 rfl (lv_at hl 3 rfl) ?_
        refine lv_iconst (v := 3) hx hb dX5_readJump_57 (by decide) ?_
        refine call_Vi (wr := [(h_yard, .inl (cI, 4, .inl f_yard)), (h_p0_bytes, .inl (cB, 940, .inl f_p0_bytes)), (h_p0_wordNames, .inl (cJ, 23, .inr (.inl f_p0_wordNames))), (h_p1_settings, .inl (cI, 5, .inl f_p1_settings)), (p1, .inr (1, vL 18 F_p1_)), (h_p1_manName, .inl (cJ, 12, .inr (.inl f_p1_manName))), (h0, .inr (5, vL 11 Fh)), (h_crew, .inl (cI, 4, .inl f_crew))]) (As := [.int 3]) (rest := []) hx hb hml hown hw (m_X6_fail l D cI cJ cB cP cM cZ p0 F_p0_ x_p0_place 3 _ e_p0_place) wV_X5_95_X6_fail dX5_readJump_58 hK hP hD hS hA [4] [0, 1, 2, 3, 5, 6, 7, 8] rfl rfl (by decide) (by decide) (by decide) 0 6 rfl rfl GG.fb hG.at hl.1 rfl (Nat.le_of_ble_eq_true rfl) ⟨(Nat.le_of_ble_eq_true rfl), (Nat.le_of_ble_eq_true rfl)⟩ ⟨(Nat.le_of_ble_eq_true rfl), (Nat.le_of_ble_eq_true rfl)⟩ (fun r13 u H locs hp hP hD hS => ?_)
        obtain ⟨F14, t15, t16, t17, rfl, rfl⟩ := hp
        have hP : va_P D vwCl [(h_yard, .inl (cI, 4, .inl f_yard)), (h_p0_bytes, .inl (cB, 940, .inl f_p0_bytes)), (h_p0_wordNames, .inl (cJ, 23, .inr (.inl f_p0_wordNames))), (h_p1_settings, .inl (cI, 5, .inl f_p1_settings)), (p1, .inr (1, vL 18 F_p1_)), (h_p1_manName, .inl (cJ, 12, .inr (.inl f_p1_manName))), (h0, .inr (5, vL 11 Fh)), (h_crew, .inl (cI, 4, .inl f_crew)), (p0, .inr (6, vL 12 F14))] H := hP
        have hD : va_D A [(h_yard, .inl (cI, 4, .inl f_yard)), (h_p0_bytes, .inl (cB, 940, .inl f_p0_bytes)), (h_p0_wordNames, .inl (cJ, 23, .inr (.inl f_p0_wordNames))), (h_p1_settings, .inl (cI, 5, .inl f_p1_settings)), (p1, .inr (1, vL 18 F_p1_)), (h_p1_manName, .inl (cJ, 12, .inr (.inl f_p1_manName))), (h0, .inr (5, vL 11 Fh)), (h_crew, .inl (cI, 4, .inl f_crew)), (p0, .inr (6, vL 12 F14))] := hD
        refine W.widen (k := 0) (n := 0) (Nat.le_of_ble_eq_true rfl) (Nat.le_of_ble_eq_true rfl) ?_
        exact ret_i (v := 0) hx hb hr hlocks hS (hP.sub (ws' := [(h0, .inr (5, vL 11 Fh)), (h_crew, .inl (cI, 4, .inl f_crew)), (h_yard, .inl (cI, 4, .inl f_yard)), (p0, .inr (6, vL 12 F14)), (h_p0_bytes, .inl (cB, 940, .inl f_p0_bytes)), (h_p0_wordNames, .inl (cJ, 23, .inr (.inl f_p0_wordNames))), (p1, .inr (1, vL 18 F_p1_)), (h_p1_settings, .inl (cI, 5, .inl f_p1_settings)), (h_p1_manName, .inl (cJ, 12, .inr (.inl f_p1_manName)))]) [6, 7, 0, 8, 1, 2, 4, 3, 5] rfl) (hD.sub (ws' := [(h0, .inr (5, vL 11 Fh)), (h_crew, .inl (cI, 4, .inl f_crew)), (h_yard, .inl (cI, 4, .inl f_yard)), (p0, .inr (6, vL 12 F14)), (h_p0_bytes, .inl (cB, 940, .inl f_p0_bytes)), (h_p0_wordNames, .inl (cJ, 23, .inr (.inl f_p0_wordNames))), (p1, .inr (1, vL 18 F_p1_)), (h_p1_settings, .inl (cI, 5, .inl f_p1_settings)), (h_p1_manName, .inl (cJ, 12, .inr (.inl f_p1_manName)))]) [6, 7, 0, 8, 1, 2, 4, 3, 5] (by decide) rfl) dX5_readJump_61 rfl (Nat.le_of_ble_eq_true rfl) (Nat.le_of_ble_eq_true rfl) ⟨Fh, x_jumpsTold, F14, x_p0_kind, x_p0_place, x_p0_value, x_p0_name, x_p0_number, 3, x_p0_place, x_p0_at, f_yard, SAME.rf, e_jumpsTold, (SAME.tr SAME.rf t15 (by decide)), (SAME.at t15 (by decide) e_p0_kind), (SAME.at t15 (by decide) e_p0_place), (SAME.at t15 (by decide) e_p0_value), (SAME.at t15 (by decide) e_p0_name), (SAME.at t15 (by decide) e_p0_number), t16, t17, (SAME.at t15 (by decide) e_p0_at), i_x_p0_at, ⟨by decide, by decide⟩, rfl⟩
      · have dc11 : r9.toInt ≠ (-1) := ne_i (a := r9.toInt) (b := (-1)) rfl rfl c11
        have k18 : 0 ≤ r9.toInt ∧ r9.toInt ≤ 3 := ⟨ne_lo dc11 t10.1 ⟨Int.le_refl _, Int.le_refl _⟩ (by decide), t10.2⟩
        refine lv_aload_n hx hb dX5_readJump_44 rfl (lv_at hl 2 rfl) ?_
        refine get_f (D := D) (ci := 5) (v := .int x_jumpsTold) (C := RX5) (T := TX5) (N := 11) hx hb hw inAX5 hown hK hP 7 rfl rfl 9 (by decide) (hw _ q_173) (fun _ h9 => h9) e_jumpsTold dX5_readJump_45 ?_
        refine lv_iload hx hb dX5_readJump_48 (lv_at hl 0 rfl) ?_
        refine lv_ishr hx hb dX5_readJump_50 ?_
        refine lv_topi (fun v19 ev19 => ?_)
        refine lv_iconst (v := 1) hx hb dX5_readJump_51 (by decide) ?_
        refine lv_iand hx hb dX5_readJump_52 ?_
        refine lv_topi (fun v20 ev20 => ?_)
        have k21 : 0 ≤ v20.toInt ∧ v20.toInt ≤ 1 := by rw [ev20]; exact and_i v19 1 (by decide)
        refine lv_if_eq (tgt := 62) hx hb dX5_readJump_53 (by decide) (fun c22 => ?_) (fun c22 => ?_)
        · have dc22 : v20.toInt = 0 := eq_i (a := v20.toInt) (b := 0) rfl rfl c22
          have k23 : 0 ≤ v20.toInt ∧ v20.toInt ≤ 0 := ⟨k21.1, Int.le_trans (Int.le_of_eq dc22) (Int.le_refl _)⟩
          refine lv_aload_n hx hb dX5_readJump_62 rfl (lv_at hl 2 rfl) ?_
          refine lv_dup hx hb dX5_readJump_63 rfl ?_
          refine get_f (D := D) (ci := 5) (v := .int x_jumpsTold) (C := RX5) (T := TX5) (N := 11) hx hb hw inAX5 hown hK hP 7 rfl rfl 9 (by decide) (hw _ q_173) (fun _ h9 => h9) e_jumpsTold dX5_readJump_64 ?_
          refine lv_iconst (v := 1) hx hb dX5_readJump_67 (by decide) ?_
          refine lv_iload hx hb dX5_readJump_68 (lv_at hl 0 rfl) ?_
          refine lv_ishl hx hb dX5_readJump_70 ?_
          refine lv_topi (fun v24 ev24 => ?_)
          have k25 : 1 ≤ v24.toInt ∧ v24.toInt ≤ 8 := by rw [ev24]; exact shl1_i (Int.le_trans (by decide) k18.1) (Int.le_trans k18.2 (by decide))
          refine lv_ior hx hb dX5_readJump_71 ?_
          refine lv_topi (fun v26 ev26 => ?_)
          refine put_f (D := D) (ci := 5) (v := .int v26) (ty := .int) (C := RX5) (T := TX5) (N := 11) hx hb hw inAX5 tyX5 tyX5_ok nmX5 hown hK hP hD hS 7 rfl rfl 9 (by decide) (hw _ q_173) (fun _ h9 => h9) rfl (by decide +kernel) rfl rfl dX5_readJump_72 (fun H locs F27 eF27 hP hD hS => ?_)
          have hP : va_P D vwCl [(h_yard, .inl (cI, 4, .inl f_yard)), (h_p0_bytes, .inl (cB, 940, .inl f_p0_bytes)), (h_p0_wordNames, .inl (cJ, 23, .inr (.inl f_p0_wordNames))), (h_p1_settings, .inl (cI, 5, .inl f_p1_settings)), (p0, .inr (6, vL 12 F_p0_)), (p1, .inr (1, vL 18 F_p1_)), (h_p1_manName, .inl (cJ, 12, .inr (.inl f_p1_manName))), (h0, .inr (5, vL 11 F27)), (h_crew, .inl (cI, 4, .inl f_crew))] H := hP
          have hD : va_D A [(h_yard, .inl (cI, 4, .inl f_yard)), (h_p0_bytes, .inl (cB, 940, .inl f_p0_bytes)), (h_p0_wordNames, .inl (cJ, 23, .inr (.inl f_p0_wordNames))), (h_p1_settings, .inl (cI, 5, .inl f_p1_settings)), (p0, .inr (6, vL 12 F_p0_)), (p1, .inr (1, vL 18 F_p1_)), (h_p1_manName, .inl (cJ, 12, .inr (.inl f_p1_manName))), (h0, .inr (5, vL 11 F27)), (h_crew, .inl (cI, 4, .inl f_crew))] := hD
          refine lv_aload_n hx hb dX5_readJump_75 rfl (lv_at hl 3 rfl) ?_
          refine call_Vv (wr := [(h_yard, .inl (cI, 4, .inl f_yard)), (h_p1_settings, .inl (cI, 5, .inl f_p1_settings)), (p1, .inr (1, vL 18 F_p1_)), (h_p1_manName, .inl (cJ, 12, .inr (.inl f_p1_manName))), (h0, .inr (5, vL 11 F27)), (h_crew, .inl (cI, 4, .inl f_crew))]) (As := []) (rest := []) hx hb hml hown hw (m_X6_advance l D cI cJ cB cP cM cZ p0 h_p0_bytes h_p0_wordNames F_p0_ x_p0_length x_p0_value x_p0_name x_p0_at x_p0_mostBytes f_p0_bytes f_p0_wordNames _ e_p0_bytes e_p0_length i_x_p0_length e_p0_value e_p0_name e_p0_wordNames e_p0_at i_x_p0_at e_p0_mostBytes) wV_X5_98_X6_advance dX5_readJump_76 hK hP hD hS hA [4, 1, 2] [0, 3, 5, 6, 7, 8] rfl rfl (by decide) (by decide) (by decide) 0 6 rfl rfl GG.fb hG.at hl.1 rfl (Nat.le_of_ble_eq_true rfl) ⟨(Nat.le_of_ble_eq_true rfl), (Nat.le_of_ble_eq_true rfl)⟩ ⟨(Nat.le_of_ble_eq_true rfl), (Nat.le_of_ble_eq_true rfl)⟩ (fun u H locs hp hP hD hS => ?_)
          obtain ⟨F29, y30, y31, y32, y33, y34, t35, t36, t37, t38, t39, t40, t41, t42, rfl⟩ := hp
          have hP : va_P D vwCl [(h_yard, .inl (cI, 4, .inl f_yard)), (h_p1_settings, .inl (cI, 5, .inl f_p1_settings)), (p1, .inr (1, vL 18 F_p1_)), (h_p1_manName, .inl (cJ, 12, .inr (.inl f_p1_manName))), (h0, .inr (5, vL 11 F27)), (h_crew, .inl (cI, 4, .inl f_crew)), (p0, .inr (6, vL 12 F29)), (h_p0_bytes, .inl (cB, 940, .inl f_p0_bytes)), (h_p0_wordNames, .inl (cJ, 23, .inr (.inl f_p0_wordNames)))] H := hP
          have hD : va_D A [(h_yard, .inl (cI, 4, .inl f_yard)), (h_p1_settings, .inl (cI, 5, .inl f_p1_settings)), (p1, .inr (1, vL 18 F_p1_)), (h_p1_manName, .inl (cJ, 12, .inr (.inl f_p1_manName))), (h0, .inr (5, vL 11 F27)), (h_crew, .inl (cI, 4, .inl f_crew)), (p0, .inr (6, vL 12 F29)), (h_p0_bytes, .inl (cB, 940, .inl f_p0_bytes)), (h_p0_wordNames, .inl (cJ, 23, .inr (.inl f_p0_wordNames)))] := hD
          refine W.widen (k := 0) (n := 0) (Nat.le_of_ble_eq_true rfl) (Nat.le_of_ble_eq_true rfl) ?_
          refine lv_aload_n hx hb dX5_readJump_79 rfl (lv_at hl 3 rfl) ?_
          refine lv_iconst (v := 0) hx hb dX5_readJump_80 (by decide) ?_
          refine lv_aload_n hx hb dX5_readJump_81 rfl (lv_at hl 4 rfl) ?_
          refine get_f (D := D) (ci := 1) (v := .ref h_p1_settings) (C := RX1) (T := TX1) (N := 18) hx hb hw inAX1 hown hK hP 2 rfl rfl 1 (by decide) (hw _ q_318) (fun _ h9 => h9) e_p1_settings dX5_readJump_82 ?_
          refine lv_iconst (v := 0) hx hb dX5_readJump_85 (by decide) ?_
          refine iald_n hx hb hK hP 1 0 rfl rfl 0 rfl (Nat.le_of_ble_eq_true rfl) (Nat.le_of_ble_eq_true rfl) rfl dX5_readJump_86 ?_
          refine lv_topi (fun v43 ev43 => ?_)
          refine lv_iconst (v := 1) hx hb dX5_readJump_87 (by decide) ?_
          refine lv_isub hx hb dX5_readJump_88 ?_
          refine lv_topi (fun v44 ev44 => ?_)
          have n45 : F29 0 = .ref h_p0_bytes := (SAME.at t35 (by decide) e_p0_bytes)
          have n46 : F29 1 = .int x_p0_length := (SAME.at t35 (by decide) e_p0_length)
          have n47 : F29 9 = .ref h_p0_wordNames := (SAME.at t35 (by decide) e_p0_wordNames)
          have n48 : F29 11 = .int x_p0_mostBytes := (SAME.at t35 (by decide) e_p0_mostBytes)
          refine call_Vi (wr := [(h_yard, .inl (cI, 4, .inl f_yard)), (h_p1_settings, .inl (cI, 5, .inl f_p1_settings)), (p1, .inr (1, vL 18 F_p1_)), (h_p1_manName, .inl (cJ, 12, .inr (.inl f_p1_manName))), (h0, .inr (5, vL 11 F27)), (h_crew, .inl (cI, 4, .inl f_crew))]) (As := [.int 0, .int v44]) (rest := []) hx hb hml hown hw (m_X6_takeNumber l D cI cJ cB cP cM cZ p0 h_p0_bytes h_p0_wordNames F29 x_p0_length y30 y31 y32 y33 y34 x_p0_mostBytes f_p0_bytes f_p0_wordNames 0 v44 _ n45 n46 i_x_p0_length t36 t37 t39 t40 n47 t41 t42 n48) wV_X5_136_X6_takeNumber dX5_readJump_89 hK hP hD hS hA [6, 7, 8] [0, 1, 2, 3, 4, 5] rfl rfl (by decide) (by decide) (by decide) 0 6 rfl rfl GG.fb hG.at hl.1 rfl (Nat.le_of_ble_eq_true rfl) ⟨(Nat.le_of_ble_eq_true rfl), (Nat.le_of_ble_eq_true rfl)⟩ ⟨(Nat.le_of_ble_eq_true rfl), (Nat.le_of_ble_eq_true rfl)⟩ (fun r49 u H locs hp hP hD hS => ?_)
          rcases hp with ⟨F50, y51, t52, t53, t54, t55, rfl, rfl⟩ | ⟨F56, y57, y58, y59, y60, y61, t62, t63, t64, t65, t66, t67, t68, t69, t70, t71, t72, t73, rfl, rfl⟩
          · have hP : va_P D vwCl [(h_yard, .inl (cI, 4, .inl f_yard)), (h_p1_settings, .inl (cI, 5, .inl f_p1_settings)), (p1, .inr (1, vL 18 F_p1_)), (h_p1_manName, .inl (cJ, 12, .inr (.inl f_p1_manName))), (h0, .inr (5, vL 11 F27)), (h_crew, .inl (cI, 4, .inl f_crew)), (p0, .inr (6, vL 12 F50)), (h_p0_bytes, .inl (cB, 940, .inl f_p0_bytes)), (h_p0_wordNames, .inl (cJ, 23, .inr (.inl f_p0_wordNames)))] H := hP
            have hD : va_D A [(h_yard, .inl (cI, 4, .inl f_yard)), (h_p1_settings, .inl (cI, 5, .inl f_p1_settings)), (p1, .inr (1, vL 18 F_p1_)), (h_p1_manName, .inl (cJ, 12, .inr (.inl f_p1_manName))), (h0, .inr (5, vL 11 F27)), (h_crew, .inl (cI, 4, .inl f_crew)), (p0, .inr (6, vL 12 F50)), (h_p0_bytes, .inl (cB, 940, .inl f_p0_bytes)), (h_p0_wordNames, .inl (cJ, 23, .inr (.inl f_p0_wordNames)))] := hD
            refine W.widen (k := 0) (n := 0) (Nat.le_of_ble_eq_true rfl) (Nat.le_of_ble_eq_true rfl) ?_
            refine lv_if_ne (tgt := 97) hx hb dX5_readJump_92 (by decide) (fun g => absurd (by decide) g) (fun _ => ?_)
            refine lv_iconst (v := 0) hx hb dX5_readJump_95 (by decide) ?_
            exact ret_i (v := 0) hx hb hr hlocks hS (hP.sub (ws' := [(h0, .inr (5, vL 11 F27)), (h_crew, .inl (cI, 4, .inl f_crew)), (h_yard, .inl (cI, 4, .inl f_yard)), (p0, .inr (6, vL 12 F50)), (h_p0_bytes, .inl (cB, 940, .inl f_p0_bytes)), (h_p0_wordNames, .inl (cJ, 23, .inr (.inl f_p0_wordNames))), (p1, .inr (1, vL 18 F_p1_)), (h_p1_settings, .inl (cI, 5, .inl f_p1_settings)), (h_p1_manName, .inl (cJ, 12, .inr (.inl f_p1_manName)))]) [4, 5, 0, 6, 7, 8, 2, 1, 3] rfl) (hD.sub (ws' := [(h0, .inr (5, vL 11 F27)), (h_crew, .inl (cI, 4, .inl f_crew)), (h_yard, .inl (cI, 4, .inl f_yard)), (p0, .inr (6, vL 12 F50)), (h_p0_bytes, .inl (cB, 940, .inl f_p0_bytes)), (h_p0_wordNames, .inl (cJ, 23, .inr (.inl f_p0_wordNames))), (p1, .inr (1, vL 18 F_p1_)), (h_p1_settings, .inl (cI, 5, .inl f_p1_settings)), (h_p1_manName, .inl (cJ, 12, .inr (.inl f_p1_manName)))]) [4, 5, 0, 6, 7, 8, 2, 1, 3] (by decide) rfl) dX5_readJump_96 rfl (Nat.le_of_ble_eq_true rfl) (Nat.le_of_ble_eq_true rfl) ⟨F27, v26, F50, y30, y31, y32, y33, x_p0_number, y51, y31, y34, f_yard, (SAME.up eF27 SAME.rf (by decide)), (get_eq eF27), (SAME.tr (SAME.tr SAME.rf t35 (by decide)) t52 (by decide)), (SAME.at t52 (by decide) t36), (SAME.at t52 (by decide) t37), (SAME.at t52 (by decide) t39), (SAME.at t52 (by decide) t40), (SAME.at t52 (by decide) (SAME.at t35 (by decide) e_p0_number)), t53, t55, (SAME.at t52 (by decide) t41), t42, ⟨by decide, by decide⟩, rfl⟩
          · have hP : va_P D vwCl [(h_yard, .inl (cI, 4, .inl f_yard)), (h_p1_settings, .inl (cI, 5, .inl f_p1_settings)), (p1, .inr (1, vL 18 F_p1_)), (h_p1_manName, .inl (cJ, 12, .inr (.inl f_p1_manName))), (h0, .inr (5, vL 11 F27)), (h_crew, .inl (cI, 4, .inl f_crew)), (p0, .inr (6, vL 12 F56)), (h_p0_bytes, .inl (cB, 940, .inl f_p0_bytes)), (h_p0_wordNames, .inl (cJ, 23, .inr (.inl f_p0_wordNames)))] H := hP
            have hD : va_D A [(h_yard, .inl (cI, 4, .inl f_yard)), (h_p1_settings, .inl (cI, 5, .inl f_p1_settings)), (p1, .inr (1, vL 18 F_p1_)), (h_p1_manName, .inl (cJ, 12, .inr (.inl f_p1_manName))), (h0, .inr (5, vL 11 F27)), (h_crew, .inl (cI, 4, .inl f_crew)), (p0, .inr (6, vL 12 F56)), (h_p0_bytes, .inl (cB, 940, .inl f_p0_bytes)), (h_p0_wordNames, .inl (cJ, 23, .inr (.inl f_p0_wordNames)))] := hD
            refine W.widen (k := 0) (n := 0) (Nat.le_of_ble_eq_true rfl) (Nat.le_of_ble_eq_true rfl) ?_
            have k74 : 3 ≤ y30.toInt ∧ y30.toInt ≤ 3 := ⟨Int.le_trans (Int.le_refl _) (Int.le_of_eq t71.symm), Int.le_trans (Int.le_of_eq t71) (Int.le_refl _)⟩
            have k75 : 0 ≤ y32.toInt ∧ y32.toInt ≤ 2147483647 := ⟨Int.le_trans (Int.le_refl _) t72, (ir_any _).2⟩
            have k76 : 0 ≤ v44.toInt ∧ v44.toInt ≤ 2147483647 := ⟨Int.le_trans k75.1 t73, (ir_any _).2⟩
            refine lv_if_ne (tgt := 97) hx hb dX5_readJump_92 (by decide) (fun _ => ?_) (fun g => absurd g (by decide))
            refine lv_aload_n hx hb dX5_readJump_97 rfl (lv_at hl 2 rfl) ?_
            have n77 : F27 1 = .ref h_yard := (get_ne eF27 (by decide) e_yard)
            refine get_f (D := D) (ci := 5) (v := .ref h_yard) (C := RX5) (T := TX5) (N := 11) hx hb hw inAX5 hown hK hP 4 rfl rfl 1 (by decide) (hw _ q_150) (fun _ h9 => h9) n77 dX5_readJump_98 ?_
            refine lv_iload hx hb dX5_readJump_101 (lv_at hl 0 rfl) ?_
            refine lv_aload_n hx hb dX5_readJump_103 rfl (lv_at hl 3 rfl) ?_
            refine get_f (D := D) (ci := 6) (v := .int y32) (C := RX6) (T := TX6) (N := 12) hx hb hw inAX6 hown hK hP 6 rfl rfl 6 (by decide) (hw _ q_104) (fun _ h9 => h9) t68 dX5_readJump_104 ?_
            obtain ⟨g78, eg78⟩ : ∃ z : Nat → Int32, upd f_yard r9.toNatClampNeg y32 = z := ⟨_, rfl⟩
            refine iast_g hx hb hK hP hD hS 0 0 rfl rfl (ix_k k18 (by decide) (by decide)) eg78 dX5_readJump_107 (fun H locs hP hD hS => ?_)
            have hP : va_P D vwCl [(h_yard, .inl (cI, 4, .inl g78)), (h_p1_settings, .inl (cI, 5, .inl f_p1_settings)), (p1, .inr (1, vL 18 F_p1_)), (h_p1_manName, .inl (cJ, 12, .inr (.inl f_p1_manName))), (h0, .inr (5, vL 11 F27)), (h_crew, .inl (cI, 4, .inl f_crew)), (p0, .inr (6, vL 12 F56)), (h_p0_bytes, .inl (cB, 940, .inl f_p0_bytes)), (h_p0_wordNames, .inl (cJ, 23, .inr (.inl f_p0_wordNames)))] H := hP
            have hD : va_D A [(h_yard, .inl (cI, 4, .inl g78)), (h_p1_settings, .inl (cI, 5, .inl f_p1_settings)), (p1, .inr (1, vL 18 F_p1_)), (h_p1_manName, .inl (cJ, 12, .inr (.inl f_p1_manName))), (h0, .inr (5, vL 11 F27)), (h_crew, .inl (cI, 4, .inl f_crew)), (p0, .inr (6, vL 12 F56)), (h_p0_bytes, .inl (cB, 940, .inl f_p0_bytes)), (h_p0_wordNames, .inl (cJ, 23, .inr (.inl f_p0_wordNames)))] := hD
            refine lv_iconst (v := 1) hx hb dX5_readJump_108 (by decide) ?_
            exact ret_i (v := 1) hx hb hr hlocks hS (hP.sub (ws' := [(h0, .inr (5, vL 11 F27)), (h_crew, .inl (cI, 4, .inl f_crew)), (h_yard, .inl (cI, 4, .inl g78)), (p0, .inr (6, vL 12 F56)), (h_p0_bytes, .inl (cB, 940, .inl f_p0_bytes)), (h_p0_wordNames, .inl (cJ, 23, .inr (.inl f_p0_wordNames))), (p1, .inr (1, vL 18 F_p1_)), (h_p1_settings, .inl (cI, 5, .inl f_p1_settings)), (h_p1_manName, .inl (cJ, 12, .inr (.inl f_p1_manName)))]) [4, 5, 0, 6, 7, 8, 2, 1, 3] rfl) (hD.sub (ws' := [(h0, .inr (5, vL 11 F27)), (h_crew, .inl (cI, 4, .inl f_crew)), (h_yard, .inl (cI, 4, .inl g78)), (p0, .inr (6, vL 12 F56)), (h_p0_bytes, .inl (cB, 940, .inl f_p0_bytes)), (h_p0_wordNames, .inl (cJ, 23, .inr (.inl f_p0_wordNames))), (p1, .inr (1, vL 18 F_p1_)), (h_p1_settings, .inl (cI, 5, .inl f_p1_settings)), (h_p1_manName, .inl (cJ, 12, .inr (.inl f_p1_manName)))]) [4, 5, 0, 6, 7, 8, 2, 1, 3] (by decide) rfl) dX5_readJump_109 rfl (Nat.le_of_ble_eq_true rfl) (Nat.le_of_ble_eq_true rfl) ⟨F27, v26, F56, y57, y58, y59, y60, y32, x_p0_faultKind, x_p0_faultPlace, y61, g78, (SAME.up eF27 SAME.rf (by decide)), (get_eq eF27), (SAME.tr (SAME.tr SAME.rf t35 (by decide)) t62 (by decide)), t63, t64, t66, t67, t68, (SAME.at t62 (by decide) (SAME.at t35 (by decide) e_p0_faultKind)), (SAME.at t62 (by decide) (SAME.at t35 (by decide) e_p0_faultPlace)), t69, t70, ⟨by decide, by decide⟩, rfl⟩
        · have dc22 : v20.toInt ≠ 0 := ne_i (a := v20.toInt) (b := 0) rfl rfl c22
          have k79 : 1 ≤ v20.toInt ∧ v20.toInt ≤ 1 := ⟨ne_lo dc22 k21.1 ⟨Int.le_refl _, Int.le_refl _⟩ (by decide), k21.2⟩
          refine lv_aload_n hx hb dX5_readJump_56 rfl (lv_at hl 3 rfl) ?_
          refine lv_iconst (v := 3) hx hb dX5_readJump_57 (by decide) ?_
          refine call_Vi (wr := [(h_yard, .inl (cI, 4, .inl f_yard)), (h_p0_bytes, .inl (cB, 940, .inl f_p0_bytes)), (h_p0_wordNames, .inl (cJ, 23, .inr (.inl f_p0_wordNames))), (h_p1_settings, .inl (cI, 5, .inl f_p1_settings)), (p1, .inr (1, vL 18 F_p1_)), (h_p1_manName, .inl (cJ, 12, .inr (.inl f_p1_manName))), (h0, .inr (5, vL 11 Fh)), (h_crew, .inl (cI, 4, .inl f_crew))]) (As := [.int 3]) (rest := []) hx hb hml hown hw (m_X6_fail l D cI cJ cB cP cM cZ p0 F_p0_ x_p0_place 3 _ e_p0_place) wV_X5_95_X6_fail dX5_readJump_58 hK hP hD hS hA [4] [0, 1, 2, 3, 5, 6, 7, 8] rfl rfl (by decide) (by decide) (by decide) 0 6 rfl rfl GG.fb hG.at hl.1 rfl (Nat.le_of_ble_eq_true rfl) ⟨(Nat.le_of_ble_eq_true rfl), (Nat.le_of_ble_eq_true rfl)⟩ ⟨(Nat.le_of_ble_eq_true rfl), (Nat.le_of_ble_eq_true rfl)⟩ (fun r80 u H locs hp hP hD hS => ?_)
          obtain ⟨F81, t82, t83, t84, rfl, rfl⟩ := hp
          have hP : va_P D vwCl [(h_yard, .inl (cI, 4, .inl f_yard)), (h_p0_bytes, .inl (cB, 940, .inl f_p0_bytes)), (h_p0_wordNames, .inl (cJ, 23, .inr (.inl f_p0_wordNames))), (h_p1_settings, .inl (cI, 5, .inl f_p1_settings)), (p1, .inr (1, vL 18 F_p1_)), (h_p1_manName, .inl (cJ, 12, .inr (.inl f_p1_manName))), (h0, .inr (5, vL 11 Fh)), (h_crew, .inl (cI, 4, .inl f_crew)), (p0, .inr (6, vL 12 F81))] H := hP
          have hD : va_D A [(h_yard, .inl (cI, 4, .inl f_yard)), (h_p0_bytes, .inl (cB, 940, .inl f_p0_bytes)), (h_p0_wordNames, .inl (cJ, 23, .inr (.inl f_p0_wordNames))), (h_p1_settings, .inl (cI, 5, .inl f_p1_settings)), (p1, .inr (1, vL 18 F_p1_)), (h_p1_manName, .inl (cJ, 12, .inr (.inl f_p1_manName))), (h0, .inr (5, vL 11 Fh)), (h_crew, .inl (cI, 4, .inl f_crew)), (p0, .inr (6, vL 12 F81))] := hD
          refine W.widen (k := 0) (n := 0) (Nat.le_of_ble_eq_true rfl) (Nat.le_of_ble_eq_true rfl) ?_
          exact ret_i (v := 0) hx hb hr hlocks hS (hP.sub (ws' := [(h0, .inr (5, vL 11 Fh)), (h_crew, .inl (cI, 4, .inl f_crew)), (h_yard, .inl (cI, 4, .inl f_yard)), (p0, .inr (6, vL 12 F81)), (h_p0_bytes, .inl (cB, 940, .inl f_p0_bytes)), (h_p0_wordNames, .inl (cJ, 23, .inr (.inl f_p0_wordNames))), (p1, .inr (1, vL 18 F_p1_)), (h_p1_settings, .inl (cI, 5, .inl f_p1_settings)), (h_p1_manName, .inl (cJ, 12, .inr (.inl f_p1_manName)))]) [6, 7, 0, 8, 1, 2, 4, 3, 5] rfl) (hD.sub (ws' := [(h0, .inr (5, vL 11 Fh)), (h_crew, .inl (cI, 4, .inl f_crew)), (h_yard, .inl (cI, 4, .inl f_yard)), (p0, .inr (6, vL 12 F81)), (h_p0_bytes, .inl (cB, 940, .inl f_p0_bytes)), (h_p0_wordNames, .inl (cJ, 23, .inr (.inl f_p0_wordNames))), (p1, .inr (1, vL 18 F_p1_)), (h_p1_settings, .inl (cI, 5, .inl f_p1_settings)), (h_p1_manName, .inl (cJ, 12, .inr (.inl f_p1_manName)))]) [6, 7, 0, 8, 1, 2, 4, 3, 5] (by decide) rfl) dX5_readJump_61 rfl (Nat.le_of_ble_eq_true rfl) (Nat.le_of_ble_eq_true rfl) ⟨Fh, x_jumpsTold, F81, x_p0_kind, x_p0_place, x_p0_value, x_p0_name, x_p0_number, 3, x_p0_place, x_p0_at, f_yard, SAME.rf, e_jumpsTold, (SAME.tr SAME.rf t82 (by decide)), (SAME.at t82 (by decide) e_p0_kind), (SAME.at t82 (by decide) e_p0_place), (SAME.at t82 (by decide) e_p0_value), (SAME.at t82 (by decide) e_p0_name), (SAME.at t82 (by decide) e_p0_number), t83, t84, (SAME.at t82 (by decide) e_p0_at), i_x_p0_at, ⟨by decide, by decide⟩, rfl⟩
    · have dc7 : r5.toInt = (-1) := eq_i (a := r5.toInt) (b := (-1)) rfl rfl c7
      have k85 : (-1) ≤ r5.toInt ∧ r5.toInt ≤ (-1) := ⟨t6.1, Int.le_trans (Int.le_of_eq dc7) (Int.le_refl _)⟩
      refine lv_iconst (v := (-1)) hx hb dX5_readJump_27 (by decide) ?_
      refine lv_goto (tgt := 36) hx hb dX5_readJump_28 (by decide) ?_
      refine lv_istore (lv' := [(4, .int (-1)), (3, .int r5), (0, .ref h0), (1, .ref p0), (2, .ref p1)]) hx hb dX5_readJump_36 hl (by decide) rfl (fun ls hl => ?_)
      refine lv_iload hx hb dX5_readJump_38 (lv_at hl 0 rfl) ?_
      refine lv_iconst (v := (-1)) hx hb dX5_readJump_40 (by decide) ?_
      refine lv_icmp_eq (tgt := 56) hx hb dX5_readJump_41 (by decide) (fun _ => ?_) (fun g => absurd (by decide) g)
      refine lv_aload_n hx hb dX5_readJump_56 rfl (lv_at hl 3 rfl) ?_
      refine lv_iconst (v := 3) hx hb dX5_readJump_57 (by decide) ?_
      refine call_Vi (wr := [(h0, .inr (5, vL 11 Fh)), (h_crew, .inl (cI, 4, .inl f_crew)), (h_yard, .inl (cI, 4, .inl f_yard)), (h_p0_bytes, .inl (cB, 940, .inl f_p0_bytes)), (h_p0_wordNames, .inl (cJ, 23, .inr (.inl f_p0_wordNames))), (h_p1_settings, .inl (cI, 5, .inl f_p1_settings)), (p1, .inr (1, vL 18 F_p1_)), (h_p1_manName, .inl (cJ, 12, .inr (.inl f_p1_manName)))]) (As := [.int 3]) (rest := []) hx hb hml hown hw (m_X6_fail l D cI cJ cB cP cM cZ p0 F_p0_ x_p0_place 3 _ e_p0_place) wV_X5_95_X6_fail dX5_readJump_58 hK hP hD hS hA [6] [0, 1, 2, 3, 4, 5, 7, 8] rfl rfl (by decide) (by decide) (by decide) 0 6 rfl rfl GG.fb hG.at hl.1 rfl (Nat.le_of_ble_eq_true rfl) ⟨(Nat.le_of_ble_eq_true rfl), (Nat.le_of_ble_eq_true rfl)⟩ ⟨(Nat.le_of_ble_eq_true rfl), (Nat.le_of_ble_eq_true rfl)⟩ (fun r86 u H locs hp hP hD hS => ?_)
      obtain ⟨F87, t88, t89, t90, rfl, rfl⟩ := hp
      have hP : va_P D vwCl [(h0, .inr (5, vL 11 Fh)), (h_crew, .inl (cI, 4, .inl f_crew)), (h_yard, .inl (cI, 4, .inl f_yard)), (h_p0_bytes, .inl (cB, 940, .inl f_p0_bytes)), (h_p0_wordNames, .inl (cJ, 23, .inr (.inl f_p0_wordNames))), (h_p1_settings, .inl (cI, 5, .inl f_p1_settings)), (p1, .inr (1, vL 18 F_p1_)), (h_p1_manName, .inl (cJ, 12, .inr (.inl f_p1_manName))), (p0, .inr (6, vL 12 F87))] H := hP
      have hD : va_D A [(h0, .inr (5, vL 11 Fh)), (h_crew, .inl (cI, 4, .inl f_crew)), (h_yard, .inl (cI, 4, .inl f_yard)), (h_p0_bytes, .inl (cB, 940, .inl f_p0_bytes)), (h_p0_wordNames, .inl (cJ, 23, .inr (.inl f_p0_wordNames))), (h_p1_settings, .inl (cI, 5, .inl f_p1_settings)), (p1, .inr (1, vL 18 F_p1_)), (h_p1_manName, .inl (cJ, 12, .inr (.inl f_p1_manName))), (p0, .inr (6, vL 12 F87))] := hD
      refine W.widen (k := 0) (n := 0) (Nat.le_of_ble_eq_true rfl) (Nat.le_of_ble_eq_true rfl) ?_
      exact ret_i (v := 0) hx hb hr hlocks hS (hP.sub (ws' := [(h0, .inr (5, vL 11 Fh)), (h_crew, .inl (cI, 4, .inl f_crew)), (h_yard, .inl (cI, 4, .inl f_yard)), (p0, .inr (6, vL 12 F87)), (h_p0_bytes, .inl (cB, 940, .inl f_p0_bytes)), (h_p0_wordNames, .inl (cJ, 23, .inr (.inl f_p0_wordNames))), (p1, .inr (1, vL 18 F_p1_)), (h_p1_settings, .inl (cI, 5, .inl f_p1_settings)), (h_p1_manName, .inl (cJ, 12, .inr (.inl f_p1_manName)))]) [0, 1, 2, 8, 3, 4, 6, 5, 7] rfl) (hD.sub (ws' := [(h0, .inr (5, vL 11 Fh)), (h_crew, .inl (cI, 4, .inl f_crew)), (h_yard, .inl (cI, 4, .inl f_yard)), (p0, .inr (6, vL 12 F87)), (h_p0_bytes, .inl (cB, 940, .inl f_p0_bytes)), (h_p0_wordNames, .inl (cJ, 23, .inr (.inl f_p0_wordNames))), (p1, .inr (1, vL 18 F_p1_)), (h_p1_settings, .inl (cI, 5, .inl f_p1_settings)), (h_p1_manName, .inl (cJ, 12, .inr (.inl f_p1_manName)))]) [0, 1, 2, 8, 3, 4, 6, 5, 7] (by decide) rfl) dX5_readJump_61 rfl (Nat.le_of_ble_eq_true rfl) (Nat.le_of_ble_eq_true rfl) ⟨Fh, x_jumpsTold, F87, x_p0_kind, x_p0_place, x_p0_value, x_p0_name, x_p0_number, 3, x_p0_place, x_p0_at, f_yard, SAME.rf, e_jumpsTold, (SAME.tr SAME.rf t88 (by decide)), (SAME.at t88 (by decide) e_p0_kind), (SAME.at t88 (by decide) e_p0_place), (SAME.at t88 (by decide) e_p0_value), (SAME.at t88 (by decide) e_p0_name), (SAME.at t88 (by decide) e_p0_number), t89, t90, (SAME.at t88 (by decide) e_p0_at), i_x_p0_at, ⟨by decide, by decide⟩, rfl⟩
  · have dc3 : r1.toInt = 0 := eq_i (a := r1.toInt) (b := 0) rfl rfl c3
    have k91 : 0 ≤ r1.toInt ∧ r1.toInt ≤ 0 := ⟨t2.1, Int.le_trans (Int.le_of_eq dc3) (Int.le_refl _)⟩
    refine lv_aload_n hx hb dX5_readJump_7 rfl (lv_at hl 1 rfl) ?_
    refine lv_iconst (v := 1) hx hb dX5_readJump_8 (by decide) ?_
    refine call_Vi (wr := [(h0, .inr (5, vL 11 Fh)), (h_crew, .inl (cI, 4, .inl f_crew)), (h_yard, .inl (cI, 4, .inl f_yard)), (h_p0_bytes, .inl (cB, 940, .inl f_p0_bytes)), (h_p0_wordNames, .inl (cJ, 23, .inr (.inl f_p0_wordNames))), (p1, .inr (1, vL 18 F_p1_)), (h_p1_settings, .inl (cI, 5, .inl f_p1_settings)), (h_p1_manName, .inl (cJ, 12, .inr (.inl f_p1_manName)))]) (As := [.int 1]) (rest := []) hx hb hml hown hw (m_X6_fail l D cI cJ cB cP cM cZ p0 F_p0_ x_p0_place 1 _ e_p0_place) wV_X5_95_X6_fail dX5_readJump_9 hK hP hD hS hA [8] [0, 1, 2, 3, 4, 5, 6, 7] rfl rfl (by decide) (by decide) (by decide) 0 6 rfl rfl GG.fb hG.at hl.1 rfl (Nat.le_of_ble_eq_true rfl) ⟨(Nat.le_of_ble_eq_true rfl), (Nat.le_of_ble_eq_true rfl)⟩ ⟨(Nat.le_of_ble_eq_true rfl), (Nat.le_of_ble_eq_true rfl)⟩ (fun r92 u H locs hp hP hD hS => ?_)
    obtain ⟨F93, t94, t95, t96, rfl, rfl⟩ := hp
    have hP : va_P D vwCl [(h0, .inr (5, vL 11 Fh)), (h_crew, .inl (cI, 4, .inl f_crew)), (h_yard, .inl (cI, 4, .inl f_yard)), (h_p0_bytes, .inl (cB, 940, .inl f_p0_bytes)), (h_p0_wordNames, .inl (cJ, 23, .inr (.inl f_p0_wordNames))), (p1, .inr (1, vL 18 F_p1_)), (h_p1_settings, .inl (cI, 5, .inl f_p1_settings)), (h_p1_manName, .inl (cJ, 12, .inr (.inl f_p1_manName))), (p0, .inr (6, vL 12 F93))] H := hP
    have hD : va_D A [(h0, .inr (5, vL 11 Fh)), (h_crew, .inl (cI, 4, .inl f_crew)), (h_yard, .inl (cI, 4, .inl f_yard)), (h_p0_bytes, .inl (cB, 940, .inl f_p0_bytes)), (h_p0_wordNames, .inl (cJ, 23, .inr (.inl f_p0_wordNames))), (p1, .inr (1, vL 18 F_p1_)), (h_p1_settings, .inl (cI, 5, .inl f_p1_settings)), (h_p1_manName, .inl (cJ, 12, .inr (.inl f_p1_manName))), (p0, .inr (6, vL 12 F93))] := hD
    refine W.widen (k := 0) (n := 0) (Nat.le_of_ble_eq_true rfl) (Nat.le_of_ble_eq_true rfl) ?_
    exact ret_i (v := 0) hx hb hr hlocks hS (hP.sub (ws' := [(h0, .inr (5, vL 11 Fh)), (h_crew, .inl (cI, 4, .inl f_crew)), (h_yard, .inl (cI, 4, .inl f_yard)), (p0, .inr (6, vL 12 F93)), (h_p0_bytes, .inl (cB, 940, .inl f_p0_bytes)), (h_p0_wordNames, .inl (cJ, 23, .inr (.inl f_p0_wordNames))), (p1, .inr (1, vL 18 F_p1_)), (h_p1_settings, .inl (cI, 5, .inl f_p1_settings)), (h_p1_manName, .inl (cJ, 12, .inr (.inl f_p1_manName)))]) [0, 1, 2, 8, 3, 4, 5, 6, 7] rfl) (hD.sub (ws' := [(h0, .inr (5, vL 11 Fh)), (h_crew, .inl (cI, 4, .inl f_crew)), (h_yard, .inl (cI, 4, .inl f_yard)), (p0, .inr (6, vL 12 F93)), (h_p0_bytes, .inl (cB, 940, .inl f_p0_bytes)), (h_p0_wordNames, .inl (cJ, 23, .inr (.inl f_p0_wordNames))), (p1, .inr (1, vL 18 F_p1_)), (h_p1_settings, .inl (cI, 5, .inl f_p1_settings)), (h_p1_manName, .inl (cJ, 12, .inr (.inl f_p1_manName)))]) [0, 1, 2, 8, 3, 4, 5, 6, 7] (by decide) rfl) dX5_readJump_12 rfl (Nat.le_of_ble_eq_true rfl) (Nat.le_of_ble_eq_true rfl) ⟨Fh, x_jumpsTold, F93, x_p0_kind, x_p0_place, x_p0_value, x_p0_name, x_p0_number, 1, x_p0_place, x_p0_at, f_yard, SAME.rf, e_jumpsTold, (SAME.tr SAME.rf t94 (by decide)), (SAME.at t94 (by decide) e_p0_kind), (SAME.at t94 (by decide) e_p0_place), (SAME.at t94 (by decide) e_p0_value), (SAME.at t94 (by decide) e_p0_name), (SAME.at t94 (by decide) e_p0_number), t95, t96, (SAME.at t94 (by decide) e_p0_at), i_x_p0_at, ⟨by decide, by decide⟩, rfl⟩
set_option maxHeartbeats 4000000 in
set_option maxRecDepth 100000 in
theorem m_X6_isNumberOf (l : Launch) (D : va_G) (cI cJ cB cP cM cZ : ClassId) (h0 : Nat) (Fh : Nat → Value) (x_kind : Int32) (x_value : Int32) (p0 : Int32) (sz : Nat) (e_kind : Fh 2 = .int x_kind) (e_value : Fh 4 = .int x_value) : CI l yX6_isNumberOf cX6_isNumberOf 2 (some .boolean) { frames := 0, cells := 0, slots := 0, locals := 0 } (GG D cI cJ cB cP cM cZ) D [(h0, .inr (6, vL 12 Fh))] sz [.ref h0, .int p0] (fun (r : Int32) (u : va_W) => IR 0 1 r ∧ u = [(h0, .inr (6, vL 12 Fh))]) := by
  refine CI_mk (by decide) (Nat.le_of_ble_eq_true rfl) ?_
  intro p e s m below meth c A ls E hAe hG hsz hP hD hA hS hl
  obtain ⟨hx, hb, hr, hw, hown, hlocks, hml, hnm⟩ := E
  have hK := hG.1
  have hl : lv_has ls 2 [(0, .ref h0), (1, .int p0)] := hl
  refine lv_aload_n hx hb dX6_isNumberOf_0 rfl (lv_at hl 0 rfl) ?_
  refine get_f (D := D) (ci := 6) (v := .int x_kind) (C := RX6) (T := TX6) (N := 12) hx hb hw inAX6 hown hK hP 0 rfl rfl 2 (by decide) (hw _ q_92) (fun _ h9 => h9) e_kind dX6_isNumberOf_1 ?_
  refine lv_iconst (v := 3) hx hb dX6_isNumberOf_4 (by decide) ?_
  refine lv_icmp_ne (tgt := 33) hx hb dX6_isNumberOf_5 (by decide) (fun c1 => ?_) (fun c1 => ?_)
  · have dc1 : x_kind.toInt ≠ 3 := ne_i (a := x_kind.toInt) (b := 3) rfl rfl c1
    refine lv_iconst (v := 0) hx hb dX6_isNumberOf_33 (by decide) ?_
    exact ret_i (v := 0) hx hb hr hlocks hS hP hD dX6_isNumberOf_34 rfl (Nat.le_of_ble_eq_true rfl) (Nat.le_of_ble_eq_true rfl) ⟨⟨by decide, by decide⟩, rfl⟩
  · have dc1 : x_kind.toInt = 3 := eq_i (a := x_kind.toInt) (b := 3) rfl rfl c1
    have k2 : 3 ≤ x_kind.toInt ∧ x_kind.toInt ≤ 3 := ⟨Int.le_trans (Int.le_refl _) (Int.le_of_eq dc1.symm), Int.le_trans (Int.le_of_eq dc1) (Int.le_refl _)⟩
    refine lv_aload_n hx hb dX6_isNumberOf_8 rfl (lv_at hl 0 rfl) ?_
    refine get_f (D := D) (ci := 6) (v := .int x_value) (C := RX6) (T := TX6) (N := 12) hx hb hw inAX6 hown hK hP 0 rfl rfl 4 (by decide) (hw _ q_97) (fun _ h9 => h9) e_value dX6_isNumberOf_9 ?_
    refine lv_bipush (v := 32) hx hb dX6_isNumberOf_12 (by decide) ?_
    refine lv_icmp_ge (tgt := 33) hx hb dX6_isNumberOf_14 (by decide) (fun c3 => ?_) (fun c3 => ?_)
    · have dc3 : 32 ≤ x_value.toInt := le_i (a := 32) (b := x_value.toInt) rfl rfl c3
      have k4 : 32 ≤ x_value.toInt ∧ x_value.toInt ≤ 2147483647 := ⟨Int.le_trans (Int.le_refl _) dc3, (ir_any _).2⟩
      refine lv_iconst (v := 0) hx hb dX6_isNumberOf_33 (by decide) ?_
      exact ret_i (v := 0) hx hb hr hlocks hS hP hD dX6_isNumberOf_34 rfl (Nat.le_of_ble_eq_true rfl) (Nat.le_of_ble_eq_true rfl) ⟨⟨by decide, by decide⟩, rfl⟩
    · have dc3 : x_value.toInt < 32 := nle_i (a := 32) (b := x_value.toInt) rfl rfl c3
      have k5 : (-2147483648) ≤ x_value.toInt ∧ x_value.toInt ≤ 31 := ⟨(ir_any _).1, up_lt dc3 (Int.le_refl _) (by decide)⟩
      refine lv_iload_n hx hb dX6_isNumberOf_17 rfl (lv_at hl 1 rfl) ?_
      refine lv_aload_n hx hb dX6_isNumberOf_18 rfl (lv_at hl 0 rfl) ?_
      refine get_f (D := D) (ci := 6) (v := .int x_value) (C := RX6) (T := TX6) (N := 12) hx hb hw inAX6 hown hK hP 0 rfl rfl 4 (by decide) (hw _ q_97) (fun _ h9 => h9) e_value dX6_isNumberOf_19 ?_
      obtain ⟨v6, ev6⟩ : ∃ z : Int32, ((p0 : Int32).toUInt32 >>> ((x_value : Int32).toUInt32 &&& Int32.toUInt32 31)).toInt32 = z := ⟨_, rfl⟩
      refine lv_iushr (v := v6) hx hb dX6_isNumberOf_22 ev6 ?_
      refine lv_iconst (v := 1) hx hb dX6_isNumberOf_23 (by decide) ?_
      refine lv_iand hx hb dX6_isNumberOf_24 ?_
      refine lv_topi (fun v7 ev7 => ?_)
      have k8 : 0 ≤ v7.toInt ∧ v7.toInt ≤ 1 := by rw [ev7]; exact and_i v6 1 (by decide)
      refine lv_iconst (v := 1) hx hb dX6_isNumberOf_25 (by decide) ?_
      refine lv_icmp_ne (tgt := 33) hx hb dX6_isNumberOf_26 (by decide) (fun c9 => ?_) (fun c9 => ?_)
      · have dc9 : v7.toInt ≠ 1 := ne_i (a := v7.toInt) (b := 1) rfl rfl c9
        have k10 : 0 ≤ v7.toInt ∧ v7.toInt ≤ 0 := ⟨k8.1, ne_hi dc9 k8.2 ⟨Int.le_refl _, Int.le_refl _⟩ (by decide)⟩
        refine lv_iconst (v := 0) hx hb dX6_isNumberOf_33 (by decide) ?_
        exact ret_i (v := 0) hx hb hr hlocks hS hP hD dX6_isNumberOf_34 rfl (Nat.le_of_ble_eq_true rfl) (Nat.le_of_ble_eq_true rfl) ⟨⟨by decide, by decide⟩, rfl⟩
      · have dc9 : v7.toInt = 1 := eq_i (a := v7.toInt) (b := 1) rfl rfl c9
        have k11 : 1 ≤ v7.toInt ∧ v7.toInt ≤ 1 := ⟨Int.le_trans (Int.le_refl _) (Int.le_of_eq dc9.symm), k8.2⟩
        refine lv_iconst (v := 1) hx hb dX6_isNumberOf_29 (by decide) ?_
        refine lv_goto (tgt := 34) hx hb dX6_isNumberOf_30 (by decide) ?_
        exact ret_i (v := 1) hx hb hr hlocks hS hP hD dX6_isNumberOf_34 rfl (Nat.le_of_ble_eq_true rfl) (Nat.le_of_ble_eq_true rfl) ⟨⟨by decide, by decide⟩, rfl⟩
set_option maxHeartbeats 4000000 in
set_option maxRecDepth 100000 in
theorem m_X5_readHigh (l : Launch) (D : va_G) (cI cJ cB cP cM cZ : ClassId) (h0 : Nat) (h_high : Nat) (p0 : Nat) (h_p0_bytes : Nat) (h_p0_wordNames : Nat) (p1 : Nat) (Fh : Nat → Value) (x_heightsTold : Int32) (f_high : Nat → Int32) (F_p0_ : Nat → Value) (x_p0_length : Int32) (x_p0_kind : Int32) (x_p0_place : Int32) (x_p0_value : Int32) (x_p0_name : Int64) (x_p0_number : Int32) (x_p0_faultKind : Int32) (x_p0_faultPlace : Int32) (x_p0_at : Int32) (x_p0_mostBytes : Int32) (f_p0_bytes : Nat → Int32) (f_p0_wordNames : Nat → Int64) (F_p1_ : Nat → Value) (x_p1_bends : Int32) (sz : Nat) (e_high : Fh 2 = .ref h_high) (e_heightsTold : Fh 10 = .int x_heightsTold) (e_p0_bytes : F_p0_ 0 = .ref h_p0_bytes) (e_p0_length : F_p0_ 1 = .int x_p0_length) (i_x_p0_length : IR 0 940 x_p0_length) (e_p0_kind : F_p0_ 2 = .int x_p0_kind) (e_p0_place : F_p0_ 3 = .int x_p0_place) (e_p0_value : F_p0_ 4 = .int x_p0_value) (e_p0_name : F_p0_ 5 = .long x_p0_name) (e_p0_number : F_p0_ 6 = .int x_p0_number) (e_p0_faultKind : F_p0_ 7 = .int x_p0_faultKind) (e_p0_faultPlace : F_p0_ 8 = .int x_p0_faultPlace) (e_p0_wordNames : F_p0_ 9 = .ref h_p0_wordNames) (e_p0_at : F_p0_ 10 = .int x_p0_at) (i_x_p0_at : IR 0 940 x_p0_at) (e_p0_mostBytes : F_p0_ 11 = .int x_p0_mostBytes) (e_p1_bends : F_p1_ 14 = .int x_p1_bends) (i_x_p1_bends : IR 0 12 x_p1_bends) : CI l yX5_readHigh cX5_readHigh 4 (some .boolean) { frames := 3, cells := 0, slots := 0, locals := 65 } (GG D cI cJ cB cP cM cZ) D [(h0, .inr (5, vL 11 Fh)), (h_high, .inl (cI, 12, .inl f_high)), (p0, .inr (6, vL 12 F_p0_)), (h_p0_bytes, .inl (cB, 940, .inl f_p0_bytes)), (h_p0_wordNames, .inl (cJ, 23, .inr (.inl f_p0_wordNames))), (p1, .inr (1, vL 18 F_p1_))] sz [.ref h0, .ref p0, .ref p1] (fun (r : Int32) (u : va_W) => ∃ (Gh : Nat → Value) (y_heightsTold : Int32) (G_p0_ : Nat → Value) (y_p0_kind : Int32) (y_p0_place : Int32) (y_p0_value : Int32) (y_p0_name : Int64) (y_p0_number : Int32) (y_p0_faultKind : Int32) (y_p0_faultPlace : Int32) (y_p0_at : Int32) (g_high : Nat → Int32), SAME [10] Fh Gh ∧ Gh 10 = .int y_heightsTold ∧ SAME [2, 3, 4, 5, 6, 7, 8, 10] F_p0_ G_p0_ ∧ G_p0_ 2 = .int y_p0_kind ∧ G_p0_ 3 = .int y_p0_place ∧ G_p0_ 4 = .int y_p0_value ∧ G_p0_ 5 = .long y_p0_name ∧ G_p0_ 6 = .int y_p0_number ∧ G_p0_ 7 = .int y_p0_faultKind ∧ G_p0_ 8 = .int y_p0_faultPlace ∧ G_p0_ 10 = .int y_p0_at ∧ IR 0 940 y_p0_at ∧ IR 0 1 r ∧ u = [(h0, .inr (5, vL 11 Gh)), (h_high, .inl (cI, 12, .inl g_high)), (p0, .inr (6, vL 12 G_p0_)), (h_p0_bytes, .inl (cB, 940, .inl f_p0_bytes)), (h_p0_wordNames, .inl (cJ, 23, .inr (.inl f_p0_wordNames))), (p1, .inr (1, vL 18 F_p1_))]) := by
  refine CI_mk (by decide) (Nat.le_of_ble_eq_true rfl) ?_
  intro p e s m below meth c A ls E hAe hG hsz hP hD hA hS hl
  obtain ⟨hx, hb, hr, hw, hown, hlocks, hml, hnm⟩ := E
  have hK := hG.1
  have i_x_p0_length : 0 ≤ x_p0_length.toInt ∧ x_p0_length.toInt ≤ 940 := i_x_p0_length
  have i_x_p0_at : 0 ≤ x_p0_at.toInt ∧ x_p0_at.toInt ≤ 940 := i_x_p0_at
  have i_x_p1_bends : 0 ≤ x_p1_bends.toInt ∧ x_p1_bends.toInt ≤ 12 := i_x_p1_bends
  have hl : lv_has ls 4 [(0, .ref h0), (1, .ref p0), (2, .ref p1)] := hl
  refine lv_aload_n hx hb dX5_readHigh_0 rfl (lv_at hl 1 rfl) ?_
  refine lv_aload_n hx hb dX5_readHigh_1 rfl (lv_at hl 0 rfl) ?_
  refine get_f (D := D) (ci := 5) (v := .int x_heightsTold) (C := RX5) (T := TX5) (N := 11) hx hb hw inAX5 hown hK hP 0 rfl rfl 10 (by decide) (hw _ q_174) (fun _ h9 => h9) e_heightsTold dX5_readHigh_2 ?_
  refine call_Vi (wr := [(h0, .inr (5, vL 11 Fh)), (h_high, .inl (cI, 12, .inl f_high)), (h_p0_bytes, .inl (cB, 940, .inl f_p0_bytes)), (h_p0_wordNames, .inl (cJ, 23, .inr (.inl f_p0_wordNames))), (p1, .inr (1, vL 18 F_p1_))]) (As := [.int x_heightsTold]) (rest := []) hx hb hml hown hw (m_X6_isNumberOf l D cI cJ cB cP cM cZ p0 F_p0_ x_p0_kind x_p0_value x_heightsTold _ e_p0_kind e_p0_value) wV_X5_141_X6_isNumberOf dX5_readHigh_5 hK hP hD hS hA [2] [0, 1, 3, 4, 5] rfl rfl (by decide) (by decide) (by decide) 0 6 rfl rfl GG.fb hG.at hl.1 rfl (Nat.le_of_ble_eq_true rfl) ⟨(Nat.le_of_ble_eq_true rfl), (Nat.le_of_ble_eq_true rfl)⟩ ⟨(Nat.le_of_ble_eq_true rfl), (Nat.le_of_ble_eq_true rfl)⟩ (fun r1 u H locs hp hP hD hS => ?_)
  obtain ⟨t2, rfl⟩ := hp
  have hP : va_P D vwCl [(h0, .inr (5, vL 11 Fh)), (h_high, .inl (cI, 12, .inl f_high)), (h_p0_bytes, .inl (cB, 940, .inl f_p0_bytes)), (h_p0_wordNames, .inl (cJ, 23, .inr (.inl f_p0_wordNames))), (p1, .inr (1, vL 18 F_p1_)), (p0, .inr (6, vL 12 F_p0_))] H := hP
  have hD : va_D A [(h0, .inr (5, vL 11 Fh)), (h_high, .inl (cI, 12, .inl f_high)), (h_p0_bytes, .inl (cB, 940, .inl f_p0_bytes)), (h_p0_wordNames, .inl (cJ, 23, .inr (.inl f_p0_wordNames))), (p1, .inr (1, vL 18 F_p1_)), (p0, .inr (6, vL 12 F_p0_))] := hD
  refine W.widen (k := 0) (n := 0) (Nat.le_of_ble_eq_true rfl) (Nat.le_of_ble_eq_true rfl) ?_
  refine lv_if_eq (tgt := 17) hx hb dX5_readHigh_8 (by decide) (fun c3 => ?_) (fun c3 => ?_)
  · have dc3 : r1.toInt = 0 := eq_i (a := r1.toInt) (b := 0) rfl rfl c3
    have k4 : 0 ≤ r1.toInt ∧ r1.toInt ≤ 0 := ⟨t2.1, Int.le_trans (Int.le_of_eq dc3) (Int.le_refl _)⟩
    refine lv_aload_n hx hb dX5_readHigh_17 rfl (lv_at hl 1 rfl) ?_
    refine lv_iconst (v := 0) hx hb dX5_readHigh_18 (by decide) ?_
    refine lv_aload_n hx hb dX5_readHigh_19 rfl (lv_at hl 2 rfl) ?_
    refine get_f (D := D) (ci := 1) (v := .int x_p1_bends) (C := RX1) (T := TX1) (N := 18) hx hb hw inAX1 hown hK hP 4 rfl rfl 14 (by decide) (hw _ q_358) (fun _ h9 => h9) e_p1_bends dX5_readHigh_20 ?_
    refine lv_iconst (v := 1) hx hb dX5_readHigh_23 (by decide) ?_
    refine lv_isub hx hb dX5_readHigh_24 ?_
    refine lv_topi (fun v5 ev5 => ?_)
    have bv5 : v5.toInt = x_p1_bends.toInt - 1 := by rw [ev5]; exact sub_k rfl rfl i_x_p1_bends ⟨Int.le_refl _, Int.le_refl _⟩ (by decide)
    have k6 : (-1) ≤ v5.toInt ∧ v5.toInt ≤ 11 := sub_r bv5 i_x_p1_bends ⟨Int.le_refl _, Int.le_refl _⟩ (by decide)
    refine call_Vi (wr := [(h0, .inr (5, vL 11 Fh)), (h_high, .inl (cI, 12, .inl f_high)), (p1, .inr (1, vL 18 F_p1_))]) (As := [.int 0, .int v5]) (rest := []) hx hb hml hown hw (m_X6_takeNumber l D cI cJ cB cP cM cZ p0 h_p0_bytes h_p0_wordNames F_p0_ x_p0_length x_p0_kind x_p0_place x_p0_value x_p0_name x_p0_at x_p0_mostBytes f_p0_bytes f_p0_wordNames 0 v5 _ e_p0_bytes e_p0_length i_x_p0_length e_p0_kind e_p0_place e_p0_value e_p0_name e_p0_wordNames e_p0_at i_x_p0_at e_p0_mostBytes) wV_X5_136_X6_takeNumber dX5_readHigh_25 hK hP hD hS hA [5, 2, 3] [0, 1, 4] rfl rfl (by decide) (by decide) (by decide) 0 6 rfl rfl GG.fb hG.at hl.1 rfl (Nat.le_of_ble_eq_true rfl) ⟨(Nat.le_of_ble_eq_true rfl), (Nat.le_of_ble_eq_true rfl)⟩ ⟨(Nat.le_of_ble_eq_true rfl), (Nat.le_of_ble_eq_true rfl)⟩ (fun r7 u H locs hp hP hD hS => ?_)
    rcases hp with ⟨F8, y9, t10, t11, t12, t13, rfl, rfl⟩ | ⟨F14, y15, y16, y17, y18, y19, t20, t21, t22, t23, t24, t25, t26, t27, t28, t29, t30, t31, rfl, rfl⟩
    · have hP : va_P D vwCl [(h0, .inr (5, vL 11 Fh)), (h_high, .inl (cI, 12, .inl f_high)), (p1, .inr (1, vL 18 F_p1_)), (p0, .inr (6, vL 12 F8)), (h_p0_bytes, .inl (cB, 940, .inl f_p0_bytes)), (h_p0_wordNames, .inl (cJ, 23, .inr (.inl f_p0_wordNames)))] H := hP
      have hD : va_D A [(h0, .inr (5, vL 11 Fh)), (h_high, .inl (cI, 12, .inl f_high)), (p1, .inr (1, vL 18 F_p1_)), (p0, .inr (6, vL 12 F8)), (h_p0_bytes, .inl (cB, 940, .inl f_p0_bytes)), (h_p0_wordNames, .inl (cJ, 23, .inr (.inl f_p0_wordNames)))] := hD
      refine W.widen (k := 0) (n := 0) (Nat.le_of_ble_eq_true rfl) (Nat.le_of_ble_eq_true rfl) ?_
      refine lv_if_ne (tgt := 33) hx hb dX5_readHigh_28 (by decide) (fun g => absurd (by decide) g) (fun _ => ?_)
      refine lv_iconst (v := 0) hx hb dX5_readHigh_31 (by decide) ?_
      exact ret_i (v := 0) hx hb hr hlocks hS (hP.sub (ws' := [(h0, .inr (5, vL 11 Fh)), (h_high, .inl (cI, 12, .inl f_high)), (p0, .inr (6, vL 12 F8)), (h_p0_bytes, .inl (cB, 940, .inl f_p0_bytes)), (h_p0_wordNames, .inl (cJ, 23, .inr (.inl f_p0_wordNames))), (p1, .inr (1, vL 18 F_p1_))]) [0, 1, 3, 4, 5, 2] rfl) (hD.sub (ws' := [(h0, .inr (5, vL 11 Fh)), (h_high, .inl (cI, 12, .inl f_high)), (p0, .inr (6, vL 12 F8)), (h_p0_bytes, .inl (cB, 940, .inl f_p0_bytes)), (h_p0_wordNames, .inl (cJ, 23, .inr (.inl f_p0_wordNames))), (p1, .inr (1, vL 18 F_p1_))]) [0, 1, 3, 4, 5, 2] (by decide) rfl) dX5_readHigh_32 rfl (Nat.le_of_ble_eq_true rfl) (Nat.le_of_ble_eq_true rfl) ⟨Fh, x_heightsTold, F8, x_p0_kind, x_p0_place, x_p0_value, x_p0_name, x_p0_number, y9, x_p0_place, x_p0_at, f_high, SAME.rf, e_heightsTold, (SAME.tr SAME.rf t10 (by decide)), (SAME.at t10 (by decide) e_p0_kind), (SAME.at t10 (by decide) e_p0_place), (SAME.at t10 (by decide) e_p0_value), (SAME.at t10 (by decide) e_p0_name), (SAME.at t10 (by decide) e_p0_number), t11, t13, (SAME.at t10 (by decide) e_p0_at), i_x_p0_at, ⟨by decide, by decide⟩, rfl⟩
    · have hP : va_P D vwCl [(h0, .inr (5, vL 11 Fh)), (h_high, .inl (cI, 12, .inl f_high)), (p1, .inr (1, vL 18 F_p1_)), (p0, .inr (6, vL 12 F14)), (h_p0_bytes, .inl (cB, 940, .inl f_p0_bytes)), (h_p0_wordNames, .inl (cJ, 23, .inr (.inl f_p0_wordNames)))] H := hP
      have hD : va_D A [(h0, .inr (5, vL 11 Fh)), (h_high, .inl (cI, 12, .inl f_high)), (p1, .inr (1, vL 18 F_p1_)), (p0, .inr (6, vL 12 F14)), (h_p0_bytes, .inl (cB, 940, .inl f_p0_bytes)), (h_p0_wordNames, .inl (cJ, 23, .inr (.inl f_p0_wordNames)))] := hD
      refine W.widen (k := 0) (n := 0) (Nat.le_of_ble_eq_true rfl) (Nat.le_of_ble_eq_true rfl) ?_
      have k32 : 3 ≤ x_p0_kind.toInt ∧ x_p0_kind.toInt ≤ 3 := ⟨Int.le_trans (Int.le_refl _) (Int.le_of_eq t29.symm), Int.le_trans (Int.le_of_eq t29) (Int.le_refl _)⟩
      have k33 : 0 ≤ x_p0_value.toInt ∧ x_p0_value.toInt ≤ 2147483647 := ⟨Int.le_trans (Int.le_refl _) t30, (ir_any _).2⟩
      have k34 : 0 ≤ x_p0_value.toInt ∧ x_p0_value.toInt ≤ 11 := ⟨k33.1, Int.le_trans t31 k6.2⟩
      have k35 : 0 ≤ v5.toInt ∧ v5.toInt ≤ 11 := ⟨Int.le_trans k33.1 t31, k6.2⟩
      have k36 : 1 ≤ x_p1_bends.toInt ∧ x_p1_bends.toInt ≤ 12 := ⟨lin_lo (lin_m bv5) k35.1 (by decide), i_x_p1_bends.2⟩
      refine lv_if_ne (tgt := 33) hx hb dX5_readHigh_28 (by decide) (fun _ => ?_) (fun g => absurd g (by decide))
      refine lv_aload_n hx hb dX5_readHigh_33 rfl (lv_at hl 1 rfl) ?_
      refine get_f (D := D) (ci := 6) (v := .int x_p0_value) (C := RX6) (T := TX6) (N := 12) hx hb hw inAX6 hown hK hP 3 rfl rfl 6 (by decide) (hw _ q_104) (fun _ h9 => h9) t26 dX5_readHigh_34 ?_
      refine lv_istore_n (lv' := [(3, .int x_p0_value), (0, .ref h0), (1, .ref p0), (2, .ref p1)]) hx hb dX5_readHigh_37 rfl hl (by decide) rfl (fun ls hl => ?_)
      refine lv_aload_n hx hb dX5_readHigh_38 rfl (lv_at hl 1 rfl) ?_
      refine lv_dup hx hb dX5_readHigh_39 rfl ?_
      refine get_f (D := D) (ci := 5) (v := .int x_heightsTold) (C := RX5) (T := TX5) (N := 11) hx hb hw inAX5 hown hK hP 0 rfl rfl 10 (by decide) (hw _ q_174) (fun _ h9 => h9) e_heightsTold dX5_readHigh_40 ?_
      refine lv_iconst (v := 1) hx hb dX5_readHigh_43 (by decide) ?_
      refine lv_iload_n hx hb dX5_readHigh_44 rfl (lv_at hl 0 rfl) ?_
      refine lv_ishl hx hb dX5_readHigh_45 ?_
      refine lv_topi (fun v37 ev37 => ?_)
      refine lv_ior hx hb dX5_readHigh_46 ?_
      refine lv_topi (fun v38 ev38 => ?_)
      refine put_f (D := D) (ci := 5) (v := .int v38) (ty := .int) (C := RX5) (T := TX5) (N := 11) hx hb hw inAX5 tyX5 tyX5_ok nmX5 hown hK hP hD hS 0 rfl rfl 10 (by decide) (hw _ q_174) (fun _ h9 => h9) rfl (by decide +kernel) rfl rfl dX5_readHigh_47 (fun H locs F39 eF39 hP hD hS => ?_)
      have hP : va_P D vwCl [(h0, .inr (5, vL 11 F39)), (h_high, .inl (cI, 12, .inl f_high)), (p1, .inr (1, vL 18 F_p1_)), (p0, .inr (6, vL 12 F14)), (h_p0_bytes, .inl (cB, 940, .inl f_p0_bytes)), (h_p0_wordNames, .inl (cJ, 23, .inr (.inl f_p0_wordNames)))] H := hP
      have hD : va_D A [(h0, .inr (5, vL 11 F39)), (h_high, .inl (cI, 12, .inl f_high)), (p1, .inr (1, vL 18 F_p1_)), (p0, .inr (6, vL 12 F14)), (h_p0_bytes, .inl (cB, 940, .inl f_p0_bytes)), (h_p0_wordNames, .inl (cJ, 23, .inr (.inl f_p0_wordNames)))] := hD
      refine lv_aload_n hx hb dX5_readHigh_50 rfl (lv_at hl 2 rfl) ?_
      refine lv_iconst (v := 0) hx hb dX5_readHigh_51 (by decide) ?_
      refine lv_bipush (v := 9) hx hb dX5_readHigh_52 (by decide) ?_
      have n40 : F14 0 = .ref h_p0_bytes := (SAME.at t20 (by decide) e_p0_bytes)
      have n41 : F14 1 = .int x_p0_length := (SAME.at t20 (by decide) e_p0_length)
      have n42 : F14 9 = .ref h_p0_wordNames := (SAME.at t20 (by decide) e_p0_wordNames)
      have n43 : F14 11 = .int x_p0_mostBytes := (SAME.at t20 (by decide) e_p0_mostBytes)
      refine call_Vi (wr := [(h0, .inr (5, vL 11 F39)), (h_high, .inl (cI, 12, .inl f_high)), (p1, .inr (1, vL 18 F_p1_))]) (As := [.int 0, .int 9]) (rest := []) hx hb hml hown hw (m_X6_takeNumber l D cI cJ cB cP cM cZ p0 h_p0_bytes h_p0_wordNames F14 x_p0_length y15 y16 y17 y18 y19 x_p0_mostBytes f_p0_bytes f_p0_wordNames 0 9 _ n40 n41 i_x_p0_length t21 t22 t24 t25 n42 t27 t28 n43) wV_X5_136_X6_takeNumber dX5_readHigh_54 hK hP hD hS hA [3, 4, 5] [0, 1, 2] rfl rfl (by decide) (by decide) (by decide) 0 6 rfl rfl GG.fb hG.at hl.1 rfl (Nat.le_of_ble_eq_true rfl) ⟨(Nat.le_of_ble_eq_true rfl), (Nat.le_of_ble_eq_true rfl)⟩ ⟨(Nat.le_of_ble_eq_true rfl), (Nat.le_of_ble_eq_true rfl)⟩ (fun r44 u H locs hp hP hD hS => ?_)
      rcases hp with ⟨F45, y46, t47, t48, t49, t50, rfl, rfl⟩ | ⟨F51, y52, y53, y54, y55, y56, t57, t58, t59, t60, t61, t62, t63, t64, t65, t66, t67, t68, rfl, rfl⟩
      · have hP : va_P D vwCl [(h0, .inr (5, vL 11 F39)), (h_high, .inl (cI, 12, .inl f_high)), (p1, .inr (1, vL 18 F_p1_)), (p0, .inr (6, vL 12 F45)), (h_p0_bytes, .inl (cB, 940, .inl f_p0_bytes)), (h_p0_wordNames, .inl (cJ, 23, .inr (.inl f_p0_wordNames)))] H := hP
        have hD : va_D A [(h0, .inr (5, vL 11 F39)), (h_high, .inl (cI, 12, .inl f_high)), (p1, .inr (1, vL 18 F_p1_)), (p0, .inr (6, vL 12 F45)), (h_p0_bytes, .inl (cB, 940, .inl f_p0_bytes)), (h_p0_wordNames, .inl (cJ, 23, .inr (.inl f_p0_wordNames)))] := hD
        refine W.widen (k := 0) (n := 0) (Nat.le_of_ble_eq_true rfl) (Nat.le_of_ble_eq_true rfl) ?_
        refine lv_if_ne (tgt := 62) hx hb dX5_readHigh_57 (by decide) (fun g => absurd (by decide) g) (fun _ => ?_)
        refine lv_iconst (v := 0) hx hb dX5_readHigh_60 (by decide) ?_
        exact ret_i (v := 0) hx hb hr hlocks hS (hP.sub (ws' := [(h0, .inr (5, vL 11 F39)), (h_high, .inl (cI, 12, .inl f_high)), (p0, .inr (6, vL 12 F45)), (h_p0_bytes, .inl (cB, 940, .inl f_p0_bytes)), (h_p0_wordNames, .inl (cJ, 23, .inr (.inl f_p0_wordNames))), (p1, .inr (1, vL 18 F_p1_))]) [0, 1, 3, 4, 5, 2] rfl) (hD.sub (ws' := [(h0, .inr (5, vL 11 F39)), (h_high, .inl (cI, 12, .inl f_high)), (p0, .inr (6, vL 12 F45)), (h_p0_bytes, .inl (cB, 940, .inl f_p0_bytes)), (h_p0_wordNames, .inl (cJ, 23, .inr (.inl f_p0_wordNames))), (p1, .inr (1, vL 18 F_p1_))]) [0, 1, 3, 4, 5, 2] (by decide) rfl) dX5_readHigh_61 rfl (Nat.le_of_ble_eq_true rfl) (Nat.le_of_ble_eq_true rfl) ⟨F39, v38, F45, y15, y16, y17, y18, x_p0_value, y46, y16, y19, f_high, (SAME.up eF39 SAME.rf (by decide)), (get_eq eF39), (SAME.tr (SAME.tr SAME.rf t20 (by decide)) t47 (by decide)), (SAME.at t47 (by decide) t21), (SAME.at t47 (by decide) t22), (SAME.at t47 (by decide) t24), (SAME.at t47 (by decide) t25), (SAME.at t47 (by decide) t26), t48, t50, (SAME.at t47 (by decide) t27), t28, ⟨by decide, by decide⟩, rfl⟩
      · have hP : va_P D vwCl [(h0, .inr (5, vL 11 F39)), (h_high, .inl (cI, 12, .inl f_high)), (p1, .inr (1, vL 18 F_p1_)), (p0, .inr (6, vL 12 F51)), (h_p0_bytes, .inl (cB, 940, .inl f_p0_bytes)), (h_p0_wordNames, .inl (cJ, 23, .inr (.inl f_p0_wordNames)))] H := hP
        have hD : va_D A [(h0, .inr (5, vL 11 F39)), (h_high, .inl (cI, 12, .inl f_high)), (p1, .inr (1, vL 18 F_p1_)), (p0, .inr (6, vL 12 F51)), (h_p0_bytes, .inl (cB, 940, .inl f_p0_bytes)), (h_p0_wordNames, .inl (cJ, 23, .inr (.inl f_p0_wordNames)))] := hD
        refine W.widen (k := 0) (n := 0) (Nat.le_of_ble_eq_true rfl) (Nat.le_of_ble_eq_true rfl) ?_
        have k69 : 3 ≤ y15.toInt ∧ y15.toInt ≤ 3 := ⟨Int.le_trans (Int.le_refl _) (Int.le_of_eq t66.symm), Int.le_trans (Int.le_of_eq t66) (Int.le_refl _)⟩
        have k70 : 0 ≤ y17.toInt ∧ y17.toInt ≤ 2147483647 := ⟨Int.le_trans (Int.le_refl _) t67, (ir_any _).2⟩
        have k71 : 0 ≤ y17.toInt ∧ y17.toInt ≤ 9 := ⟨k70.1, Int.le_trans t68 (Int.le_refl _)⟩
        refine lv_if_ne (tgt := 62) hx hb dX5_readHigh_57 (by decide) (fun _ => ?_) (fun g => absurd g (by decide))
        refine lv_aload_n hx hb dX5_readHigh_62 rfl (lv_at hl 1 rfl) ?_
        have n72 : F39 2 = .ref h_high := (get_ne eF39 (by decide) e_high)
        refine get_f (D := D) (ci := 5) (v := .ref h_high) (C := RX5) (T := TX5) (N := 11) hx hb hw inAX5 hown hK hP 0 rfl rfl 2 (by decide) (hw _ q_154) (fun _ h9 => h9) n72 dX5_readHigh_63 ?_
        refine lv_iload_n hx hb dX5_readHigh_66 rfl (lv_at hl 0 rfl) ?_
        refine lv_aload_n hx hb dX5_readHigh_67 rfl (lv_at hl 2 rfl) ?_
        refine get_f (D := D) (ci := 6) (v := .int y17) (C := RX6) (T := TX6) (N := 12) hx hb hw inAX6 hown hK hP 3 rfl rfl 6 (by decide) (hw _ q_104) (fun _ h9 => h9) t63 dX5_readHigh_68 ?_
        obtain ⟨g73, eg73⟩ : ∃ z : Nat → Int32, upd f_high x_p0_value.toNatClampNeg y17 = z := ⟨_, rfl⟩
        refine iast_g hx hb hK hP hD hS 1 0 rfl rfl (ix_k k34 (by decide) (by decide)) eg73 dX5_readHigh_71 (fun H locs hP hD hS => ?_)
        have hP : va_P D vwCl [(h0, .inr (5, vL 11 F39)), (h_high, .inl (cI, 12, .inl g73)), (p1, .inr (1, vL 18 F_p1_)), (p0, .inr (6, vL 12 F51)), (h_p0_bytes, .inl (cB, 940, .inl f_p0_bytes)), (h_p0_wordNames, .inl (cJ, 23, .inr (.inl f_p0_wordNames)))] H := hP
        have hD : va_D A [(h0, .inr (5, vL 11 F39)), (h_high, .inl (cI, 12, .inl g73)), (p1, .inr (1, vL 18 F_p1_)), (p0, .inr (6, vL 12 F51)), (h_p0_bytes, .inl (cB, 940, .inl f_p0_bytes)), (h_p0_wordNames, .inl (cJ, 23, .inr (.inl f_p0_wordNames)))] := hD
        refine lv_iconst (v := 1) hx hb dX5_readHigh_72 (by decide) ?_
        exact ret_i (v := 1) hx hb hr hlocks hS (hP.sub (ws' := [(h0, .inr (5, vL 11 F39)), (h_high, .inl (cI, 12, .inl g73)), (p0, .inr (6, vL 12 F51)), (h_p0_bytes, .inl (cB, 940, .inl f_p0_bytes)), (h_p0_wordNames, .inl (cJ, 23, .inr (.inl f_p0_wordNames))), (p1, .inr (1, vL 18 F_p1_))]) [0, 1, 3, 4, 5, 2] rfl) (hD.sub (ws' := [(h0, .inr (5, vL 11 F39)), (h_high, .inl (cI, 12, .inl g73)), (p0, .inr (6, vL 12 F51)), (h_p0_bytes, .inl (cB, 940, .inl f_p0_bytes)), (h_p0_wordNames, .inl (cJ, 23, .inr (.inl f_p0_wordNames))), (p1, .inr (1, vL 18 F_p1_))]) [0, 1, 3, 4, 5, 2] (by decide) rfl) dX5_readHigh_73 rfl (Nat.le_of_ble_eq_true rfl) (Nat.le_of_ble_eq_true rfl) ⟨F39, v38, F51, y52, y53, y54, y55, y17, x_p0_faultKind, x_p0_faultPlace, y56, g73, (SAME.up eF39 SAME.rf (by decide)), (get_eq eF39), (SAME.tr (SAME.tr SAME.rf t20 (by decide)) t57 (by decide)), t58, t59, t61, t62, t63, (SAME.at t57 (by decide) (SAME.at t20 (by decide) e_p0_faultKind)), (SAME.at t57 (by decide) (SAME.at t20 (by decide) e_p0_faultPlace)), t64, t65, ⟨by decide, by decide⟩, rfl⟩
  · have dc3 : r1.toInt ≠ 0 := ne_i (a := r1.toInt) (b := 0) rfl rfl c3
    have k74 : 1 ≤ r1.toInt ∧ r1.toInt ≤ 1 := ⟨ne_lo dc3 t2.1 ⟨Int.le_refl _, Int.le_refl _⟩ (by decide), t2.2⟩
    refine lv_aload_n hx hb dX5_readHigh_11 rfl (lv_at hl 1 rfl) ?_
    refine lv_iconst (v := 3) hx hb dX5_readHigh_12 (by decide) ?_
    refine call_Vi (wr := [(h0, .inr (5, vL 11 Fh)), (h_high, .inl (cI, 12, .inl f_high)), (h_p0_bytes, .inl (cB, 940, .inl f_p0_bytes)), (h_p0_wordNames, .inl (cJ, 23, .inr (.inl f_p0_wordNames))), (p1, .inr (1, vL 18 F_p1_))]) (As := [.int 3]) (rest := []) hx hb hml hown hw (m_X6_fail l D cI cJ cB cP cM cZ p0 F_p0_ x_p0_place 3 _ e_p0_place) wV_X5_95_X6_fail dX5_readHigh_13 hK hP hD hS hA [5] [0, 1, 2, 3, 4] rfl rfl (by decide) (by decide) (by decide) 0 6 rfl rfl GG.fb hG.at hl.1 rfl (Nat.le_of_ble_eq_true rfl) ⟨(Nat.le_of_ble_eq_true rfl), (Nat.le_of_ble_eq_true rfl)⟩ ⟨(Nat.le_of_ble_eq_true rfl), (Nat.le_of_ble_eq_true rfl)⟩ (fun r75 u H locs hp hP hD hS => ?_)
    obtain ⟨F76, t77, t78, t79, rfl, rfl⟩ := hp
    have hP : va_P D vwCl [(h0, .inr (5, vL 11 Fh)), (h_high, .inl (cI, 12, .inl f_high)), (h_p0_bytes, .inl (cB, 940, .inl f_p0_bytes)), (h_p0_wordNames, .inl (cJ, 23, .inr (.inl f_p0_wordNames))), (p1, .inr (1, vL 18 F_p1_)), (p0, .inr (6, vL 12 F76))] H := hP
    have hD : va_D A [(h0, .inr (5, vL 11 Fh)), (h_high, .inl (cI, 12, .inl f_high)), (h_p0_bytes, .inl (cB, 940, .inl f_p0_bytes)), (h_p0_wordNames, .inl (cJ, 23, .inr (.inl f_p0_wordNames))), (p1, .inr (1, vL 18 F_p1_)), (p0, .inr (6, vL 12 F76))] := hD
    refine W.widen (k := 0) (n := 0) (Nat.le_of_ble_eq_true rfl) (Nat.le_of_ble_eq_true rfl) ?_
    exact ret_i (v := 0) hx hb hr hlocks hS (hP.sub (ws' := [(h0, .inr (5, vL 11 Fh)), (h_high, .inl (cI, 12, .inl f_high)), (p0, .inr (6, vL 12 F76)), (h_p0_bytes, .inl (cB, 940, .inl f_p0_bytes)), (h_p0_wordNames, .inl (cJ, 23, .inr (.inl f_p0_wordNames))), (p1, .inr (1, vL 18 F_p1_))]) [0, 1, 5, 2, 3, 4] rfl) (hD.sub (ws' := [(h0, .inr (5, vL 11 Fh)), (h_high, .inl (cI, 12, .inl f_high)), (p0, .inr (6, vL 12 F76)), (h_p0_bytes, .inl (cB, 940, .inl f_p0_bytes)), (h_p0_wordNames, .inl (cJ, 23, .inr (.inl f_p0_wordNames))), (p1, .inr (1, vL 18 F_p1_))]) [0, 1, 5, 2, 3, 4] (by decide) rfl) dX5_readHigh_16 rfl (Nat.le_of_ble_eq_true rfl) (Nat.le_of_ble_eq_true rfl) ⟨Fh, x_heightsTold, F76, x_p0_kind, x_p0_place, x_p0_value, x_p0_name, x_p0_number, 3, x_p0_place, x_p0_at, f_high, SAME.rf, e_heightsTold, (SAME.tr SAME.rf t77 (by decide)), (SAME.at t77 (by decide) e_p0_kind), (SAME.at t77 (by decide) e_p0_place), (SAME.at t77 (by decide) e_p0_value), (SAME.at t77 (by decide) e_p0_name), (SAME.at t77 (by decide) e_p0_number), t78, t79, (SAME.at t77 (by decide) e_p0_at), i_x_p0_at, ⟨by decide, by decide⟩, rfl⟩
set_option maxHeartbeats 4000000 in
set_option maxRecDepth 100000 in
theorem m_X5_readCrew (l : Launch) (D : va_G) (cI cJ cB cP cM cZ : ClassId) (h0 : Nat) (h_crew : Nat) (p0 : Nat) (h_p0_bytes : Nat) (h_p0_wordNames : Nat) (p1 : Nat) (h_p1_manName : Nat) (Fh : Nat → Value) (x_crewed : Int32) (f_crew : Nat → Int32) (F_p0_ : Nat → Value) (x_p0_length : Int32) (x_p0_kind : Int32) (x_p0_place : Int32) (x_p0_value : Int32) (x_p0_name : Int64) (x_p0_faultKind : Int32) (x_p0_faultPlace : Int32) (x_p0_at : Int32) (x_p0_mostBytes : Int32) (f_p0_bytes : Nat → Int32) (f_p0_wordNames : Nat → Int64) (F_p1_ : Nat → Value) (x_p1_men : Int32) (f_p1_manName : Nat → Int64) (sz : Nat) (e_crew : Fh 0 = .ref h_crew) (e_crewed : Fh 3 = .int x_crewed) (i_x_crewed : IR 0 1 x_crewed) (s_crew_0 : SG 0 3 0 11 f_crew) (e_p0_bytes : F_p0_ 0 = .ref h_p0_bytes) (e_p0_length : F_p0_ 1 = .int x_p0_length) (i_x_p0_length : IR 0 940 x_p0_length) (e_p0_kind : F_p0_ 2 = .int x_p0_kind) (e_p0_place : F_p0_ 3 = .int x_p0_place) (e_p0_value : F_p0_ 4 = .int x_p0_value) (e_p0_name : F_p0_ 5 = .long x_p0_name) (e_p0_faultKind : F_p0_ 7 = .int x_p0_faultKind) (e_p0_faultPlace : F_p0_ 8 = .int x_p0_faultPlace) (e_p0_wordNames : F_p0_ 9 = .ref h_p0_wordNames) (e_p0_at : F_p0_ 10 = .int x_p0_at) (i_x_p0_at : IR 0 940 x_p0_at) (e_p0_mostBytes : F_p0_ 11 = .int x_p0_mostBytes) (e_p1_manName : F_p1_ 2 = .ref h_p1_manName) (e_p1_men : F_p1_ 13 = .int x_p1_men) (i_x_p1_men : IR 0 12 x_p1_men) : CI l yX5_readCrew cX5_readCrew 5 (some .boolean) { frames := 2, cells := 0, slots := 0, locals := 46 } (GG D cI cJ cB cP cM cZ) D [(h0, .inr (5, vL 11 Fh)), (h_crew, .inl (cI, 4, .inl f_crew)), (p0, .inr (6, vL 12 F_p0_)), (h_p0_bytes, .inl (cB, 940, .inl f_p0_bytes)), (h_p0_wordNames, .inl (cJ, 23, .inr (.inl f_p0_wordNames))), (p1, .inr (1, vL 18 F_p1_)), (h_p1_manName, .inl (cJ, 12, .inr (.inl f_p1_manName)))] sz [.ref h0, .ref p0, .ref p1] (fun (r : Int32) (u : va_W) => ∃ (Gh : Nat → Value) (y_crewed : Int32) (G_p0_ : Nat → Value) (y_p0_kind : Int32) (y_p0_place : Int32) (y_p0_value : Int32) (y_p0_name : Int64) (y_p0_faultKind : Int32) (y_p0_faultPlace : Int32) (y_p0_at : Int32) (g_crew : Nat → Int32), SAME [3] Fh Gh ∧ Gh 3 = .int y_crewed ∧ IR 0 1 y_crewed ∧ SAME [2, 3, 4, 5, 7, 8, 10] F_p0_ G_p0_ ∧ G_p0_ 2 = .int y_p0_kind ∧ G_p0_ 3 = .int y_p0_place ∧ G_p0_ 4 = .int y_p0_value ∧ G_p0_ 5 = .long y_p0_name ∧ G_p0_ 7 = .int y_p0_faultKind ∧ G_p0_ 8 = .int y_p0_faultPlace ∧ G_p0_ 10 = .int y_p0_at ∧ IR 0 940 y_p0_at ∧ SG 0 3 0 11 g_crew ∧ IR 0 1 r ∧ u = [(h0, .inr (5, vL 11 Gh)), (h_crew, .inl (cI, 4, .inl g_crew)), (p0, .inr (6, vL 12 G_p0_)), (h_p0_bytes, .inl (cB, 940, .inl f_p0_bytes)), (h_p0_wordNames, .inl (cJ, 23, .inr (.inl f_p0_wordNames))), (p1, .inr (1, vL 18 F_p1_)), (h_p1_manName, .inl (cJ, 12, .inr (.inl f_p1_manName)))]) := by
  refine CI_mk (by decide) (Nat.le_of_ble_eq_true rfl) ?_
  intro p e s m below meth c A ls E hAe hG hsz hP hD hA hS hl
  obtain ⟨hx, hb, hr, hw, hown, hlocks, hml, hnm⟩ := E
  have hK := hG.1
  have i_x_crewed : 0 ≤ x_crewed.toInt ∧ x_crewed.toInt ≤ 1 := i_x_crewed
  have i_x_p0_length : 0 ≤ x_p0_length.toInt ∧ x_p0_length.toInt ≤ 940 := i_x_p0_length
  have i_x_p0_at : 0 ≤ x_p0_at.toInt ∧ x_p0_at.toInt ≤ 940 := i_x_p0_at
  have i_x_p1_men : 0 ≤ x_p1_men.toInt ∧ x_p1_men.toInt ≤ 12 := i_x_p1_men
  have hl : lv_has ls 5 [(0, .ref h0), (1, .ref p0), (2, .ref p1)] := hl
  refine lv_iconst (v := 0) hx hb dX5_readCrew_0 (by decide) ?_
  refine lv_istore_n (lv' := [(3, .int 0), (0, .ref h0), (1, .ref p0), (2, .ref p1)]) hx hb dX5_readCrew_1 rfl hl (by decide) rfl (fun ls hl => ?_)
  refine mloop (α := (Int32) × (Nat → Int32) × (Nat → Value) × (Int32) × (Int32) × (Int32) × (Int64) × (Int32) × (Int32) × (Int32)) (nL := 5) (D := D) (A := A) (H0 := s.heap) (fun a => (4 - a.1.toInt).toNat) (fun a => IR 0 4 a.1 ∧ SG 0 3 0 11 a.2.1 ∧ SAME [2, 3, 4, 5, 7, 8, 10] F_p0_ a.2.2.1 ∧ a.2.2.1 2 = .int a.2.2.2.1 ∧ a.2.2.1 3 = .int a.2.2.2.2.1 ∧ a.2.2.1 4 = .int a.2.2.2.2.2.1 ∧ a.2.2.1 5 = .long a.2.2.2.2.2.2.1 ∧ a.2.2.1 7 = .int a.2.2.2.2.2.2.2.1 ∧ a.2.2.1 8 = .int a.2.2.2.2.2.2.2.2.1 ∧ a.2.2.1 10 = .int a.2.2.2.2.2.2.2.2.2 ∧ IR 0 940 a.2.2.2.2.2.2.2.2.2) (fun a => [(h0, .inr (5, vL 11 Fh)), (h_crew, .inl (cI, 4, .inl a.2.1)), (p0, .inr (6, vL 12 a.2.2.1)), (h_p0_bytes, .inl (cB, 940, .inl f_p0_bytes)), (h_p0_wordNames, .inl (cJ, 23, .inr (.inl f_p0_wordNames))), (p1, .inr (1, vL 18 F_p1_)), (h_p1_manName, .inl (cJ, 12, .inr (.inl f_p1_manName)))]) (fun a => [(3, .int a.1), (0, .ref h0), (1, .ref p0), (2, .ref p1)]) (fun H locs ls => W p l e ({ frames := 2, cells := 0, slots := 0, locals := 46 } : Room) s m [.ref h0, .ref p0, .ref p1].toArray below meth c H locs 0 0 (MQ below (va_Qi (fun (r : Int32) (u : va_W) => ∃ (Gh : Nat → Value) (y_crewed : Int32) (G_p0_ : Nat → Value) (y_p0_kind : Int32) (y_p0_place : Int32) (y_p0_value : Int32) (y_p0_name : Int64) (y_p0_faultKind : Int32) (y_p0_faultPlace : Int32) (y_p0_at : Int32) (g_crew : Nat → Int32), SAME [3] Fh Gh ∧ Gh 3 = .int y_crewed ∧ IR 0 1 y_crewed ∧ SAME [2, 3, 4, 5, 7, 8, 10] F_p0_ G_p0_ ∧ G_p0_ 2 = .int y_p0_kind ∧ G_p0_ 3 = .int y_p0_place ∧ G_p0_ 4 = .int y_p0_value ∧ G_p0_ 5 = .long y_p0_name ∧ G_p0_ 7 = .int y_p0_faultKind ∧ G_p0_ 8 = .int y_p0_faultPlace ∧ G_p0_ 10 = .int y_p0_at ∧ IR 0 940 y_p0_at ∧ SG 0 3 0 11 g_crew ∧ IR 0 1 r ∧ u = [(h0, .inr (5, vL 11 Gh)), (h_crew, .inl (cI, 4, .inl g_crew)), (p0, .inr (6, vL 12 G_p0_)), (h_p0_bytes, .inl (cB, 940, .inl f_p0_bytes)), (h_p0_wordNames, .inl (cJ, 23, .inr (.inl f_p0_wordNames))), (p1, .inr (1, vL 18 F_p1_)), (h_p1_manName, .inl (cJ, 12, .inr (.inl f_p1_manName)))]) (PO D A) A) [.ref h0, .ref p0, .ref p1].toArray s 0 0 A) (F0 m 2 ls [])) ?_ (0, f_crew, F_p0_, x_p0_kind, x_p0_place, x_p0_value, x_p0_name, x_p0_faultKind, x_p0_faultPlace, x_p0_at) ⟨⟨by decide, by decide⟩, s_crew_0, SAME.rf, e_p0_kind, e_p0_place, e_p0_value, e_p0_name, e_p0_faultKind, e_p0_faultPlace, e_p0_at, i_x_p0_at⟩ _ _ _ hP hD hS hl
  rintro ⟨u1, w2, G3, u4, u5, u6, u7, u8, u9, u10⟩ ⟨i11, i12, i13, i14, i15, i16, i17, i18, i19, i20, i21⟩ ih H locs ls hP hD hS hl
  have i11 : 0 ≤ u1.toInt ∧ u1.toInt ≤ 4 := i11
  have i21 : 0 ≤ u10.toInt ∧ u10.toInt ≤ 940 := i21
  have hP : va_P D vwCl [(h0, .inr (5, vL 11 Fh)), (h_crew, .inl (cI, 4, .inl w2)), (p0, .inr (6, vL 12 G3)), (h_p0_bytes, .inl (cB, 940, .inl f_p0_bytes)), (h_p0_wordNames, .inl (cJ, 23, .inr (.inl f_p0_wordNames))), (p1, .inr (1, vL 18 F_p1_)), (h_p1_manName, .inl (cJ, 12, .inr (.inl f_p1_manName)))] H := hP
  have hD : va_D A [(h0, .inr (5, vL 11 Fh)), (h_crew, .inl (cI, 4, .inl w2)), (p0, .inr (6, vL 12 G3)), (h_p0_bytes, .inl (cB, 940, .inl f_p0_bytes)), (h_p0_wordNames, .inl (cJ, 23, .inr (.inl f_p0_wordNames))), (p1, .inr (1, vL 18 F_p1_)), (h_p1_manName, .inl (cJ, 12, .inr (.inl f_p1_manName)))] := hD
  have hl : lv_has ls 5 [(3, .int u1), (0, .ref h0), (1, .ref p0), (2, .ref p1)] := hl
  refine lv_iload_n hx hb dX5_readCrew_2 rfl (lv_at hl 0 rfl) ?_
  refine lv_iconst (v := 4) hx hb dX5_readCrew_3 (by decide) ?_
  refine lv_icmp_ge (tgt := 71) hx hb dX5_readCrew_4 (by decide) (fun c22 => ?_) (fun c22 => ?_)
  · have dc22 : 4 ≤ u1.toInt := le_i (a := 4) (b := u1.toInt) rfl rfl c22
    have k23 : 4 ≤ u1.toInt ∧ u1.toInt ≤ 4 := ⟨Int.le_trans (Int.le_refl _) dc22, i11.2⟩
    refine lv_aload_n hx hb dX5_readCrew_71 rfl (lv_at hl 1 rfl) ?_
    refine lv_iconst (v := 1) hx hb dX5_readCrew_72 (by decide) ?_
    refine put_f (D := D) (ci := 5) (v := .int 1) (ty := .boolean) (C := RX5) (T := TX5) (N := 11) hx hb hw inAX5 tyX5 tyX5_ok nmX5 hown hK hP hD hS 0 rfl rfl 3 (by decide) (hw _ q_157) (fun _ h9 => h9) rfl (by decide +kernel) rfl rfl dX5_readCrew_73 (fun H locs F24 eF24 hP hD hS => ?_)
    have hP : va_P D vwCl [(h0, .inr (5, vL 11 F24)), (h_crew, .inl (cI, 4, .inl w2)), (p0, .inr (6, vL 12 G3)), (h_p0_bytes, .inl (cB, 940, .inl f_p0_bytes)), (h_p0_wordNames, .inl (cJ, 23, .inr (.inl f_p0_wordNames))), (p1, .inr (1, vL 18 F_p1_)), (h_p1_manName, .inl (cJ, 12, .inr (.inl f_p1_manName)))] H := hP
    have hD : va_D A [(h0, .inr (5, vL 11 F24)), (h_crew, .inl (cI, 4, .inl w2)), (p0, .inr (6, vL 12 G3)), (h_p0_bytes, .inl (cB, 940, .inl f_p0_bytes)), (h_p0_wordNames, .inl (cJ, 23, .inr (.inl f_p0_wordNames))), (p1, .inr (1, vL 18 F_p1_)), (h_p1_manName, .inl (cJ, 12, .inr (.inl f_p1_manName)))] := hD
    refine lv_iconst (v := 1) hx hb dX5_readCrew_76 (by decide) ?_
    exact ret_i (v := 1) hx hb hr hlocks hS hP hD dX5_readCrew_77 rfl (Nat.le_of_ble_eq_true rfl) (Nat.le_of_ble_eq_true rfl) ⟨F24, 1, G3, u4, u5, u6, u7, u8, u9, u10, w2, (SAME.up eF24 SAME.rf (by decide)), (get_eq eF24), ⟨by decide, by decide⟩, (SAME.tr SAME.rf i13 (by decide)), i14, i15, i16, i17, i18, i19, i20, i21, i12, ⟨by decide, by decide⟩, rfl⟩
  · have dc22 : u1.toInt < 4 := nle_i (a := 4) (b := u1.toInt) rfl rfl c22
    have k25 : 0 ≤ u1.toInt ∧ u1.toInt ≤ 3 := ⟨i11.1, up_lt dc22 (Int.le_refl _) (by decide)⟩
    refine lv_aload_n hx hb dX5_readCrew_7 rfl (lv_at hl 2 rfl) ?_
    refine call_Vi (wr := [(h0, .inr (5, vL 11 Fh)), (h_crew, .inl (cI, 4, .inl w2)), (h_p0_bytes, .inl (cB, 940, .inl f_p0_bytes)), (h_p0_wordNames, .inl (cJ, 23, .inr (.inl f_p0_wordNames))), (p1, .inr (1, vL 18 F_p1_)), (h_p1_manName, .inl (cJ, 12, .inr (.inl f_p1_manName)))]) (As := []) (rest := []) hx hb hml hown hw (m_X6_isName l D cI cJ cB cP cM cZ p0 G3 u4 u6 _ i14 i16) wV_X5_120_X6_isName dX5_readCrew_8 hK hP hD hS hA [2] [0, 1, 3, 4, 5, 6] rfl rfl (by decide) (by decide) (by decide) 0 6 rfl rfl GG.fb hG.at hl.1 rfl (Nat.le_of_ble_eq_true rfl) ⟨(Nat.le_of_ble_eq_true rfl), (Nat.le_of_ble_eq_true rfl)⟩ ⟨(Nat.le_of_ble_eq_true rfl), (Nat.le_of_ble_eq_true rfl)⟩ (fun r26 u H locs hp hP hD hS => ?_)
    obtain ⟨t27, rfl⟩ := hp
    have hP : va_P D vwCl [(h0, .inr (5, vL 11 Fh)), (h_crew, .inl (cI, 4, .inl w2)), (h_p0_bytes, .inl (cB, 940, .inl f_p0_bytes)), (h_p0_wordNames, .inl (cJ, 23, .inr (.inl f_p0_wordNames))), (p1, .inr (1, vL 18 F_p1_)), (h_p1_manName, .inl (cJ, 12, .inr (.inl f_p1_manName))), (p0, .inr (6, vL 12 G3))] H := hP
    have hD : va_D A [(h0, .inr (5, vL 11 Fh)), (h_crew, .inl (cI, 4, .inl w2)), (h_p0_bytes, .inl (cB, 940, .inl f_p0_bytes)), (h_p0_wordNames, .inl (cJ, 23, .inr (.inl f_p0_wordNames))), (p1, .inr (1, vL 18 F_p1_)), (h_p1_manName, .inl (cJ, 12, .inr (.inl f_p1_manName))), (p0, .inr (6, vL 12 G3))] := hD
    refine W.widen (k := 0) (n := 0) (Nat.le_of_ble_eq_true rfl) (Nat.le_of_ble_eq_true rfl) ?_
    refine lv_if_ne (tgt := 20) hx hb dX5_readCrew_11 (by decide) (fun c28 => ?_) (fun c28 => ?_)
    · have dc28 : r26.toInt ≠ 0 := ne_i (a := r26.toInt) (b := 0) rfl rfl c28
      have k29 : 1 ≤ r26.toInt ∧ r26.toInt ≤ 1 := ⟨ne_lo dc28 t27.1 ⟨Int.le_refl _, Int.le_refl _⟩ (by decide), t27.2⟩
      refine lv_aload_n hx hb dX5_readCrew_20 rfl (lv_at hl 3 rfl) ?_
      refine lv_aload_n hx hb dX5_readCrew_21 rfl (lv_at hl 2 rfl) ?_
      refine get_f (D := D) (ci := 6) (v := .long u7) (C := RX6) (T := TX6) (N := 12) hx hb hw inAX6 hown hK hP 6 rfl rfl 5 (by decide) (hw _ q_100) (fun _ h9 => h9) i17 dX5_readCrew_22 ?_
      refine call_Vi (wr := [(h0, .inr (5, vL 11 Fh)), (h_crew, .inl (cI, 4, .inl w2)), (h_p0_bytes, .inl (cB, 940, .inl f_p0_bytes)), (h_p0_wordNames, .inl (cJ, 23, .inr (.inl f_p0_wordNames))), (p0, .inr (6, vL 12 G3))]) (As := [.long u7]) (rest := []) hx hb hml hown hw (m_X1_manNamed l D cI cJ cB cP cM cZ p1 h_p1_manName F_p1_ x_p1_men f_p1_manName u7 _ e_p1_manName e_p1_men i_x_p1_men) wV_X5_128_X1_manNamed dX5_readCrew_25 hK hP hD hS hA [4, 5] [0, 1, 2, 3, 6] rfl rfl (by decide) (by decide) (by decide) 0 1 rfl rfl GG.fb hG.at hl.1 rfl (Nat.le_of_ble_eq_true rfl) ⟨(Nat.le_of_ble_eq_true rfl), (Nat.le_of_ble_eq_true rfl)⟩ ⟨(Nat.le_of_ble_eq_true rfl), (Nat.le_of_ble_eq_true rfl)⟩ (fun r30 u H locs hp hP hD hS => ?_)
      obtain ⟨t31, rfl⟩ := hp
      have hP : va_P D vwCl [(h0, .inr (5, vL 11 Fh)), (h_crew, .inl (cI, 4, .inl w2)), (h_p0_bytes, .inl (cB, 940, .inl f_p0_bytes)), (h_p0_wordNames, .inl (cJ, 23, .inr (.inl f_p0_wordNames))), (p0, .inr (6, vL 12 G3)), (p1, .inr (1, vL 18 F_p1_)), (h_p1_manName, .inl (cJ, 12, .inr (.inl f_p1_manName)))] H := hP
      have hD : va_D A [(h0, .inr (5, vL 11 Fh)), (h_crew, .inl (cI, 4, .inl w2)), (h_p0_bytes, .inl (cB, 940, .inl f_p0_bytes)), (h_p0_wordNames, .inl (cJ, 23, .inr (.inl f_p0_wordNames))), (p0, .inr (6, vL 12 G3)), (p1, .inr (1, vL 18 F_p1_)), (h_p1_manName, .inl (cJ, 12, .inr (.inl f_p1_manName)))] := hD
      refine W.widen (k := 0) (n := 0) (Nat.le_of_ble_eq_true rfl) (Nat.le_of_ble_eq_true rfl) ?_
      refine lv_istore (lv' := [(4, .int r30), (3, .int u1), (0, .ref h0), (1, .ref p0), (2, .ref p1)]) hx hb dX5_readCrew_28 hl (by decide) rfl (fun ls hl => ?_)
      refine lv_iload hx hb dX5_readCrew_30 (lv_at hl 0 rfl) ?_
      refine lv_iconst (v := (-1)) hx hb dX5_readCrew_32 (by decide) ?_
      refine lv_icmp_eq (tgt := 47) hx hb dX5_readCrew_33 (by decide) (fun c32 => ?_) (fun c32 => ?_)
      · have dc32 : r30.toInt = (-1) := eq_i (a := r30.toInt) (b := (-1)) rfl rfl c32
        have k33 : (-1) ≤ r30.toInt ∧ r30.toInt ≤ (-1) := ⟨t31.1, Int.le_trans (Int.le_of_eq dc32) (Int.le_refl _)⟩
        refine lv_aload_n hx hb dX5_readCrew_47 rfl (lv_at hl 3 rfl) ?_
        refine lv_iconst (v := 3) hx hb dX5_readCrew_48 (by decide) ?_
        refine call_Vi (wr := [(h0, .inr (5, vL 11 Fh)), (h_crew, .inl (cI, 4, .inl w2)), (h_p0_bytes, .inl (cB, 940, .inl f_p0_bytes)), (h_p0_wordNames, .inl (cJ, 23, .inr (.inl f_p0_wordNames))), (p1, .inr (1, vL 18 F_p1_)), (h_p1_manName, .inl (cJ, 12, .inr (.inl f_p1_manName)))]) (As := [.int 3]) (rest := []) hx hb hml hown hw (m_X6_fail l D cI cJ cB cP cM cZ p0 G3 u5 3 _ i15) wV_X5_95_X6_fail dX5_readCrew_49 hK hP hD hS hA [4] [0, 1, 2, 3, 5, 6] rfl rfl (by decide) (by decide) (by decide) 0 6 rfl rfl GG.fb hG.at hl.1 rfl (Nat.le_of_ble_eq_true rfl) ⟨(Nat.le_of_ble_eq_true rfl), (Nat.le_of_ble_eq_true rfl)⟩ ⟨(Nat.le_of_ble_eq_true rfl), (Nat.le_of_ble_eq_true rfl)⟩ (fun r34 u H locs hp hP hD hS => ?_)
        obtain ⟨F35, t36, t37, t38, rfl, rfl⟩ := hp
        have hP : va_P D vwCl [(h0, .inr (5, vL 11 Fh)), (h_crew, .inl (cI, 4, .inl w2)), (h_p0_bytes, .inl (cB, 940, .inl f_p0_bytes)), (h_p0_wordNames, .inl (cJ, 23, .inr (.inl f_p0_wordNames))), (p1, .inr (1, vL 18 F_p1_)), (h_p1_manName, .inl (cJ, 12, .inr (.inl f_p1_manName))), (p0, .inr (6, vL 12 F35))] H := hP
        have hD : va_D A [(h0, .inr (5, vL 11 Fh)), (h_crew, .inl (cI, 4, .inl w2)), (h_p0_bytes, .inl (cB, 940, .inl f_p0_bytes)), (h_p0_wordNames, .inl (cJ, 23, .inr (.inl f_p0_wordNames))), (p1, .inr (1, vL 18 F_p1_)), (h_p1_manName, .inl (cJ, 12, .inr (.inl f_p1_manName))), (p0, .inr (6, vL 12 F35))] := hD
        refine W.widen (k := 0) (n := 0) (Nat.le_of_ble_eq_true rfl) (Nat.le_of_ble_eq_true rfl) ?_
        exact ret_i (v := 0) hx hb hr hlocks hS (hP.sub (ws' := [(h0, .inr (5, vL 11 Fh)), (h_crew, .inl (cI, 4, .inl w2)), (p0, .inr (6, vL 12 F35)), (h_p0_bytes, .inl (cB, 940, .inl f_p0_bytes)), (h_p0_wordNames, .inl (cJ, 23, .inr (.inl f_p0_wordNames))), (p1, .inr (1, vL 18 F_p1_)), (h_p1_manName, .inl (cJ, 12, .inr (.inl f_p1_manName)))]) [0, 1, 6, 2, 3, 4, 5] rfl) (hD.sub (ws' := [(h0, .inr (5, vL 11 Fh)), (h_crew, .inl (cI, 4, .inl w2)), (p0, .inr (6, vL 12 F35)), (h_p0_bytes, .inl (cB, 940, .inl f_p0_bytes)), (h_p0_wordNames, .inl (cJ, 23, .inr (.inl f_p0_wordNames))), (p1, .inr (1, vL 18 F_p1_)), (h_p1_manName, .inl (cJ, 12, .inr (.inl f_p1_manName)))]) [0, 1, 6, 2, 3, 4, 5] (by decide) rfl) dX5_readCrew_52 rfl (Nat.le_of_ble_eq_true rfl) (Nat.le_of_ble_eq_true rfl) ⟨Fh, x_crewed, F35, u4, u5, u6, u7, 3, u5, u10, w2, SAME.rf, e_crewed, i_x_crewed, (SAME.tr (SAME.tr SAME.rf i13 (by decide)) t36 (by decide)), (SAME.at t36 (by decide) i14), (SAME.at t36 (by decide) i15), (SAME.at t36 (by decide) i16), (SAME.at t36 (by decide) i17), t37, t38, (SAME.at t36 (by decide) i20), i21, i12, ⟨by decide, by decide⟩, rfl⟩
      · have dc32 : r30.toInt ≠ (-1) := ne_i (a := r30.toInt) (b := (-1)) rfl rfl c32
        have k39 : 0 ≤ r30.toInt ∧ r30.toInt ≤ 11 := ⟨ne_lo dc32 t31.1 ⟨Int.le_refl _, Int.le_refl _⟩ (by decide), t31.2⟩
        refine lv_aload_n hx hb dX5_readCrew_36 rfl (lv_at hl 2 rfl) ?_
        refine lv_iload hx hb dX5_readCrew_37 (lv_at hl 0 rfl) ?_
        refine lv_iload_n hx hb dX5_readCrew_39 rfl (lv_at hl 1 rfl) ?_
        refine call_Vi (wr := [(h_p0_bytes, .inl (cB, 940, .inl f_p0_bytes)), (h_p0_wordNames, .inl (cJ, 23, .inr (.inl f_p0_wordNames))), (p0, .inr (6, vL 12 G3)), (p1, .inr (1, vL 18 F_p1_)), (h_p1_manName, .inl (cJ, 12, .inr (.inl f_p1_manName)))]) (As := [.int r30, .int u1]) (rest := []) hx hb hml hown hw (m_X5_placeAmong l D cI cJ cB cP cM cZ h0 h_crew Fh w2 r30 u1 _ e_crew i12) wV_X5_70_X5_placeAmong dX5_readCrew_40 hK hP hD hS hA [0, 1] [2, 3, 4, 5, 6] rfl rfl (by decide) (by decide) (by decide) 0 5 rfl rfl GG.fb hG.at hl.1 rfl (Nat.le_of_ble_eq_true rfl) ⟨(Nat.le_of_ble_eq_true rfl), (Nat.le_of_ble_eq_true rfl)⟩ ⟨(Nat.le_of_ble_eq_true rfl), (Nat.le_of_ble_eq_true rfl)⟩ (fun r40 u H locs hp hP hD hS => ?_)
        obtain ⟨t41, rfl⟩ := hp
        have hP : va_P D vwCl [(h_p0_bytes, .inl (cB, 940, .inl f_p0_bytes)), (h_p0_wordNames, .inl (cJ, 23, .inr (.inl f_p0_wordNames))), (p0, .inr (6, vL 12 G3)), (p1, .inr (1, vL 18 F_p1_)), (h_p1_manName, .inl (cJ, 12, .inr (.inl f_p1_manName))), (h0, .inr (5, vL 11 Fh)), (h_crew, .inl (cI, 4, .inl w2))] H := hP
        have hD : va_D A [(h_p0_bytes, .inl (cB, 940, .inl f_p0_bytes)), (h_p0_wordNames, .inl (cJ, 23, .inr (.inl f_p0_wordNames))), (p0, .inr (6, vL 12 G3)), (p1, .inr (1, vL 18 F_p1_)), (h_p1_manName, .inl (cJ, 12, .inr (.inl f_p1_manName))), (h0, .inr (5, vL 11 Fh)), (h_crew, .inl (cI, 4, .inl w2))] := hD
        refine W.widen (k := 0) (n := 0) (Nat.le_of_ble_eq_true rfl) (Nat.le_of_ble_eq_true rfl) ?_
        refine lv_iconst (v := (-1)) hx hb dX5_readCrew_43 (by decide) ?_
        refine lv_icmp_eq (tgt := 53) hx hb dX5_readCrew_44 (by decide) (fun c42 => ?_) (fun c42 => ?_)
        · have dc42 : r40.toInt = (-1) := eq_i (a := r40.toInt) (b := (-1)) rfl rfl c42
          have k43 : (-1) ≤ r40.toInt ∧ r40.toInt ≤ (-1) := ⟨t41.1, Int.le_trans (Int.le_of_eq dc42) (Int.le_refl _)⟩
          refine lv_aload_n hx hb dX5_readCrew_53 rfl (lv_at hl 2 rfl) ?_
          refine get_f (D := D) (ci := 5) (v := .ref h_crew) (C := RX5) (T := TX5) (N := 11) hx hb hw inAX5 hown hK hP 5 rfl rfl 0 (by decide) (hw _ q_145) (fun _ h9 => h9) e_crew dX5_readCrew_54 ?_
          refine lv_iload_n hx hb dX5_readCrew_57 rfl (lv_at hl 1 rfl) ?_
          refine lv_iload hx hb dX5_readCrew_58 (lv_at hl 0 rfl) ?_
          obtain ⟨g44, eg44⟩ : ∃ z : Nat → Int32, upd w2 u1.toNatClampNeg r30 = z := ⟨_, rfl⟩
          have r45 : SG 0 3 0 11 g44 := by rw [← eg44]; exact i12.up (Int.le_trans (by decide) k25.1) (Or.inr (Or.inr (ir_wk k39 (by decide) (by decide))))
          refine iast_g hx hb hK hP hD hS 6 0 rfl rfl (ix_k k25 (by decide) (by decide)) eg44 dX5_readCrew_60 (fun H locs hP hD hS => ?_)
          have hP : va_P D vwCl [(h_p0_bytes, .inl (cB, 940, .inl f_p0_bytes)), (h_p0_wordNames, .inl (cJ, 23, .inr (.inl f_p0_wordNames))), (p0, .inr (6, vL 12 G3)), (p1, .inr (1, vL 18 F_p1_)), (h_p1_manName, .inl (cJ, 12, .inr (.inl f_p1_manName))), (h0, .inr (5, vL 11 Fh)), (h_crew, .inl (cI, 4, .inl g44))] H := hP
          have hD : va_D A [(h_p0_bytes, .inl (cB, 940, .inl f_p0_bytes)), (h_p0_wordNames, .inl (cJ, 23, .inr (.inl f_p0_wordNames))), (p0, .inr (6, vL 12 G3)), (p1, .inr (1, vL 18 F_p1_)), (h_p1_manName, .inl (cJ, 12, .inr (.inl f_p1_manName))), (h0, .inr (5, vL 11 Fh)), (h_crew, .inl (cI, 4, .inl g44))] := hD
          refine lv_aload_n hx hb dX5_readCrew_61 rfl (lv_at hl 3 rfl) ?_
          have n46 : G3 0 = .ref h_p0_bytes := (SAME.at i13 (by decide) e_p0_bytes)
          have n47 : G3 1 = .int x_p0_length := (SAME.at i13 (by decide) e_p0_length)
          have n48 : G3 9 = .ref h_p0_wordNames := (SAME.at i13 (by decide) e_p0_wordNames)
          have n49 : G3 11 = .int x_p0_mostBytes := (SAME.at i13 (by decide) e_p0_mostBytes)
          refine call_Vv (wr := [(p1, .inr (1, vL 18 F_p1_)), (h_p1_manName, .inl (cJ, 12, .inr (.inl f_p1_manName))), (h0, .inr (5, vL 11 Fh)), (h_crew, .inl (cI, 4, .inl g44))]) (As := []) (rest := []) hx hb hml hown hw (m_X6_advance l D cI cJ cB cP cM cZ p0 h_p0_bytes h_p0_wordNames G3 x_p0_length u6 u7 u10 x_p0_mostBytes f_p0_bytes f_p0_wordNames _ n46 n47 i_x_p0_length i16 i17 n48 i20 i21 n49) wV_X5_98_X6_advance dX5_readCrew_62 hK hP hD hS hA [2, 0, 1] [3, 4, 5, 6] rfl rfl (by decide) (by decide) (by decide) 0 6 rfl rfl GG.fb hG.at hl.1 rfl (Nat.le_of_ble_eq_true rfl) ⟨(Nat.le_of_ble_eq_true rfl), (Nat.le_of_ble_eq_true rfl)⟩ ⟨(Nat.le_of_ble_eq_true rfl), (Nat.le_of_ble_eq_true rfl)⟩ (fun u H locs hp hP hD hS => ?_)
          obtain ⟨F51, y52, y53, y54, y55, y56, t57, t58, t59, t60, t61, t62, t63, t64, rfl⟩ := hp
          have hP : va_P D vwCl [(p1, .inr (1, vL 18 F_p1_)), (h_p1_manName, .inl (cJ, 12, .inr (.inl f_p1_manName))), (h0, .inr (5, vL 11 Fh)), (h_crew, .inl (cI, 4, .inl g44)), (p0, .inr (6, vL 12 F51)), (h_p0_bytes, .inl (cB, 940, .inl f_p0_bytes)), (h_p0_wordNames, .inl (cJ, 23, .inr (.inl f_p0_wordNames)))] H := hP
          have hD : va_D A [(p1, .inr (1, vL 18 F_p1_)), (h_p1_manName, .inl (cJ, 12, .inr (.inl f_p1_manName))), (h0, .inr (5, vL 11 Fh)), (h_crew, .inl (cI, 4, .inl g44)), (p0, .inr (6, vL 12 F51)), (h_p0_bytes, .inl (cB, 940, .inl f_p0_bytes)), (h_p0_wordNames, .inl (cJ, 23, .inr (.inl f_p0_wordNames)))] := hD
          refine W.widen (k := 0) (n := 0) (Nat.le_of_ble_eq_true rfl) (Nat.le_of_ble_eq_true rfl) ?_
          obtain ⟨v65, ev65⟩ : ∃ z : Int32, z = u1 + 1 := ⟨_, rfl⟩
          have bv65 : v65.toInt = u1.toInt + 1 := by rw [ev65]; exact add_k rfl rfl k25 ⟨Int.le_refl _, Int.le_refl _⟩ (by decide)
          have k66 : 1 ≤ v65.toInt ∧ v65.toInt ≤ 4 := add_r bv65 k25 ⟨Int.le_refl _, Int.le_refl _⟩ (by decide)
          refine lv_iinc (v := v65) (lv' := [(3, .int v65), (4, .int r30), (0, .ref h0), (1, .ref p0), (2, .ref p1)]) hx hb dX5_readCrew_65 hl (k := 1) rfl (by rw [ev65]; rfl) (by decide) rfl (fun ls hl => ?_)
          refine lv_goto (tgt := 2) hx hb dX5_readCrew_68 (by decide) ?_
          have n67 : F51 7 = .int u8 := (SAME.at t57 (by decide) i18)
          have n68 : F51 8 = .int u9 := (SAME.at t57 (by decide) i19)
          exact ih (v65, g44, F51, y52, y53, y54, y55, u8, u9, y56) ⟨(ir_wk k66 (by decide) (by decide)), r45, (SAME.tr (SAME.tr SAME.rf i13 (by decide)) t57 (by decide)), t58, t59, t61, t62, n67, n68, t63, t64⟩ (by show (4 - v65.toInt).toNat < (4 - u1.toInt).toNat; omega) _ _ _ (hP.sub [2, 3, 4, 5, 6, 0, 1] rfl) (hD.sub [2, 3, 4, 5, 6, 0, 1] (by decide) rfl) hS (lv_sub hl [0, 2, 3, 4] rfl)
        · have dc42 : r40.toInt ≠ (-1) := ne_i (a := r40.toInt) (b := (-1)) rfl rfl c42
          have k69 : 0 ≤ r40.toInt ∧ r40.toInt ≤ 3 := ⟨ne_lo dc42 t41.1 ⟨Int.le_refl _, Int.le_refl _⟩ (by decide), t41.2⟩
          refine lv_aload_n hx hb dX5_readCrew_47 rfl (lv_at hl 3 rfl) ?_
          refine lv_iconst (v := 3) hx hb dX5_readCrew_48 (by decide) ?_
          refine call_Vi (wr := [(h_p0_bytes, .inl (cB, 940, .inl f_p0_bytes)), (h_p0_wordNames, .inl (cJ, 23, .inr (.inl f_p0_wordNames))), (p1, .inr (1, vL 18 F_p1_)), (h_p1_manName, .inl (cJ, 12, .inr (.inl f_p1_manName))), (h0, .inr (5, vL 11 Fh)), (h_crew, .inl (cI, 4, .inl w2))]) (As := [.int 3]) (rest := []) hx hb hml hown hw (m_X6_fail l D cI cJ cB cP cM cZ p0 G3 u5 3 _ i15) wV_X5_95_X6_fail dX5_readCrew_49 hK hP hD hS hA [2] [0, 1, 3, 4, 5, 6] rfl rfl (by decide) (by decide) (by decide) 0 6 rfl rfl GG.fb hG.at hl.1 rfl (Nat.le_of_ble_eq_true rfl) ⟨(Nat.le_of_ble_eq_true rfl), (Nat.le_of_ble_eq_true rfl)⟩ ⟨(Nat.le_of_ble_eq_true rfl), (Nat.le_of_ble_eq_true rfl)⟩ (fun r70 u H locs hp hP hD hS => ?_)
          obtain ⟨F71, t72, t73, t74, rfl, rfl⟩ := hp
          have hP : va_P D vwCl [(h_p0_bytes, .inl (cB, 940, .inl f_p0_bytes)), (h_p0_wordNames, .inl (cJ, 23, .inr (.inl f_p0_wordNames))), (p1, .inr (1, vL 18 F_p1_)), (h_p1_manName, .inl (cJ, 12, .inr (.inl f_p1_manName))), (h0, .inr (5, vL 11 Fh)), (h_crew, .inl (cI, 4, .inl w2)), (p0, .inr (6, vL 12 F71))] H := hP
          have hD : va_D A [(h_p0_bytes, .inl (cB, 940, .inl f_p0_bytes)), (h_p0_wordNames, .inl (cJ, 23, .inr (.inl f_p0_wordNames))), (p1, .inr (1, vL 18 F_p1_)), (h_p1_manName, .inl (cJ, 12, .inr (.inl f_p1_manName))), (h0, .inr (5, vL 11 Fh)), (h_crew, .inl (cI, 4, .inl w2)), (p0, .inr (6, vL 12 F71))] := hD
          refine W.widen (k := 0) (n := 0) (Nat.le_of_ble_eq_true rfl) (Nat.le_of_ble_eq_true rfl) ?_
          exact ret_i (v := 0) hx hb hr hlocks hS (hP.sub (ws' := [(h0, .inr (5, vL 11 Fh)), (h_crew, .inl (cI, 4, .inl w2)), (p0, .inr (6, vL 12 F71)), (h_p0_bytes, .inl (cB, 940, .inl f_p0_bytes)), (h_p0_wordNames, .inl (cJ, 23, .inr (.inl f_p0_wordNames))), (p1, .inr (1, vL 18 F_p1_)), (h_p1_manName, .inl (cJ, 12, .inr (.inl f_p1_manName)))]) [4, 5, 6, 0, 1, 2, 3] rfl) (hD.sub (ws' := [(h0, .inr (5, vL 11 Fh)), (h_crew, .inl (cI, 4, .inl w2)), (p0, .inr (6, vL 12 F71)), (h_p0_bytes, .inl (cB, 940, .inl f_p0_bytes)), (h_p0_wordNames, .inl (cJ, 23, .inr (.inl f_p0_wordNames))), (p1, .inr (1, vL 18 F_p1_)), (h_p1_manName, .inl (cJ, 12, .inr (.inl f_p1_manName)))]) [4, 5, 6, 0, 1, 2, 3] (by decide) rfl) dX5_readCrew_52 rfl (Nat.le_of_ble_eq_true rfl) (Nat.le_of_ble_eq_true rfl) ⟨Fh, x_crewed, F71, u4, u5, u6, u7, 3, u5, u10, w2, SAME.rf, e_crewed, i_x_crewed, (SAME.tr (SAME.tr SAME.rf i13 (by decide)) t72 (by decide)), (SAME.at t72 (by decide) i14), (SAME.at t72 (by decide) i15), (SAME.at t72 (by decide) i16), (SAME.at t72 (by decide) i17), t73, t74, (SAME.at t72 (by decide) i20), i21, i12, ⟨by decide, by decide⟩, rfl⟩
    · have dc28 : r26.toInt = 0 := eq_i (a := r26.toInt) (b := 0) rfl rfl c28
      have k75 : 0 ≤ r26.toInt ∧ r26.toInt ≤ 0 := ⟨t27.1, Int.le_trans (Int.le_of_eq dc28) (Int.le_refl _)⟩
      refine lv_aload_n hx hb dX5_readCrew_14 rfl (lv_at hl 2 rfl) ?_
      refine lv_iconst (v := 1) hx hb dX5_readCrew_15 (by decide) ?_
      refine call_Vi (wr := [(h0, .inr (5, vL 11 Fh)), (h_crew, .inl (cI, 4, .inl w2)), (h_p0_bytes, .inl (cB, 940, .inl f_p0_bytes)), (h_p0_wordNames, .inl (cJ, 23, .inr (.inl f_p0_wordNames))), (p1, .inr (1, vL 18 F_p1_)), (h_p1_manName, .inl (cJ, 12, .inr (.inl f_p1_manName)))]) (As := [.int 1]) (rest := []) hx hb hml hown hw (m_X6_fail l D cI cJ cB cP cM cZ p0 G3 u5 1 _ i15) wV_X5_95_X6_fail dX5_readCrew_16 hK hP hD hS hA [6] [0, 1, 2, 3, 4, 5] rfl rfl (by decide) (by decide) (by decide) 0 6 rfl rfl GG.fb hG.at hl.1 rfl (Nat.le_of_ble_eq_true rfl) ⟨(Nat.le_of_ble_eq_true rfl), (Nat.le_of_ble_eq_true rfl)⟩ ⟨(Nat.le_of_ble_eq_true rfl), (Nat.le_of_ble_eq_true rfl)⟩ (fun r76 u H locs hp hP hD hS => ?_)
      obtain ⟨F77, t78, t79, t80, rfl, rfl⟩ := hp
      have hP : va_P D vwCl [(h0, .inr (5, vL 11 Fh)), (h_crew, .inl (cI, 4, .inl w2)), (h_p0_bytes, .inl (cB, 940, .inl f_p0_bytes)), (h_p0_wordNames, .inl (cJ, 23, .inr (.inl f_p0_wordNames))), (p1, .inr (1, vL 18 F_p1_)), (h_p1_manName, .inl (cJ, 12, .inr (.inl f_p1_manName))), (p0, .inr (6, vL 12 F77))] H := hP
      have hD : va_D A [(h0, .inr (5, vL 11 Fh)), (h_crew, .inl (cI, 4, .inl w2)), (h_p0_bytes, .inl (cB, 940, .inl f_p0_bytes)), (h_p0_wordNames, .inl (cJ, 23, .inr (.inl f_p0_wordNames))), (p1, .inr (1, vL 18 F_p1_)), (h_p1_manName, .inl (cJ, 12, .inr (.inl f_p1_manName))), (p0, .inr (6, vL 12 F77))] := hD
      refine W.widen (k := 0) (n := 0) (Nat.le_of_ble_eq_true rfl) (Nat.le_of_ble_eq_true rfl) ?_
      exact ret_i (v := 0) hx hb hr hlocks hS (hP.sub (ws' := [(h0, .inr (5, vL 11 Fh)), (h_crew, .inl (cI, 4, .inl w2)), (p0, .inr (6, vL 12 F77)), (h_p0_bytes, .inl (cB, 940, .inl f_p0_bytes)), (h_p0_wordNames, .inl (cJ, 23, .inr (.inl f_p0_wordNames))), (p1, .inr (1, vL 18 F_p1_)), (h_p1_manName, .inl (cJ, 12, .inr (.inl f_p1_manName)))]) [0, 1, 6, 2, 3, 4, 5] rfl) (hD.sub (ws' := [(h0, .inr (5, vL 11 Fh)), (h_crew, .inl (cI, 4, .inl w2)), (p0, .inr (6, vL 12 F77)), (h_p0_bytes, .inl (cB, 940, .inl f_p0_bytes)), (h_p0_wordNames, .inl (cJ, 23, .inr (.inl f_p0_wordNames))), (p1, .inr (1, vL 18 F_p1_)), (h_p1_manName, .inl (cJ, 12, .inr (.inl f_p1_manName)))]) [0, 1, 6, 2, 3, 4, 5] (by decide) rfl) dX5_readCrew_19 rfl (Nat.le_of_ble_eq_true rfl) (Nat.le_of_ble_eq_true rfl) ⟨Fh, x_crewed, F77, u4, u5, u6, u7, 1, u5, u10, w2, SAME.rf, e_crewed, i_x_crewed, (SAME.tr (SAME.tr SAME.rf i13 (by decide)) t78 (by decide)), (SAME.at t78 (by decide) i14), (SAME.at t78 (by decide) i15), (SAME.at t78 (by decide) i16), (SAME.at t78 (by decide) i17), t79, t80, (SAME.at t78 (by decide) i20), i21, i12, ⟨by decide, by decide⟩, rfl⟩
set_option maxHeartbeats 4000000 in
set_option maxRecDepth 100000 in
theorem m_X5_readLead (l : Launch) (D : va_G) (cI cJ cB cP cM cZ : ClassId) (h0 : Nat) (p0 : Nat) (h_p0_bytes : Nat) (h_p0_wordNames : Nat) (Fh : Nat → Value) (x_lead : Int32) (F_p0_ : Nat → Value) (x_p0_length : Int32) (x_p0_kind : Int32) (x_p0_place : Int32) (x_p0_value : Int32) (x_p0_name : Int64) (x_p0_number : Int32) (x_p0_faultKind : Int32) (x_p0_faultPlace : Int32) (x_p0_at : Int32) (x_p0_mostBytes : Int32) (f_p0_bytes : Nat → Int32) (f_p0_wordNames : Nat → Int64) (sz : Nat) (e_lead : Fh 4 = .int x_lead) (e_p0_bytes : F_p0_ 0 = .ref h_p0_bytes) (e_p0_length : F_p0_ 1 = .int x_p0_length) (i_x_p0_length : IR 0 940 x_p0_length) (e_p0_kind : F_p0_ 2 = .int x_p0_kind) (e_p0_place : F_p0_ 3 = .int x_p0_place) (e_p0_value : F_p0_ 4 = .int x_p0_value) (e_p0_name : F_p0_ 5 = .long x_p0_name) (e_p0_number : F_p0_ 6 = .int x_p0_number) (e_p0_faultKind : F_p0_ 7 = .int x_p0_faultKind) (e_p0_faultPlace : F_p0_ 8 = .int x_p0_faultPlace) (e_p0_wordNames : F_p0_ 9 = .ref h_p0_wordNames) (e_p0_at : F_p0_ 10 = .int x_p0_at) (i_x_p0_at : IR 0 940 x_p0_at) (e_p0_mostBytes : F_p0_ 11 = .int x_p0_mostBytes) : CI l yX5_readLead cX5_readLead 2 (some .boolean) { frames := 3, cells := 0, slots := 0, locals := 65 } (GG D cI cJ cB cP cM cZ) D [(h0, .inr (5, vL 11 Fh)), (p0, .inr (6, vL 12 F_p0_)), (h_p0_bytes, .inl (cB, 940, .inl f_p0_bytes)), (h_p0_wordNames, .inl (cJ, 23, .inr (.inl f_p0_wordNames)))] sz [.ref h0, .ref p0] (fun (r : Int32) (u : va_W) => ∃ (Gh : Nat → Value) (y_lead : Int32) (G_p0_ : Nat → Value) (y_p0_kind : Int32) (y_p0_place : Int32) (y_p0_value : Int32) (y_p0_name : Int64) (y_p0_number : Int32) (y_p0_faultKind : Int32) (y_p0_faultPlace : Int32) (y_p0_at : Int32), SAME [4] Fh Gh ∧ Gh 4 = .int y_lead ∧ SAME [2, 3, 4, 5, 6, 7, 8, 10] F_p0_ G_p0_ ∧ G_p0_ 2 = .int y_p0_kind ∧ G_p0_ 3 = .int y_p0_place ∧ G_p0_ 4 = .int y_p0_value ∧ G_p0_ 5 = .long y_p0_name ∧ G_p0_ 6 = .int y_p0_number ∧ G_p0_ 7 = .int y_p0_faultKind ∧ G_p0_ 8 = .int y_p0_faultPlace ∧ G_p0_ 10 = .int y_p0_at ∧ IR 0 940 y_p0_at ∧ IR 0 1 r ∧ u = [(h0, .inr (5, vL 11 Gh)), (p0, .inr (6, vL 12 G_p0_)), (h_p0_bytes, .inl (cB, 940, .inl f_p0_bytes)), (h_p0_wordNames, .inl (cJ, 23, .inr (.inl f_p0_wordNames)))]) := by
  refine CI_mk (by decide) (Nat.le_of_ble_eq_true rfl) ?_
  intro p e s m below meth c A ls E hAe hG hsz hP hD hA hS hl
  obtain ⟨hx, hb, hr, hw, hown, hlocks, hml, hnm⟩ := E
  have hK := hG.1
  have i_x_p0_length : 0 ≤ x_p0_length.toInt ∧ x_p0_length.toInt ≤ 940 := i_x_p0_length
  have i_x_p0_at : 0 ≤ x_p0_at.toInt ∧ x_p0_at.toInt ≤ 940 := i_x_p0_at
  have hl : lv_has ls 2 [(0, .ref h0), (1, .ref p0)] := hl
  refine lv_aload_n hx hb dX5_readLead_0 rfl (lv_at hl 1 rfl) ?_
  refine lv_iconst (v := 0) hx hb dX5_readLead_1 (by decide) ?_
  refine lv_bipush (v := 99) hx hb dX5_readLead_2 (by decide) ?_
  refine call_Vi (wr := [(h0, .inr (5, vL 11 Fh))]) (As := [.int 0, .int 99]) (rest := []) hx hb hml hown hw (m_X6_takeNumber l D cI cJ cB cP cM cZ p0 h_p0_bytes h_p0_wordNames F_p0_ x_p0_length x_p0_kind x_p0_place x_p0_value x_p0_name x_p0_at x_p0_mostBytes f_p0_bytes f_p0_wordNames 0 99 _ e_p0_bytes e_p0_length i_x_p0_length e_p0_kind e_p0_place e_p0_value e_p0_name e_p0_wordNames e_p0_at i_x_p0_at e_p0_mostBytes) wV_X5_136_X6_takeNumber dX5_readLead_4 hK hP hD hS hA [1, 2, 3] [0] rfl rfl (by decide) (by decide) (by decide) 0 6 rfl rfl GG.fb hG.at hl.1 rfl (Nat.le_of_ble_eq_true rfl) ⟨(Nat.le_of_ble_eq_true rfl), (Nat.le_of_ble_eq_true rfl)⟩ ⟨(Nat.le_of_ble_eq_true rfl), (Nat.le_of_ble_eq_true rfl)⟩ (fun r1 u H locs hp hP hD hS => ?_)
  rcases hp with ⟨F2, y3, t4, t5, t6, t7, rfl, rfl⟩ | ⟨F8, y9, y10, y11, y12, y13, t14, t15, t16, t17, t18, t19, t20, t21, t22, t23, t24, t25, rfl, rfl⟩
  · have hP : va_P D vwCl [(h0, .inr (5, vL 11 Fh)), (p0, .inr (6, vL 12 F2)), (h_p0_bytes, .inl (cB, 940, .inl f_p0_bytes)), (h_p0_wordNames, .inl (cJ, 23, .inr (.inl f_p0_wordNames)))] H := hP
    have hD : va_D A [(h0, .inr (5, vL 11 Fh)), (p0, .inr (6, vL 12 F2)), (h_p0_bytes, .inl (cB, 940, .inl f_p0_bytes)), (h_p0_wordNames, .inl (cJ, 23, .inr (.inl f_p0_wordNames)))] := hD
    refine W.widen (k := 0) (n := 0) (Nat.le_of_ble_eq_true rfl) (Nat.le_of_ble_eq_true rfl) ?_
    refine lv_if_ne (tgt := 12) hx hb dX5_readLead_7 (by decide) (fun g => absurd (by decide) g) (fun _ => ?_)
    refine lv_iconst (v := 0) hx hb dX5_readLead_10 (by decide) ?_
    exact ret_i (v := 0) hx hb hr hlocks hS hP hD dX5_readLead_11 rfl (Nat.le_of_ble_eq_true rfl) (Nat.le_of_ble_eq_true rfl) ⟨Fh, x_lead, F2, x_p0_kind, x_p0_place, x_p0_value, x_p0_name, x_p0_number, y3, x_p0_place, x_p0_at, SAME.rf, e_lead, (SAME.tr SAME.rf t4 (by decide)), (SAME.at t4 (by decide) e_p0_kind), (SAME.at t4 (by decide) e_p0_place), (SAME.at t4 (by decide) e_p0_value), (SAME.at t4 (by decide) e_p0_name), (SAME.at t4 (by decide) e_p0_number), t5, t7, (SAME.at t4 (by decide) e_p0_at), i_x_p0_at, ⟨by decide, by decide⟩, rfl⟩
  · have hP : va_P D vwCl [(h0, .inr (5, vL 11 Fh)), (p0, .inr (6, vL 12 F8)), (h_p0_bytes, .inl (cB, 940, .inl f_p0_bytes)), (h_p0_wordNames, .inl (cJ, 23, .inr (.inl f_p0_wordNames)))] H := hP
    have hD : va_D A [(h0, .inr (5, vL 11 Fh)), (p0, .inr (6, vL 12 F8)), (h_p0_bytes, .inl (cB, 940, .inl f_p0_bytes)), (h_p0_wordNames, .inl (cJ, 23, .inr (.inl f_p0_wordNames)))] := hD
    refine W.widen (k := 0) (n := 0) (Nat.le_of_ble_eq_true rfl) (Nat.le_of_ble_eq_true rfl) ?_
    have k26 : 3 ≤ x_p0_kind.toInt ∧ x_p0_kind.toInt ≤ 3 := ⟨Int.le_trans (Int.le_refl _) (Int.le_of_eq t23.symm), Int.le_trans (Int.le_of_eq t23) (Int.le_refl _)⟩
    have k27 : 0 ≤ x_p0_value.toInt ∧ x_p0_value.toInt ≤ 2147483647 := ⟨Int.le_trans (Int.le_refl _) t24, (ir_any _).2⟩
    have k28 : 0 ≤ x_p0_value.toInt ∧ x_p0_value.toInt ≤ 99 := ⟨k27.1, Int.le_trans t25 (Int.le_refl _)⟩
    refine lv_if_ne (tgt := 12) hx hb dX5_readLead_7 (by decide) (fun _ => ?_) (fun g => absurd g (by decide))
    refine lv_aload_n hx hb dX5_readLead_12 rfl (lv_at hl 0 rfl) ?_
    refine lv_aload_n hx hb dX5_readLead_13 rfl (lv_at hl 1 rfl) ?_
    refine get_f (D := D) (ci := 6) (v := .int x_p0_value) (C := RX6) (T := TX6) (N := 12) hx hb hw inAX6 hown hK hP 1 rfl rfl 6 (by decide) (hw _ q_104) (fun _ h9 => h9) t20 dX5_readLead_14 ?_
    refine put_f (D := D) (ci := 5) (v := .int x_p0_value) (ty := .int) (C := RX5) (T := TX5) (N := 11) hx hb hw inAX5 tyX5 tyX5_ok nmX5 hown hK hP hD hS 0 rfl rfl 4 (by decide) (hw _ q_160) (fun _ h9 => h9) rfl (by decide +kernel) rfl rfl dX5_readLead_17 (fun H locs F29 eF29 hP hD hS => ?_)
    have hP : va_P D vwCl [(h0, .inr (5, vL 11 F29)), (p0, .inr (6, vL 12 F8)), (h_p0_bytes, .inl (cB, 940, .inl f_p0_bytes)), (h_p0_wordNames, .inl (cJ, 23, .inr (.inl f_p0_wordNames)))] H := hP
    have hD : va_D A [(h0, .inr (5, vL 11 F29)), (p0, .inr (6, vL 12 F8)), (h_p0_bytes, .inl (cB, 940, .inl f_p0_bytes)), (h_p0_wordNames, .inl (cJ, 23, .inr (.inl f_p0_wordNames)))] := hD
    refine lv_iconst (v := 1) hx hb dX5_readLead_20 (by decide) ?_
    exact ret_i (v := 1) hx hb hr hlocks hS hP hD dX5_readLead_21 rfl (Nat.le_of_ble_eq_true rfl) (Nat.le_of_ble_eq_true rfl) ⟨F29, x_p0_value, F8, y9, y10, y11, y12, x_p0_value, x_p0_faultKind, x_p0_faultPlace, y13, (SAME.up eF29 SAME.rf (by decide)), (get_eq eF29), (SAME.tr SAME.rf t14 (by decide)), t15, t16, t18, t19, t20, (SAME.at t14 (by decide) e_p0_faultKind), (SAME.at t14 (by decide) e_p0_faultPlace), t21, t22, ⟨by decide, by decide⟩, rfl⟩
set_option maxHeartbeats 4000000 in
set_option maxRecDepth 100000 in
theorem m_X5_readOn (l : Launch) (D : va_G) (cI cJ cB cP cM cZ : ClassId) (h0 : Nat) (p0 : Nat) (h_p0_bytes : Nat) (h_p0_wordNames : Nat) (p1 : Nat) (h_p1_runnerName : Nat) (Fh : Nat → Value) (x_runner : Int32) (F_p0_ : Nat → Value) (x_p0_length : Int32) (x_p0_kind : Int32) (x_p0_place : Int32) (x_p0_value : Int32) (x_p0_name : Int64) (x_p0_faultKind : Int32) (x_p0_faultPlace : Int32) (x_p0_at : Int32) (x_p0_mostBytes : Int32) (f_p0_bytes : Nat → Int32) (f_p0_wordNames : Nat → Int64) (F_p1_ : Nat → Value) (x_p1_runners : Int32) (f_p1_runnerName : Nat → Int64) (sz : Nat) (e_runner : Fh 5 = .int x_runner) (e_p0_bytes : F_p0_ 0 = .ref h_p0_bytes) (e_p0_length : F_p0_ 1 = .int x_p0_length) (i_x_p0_length : IR 0 940 x_p0_length) (e_p0_kind : F_p0_ 2 = .int x_p0_kind) (e_p0_place : F_p0_ 3 = .int x_p0_place) (e_p0_value : F_p0_ 4 = .int x_p0_value) (e_p0_name : F_p0_ 5 = .long x_p0_name) (e_p0_faultKind : F_p0_ 7 = .int x_p0_faultKind) (e_p0_faultPlace : F_p0_ 8 = .int x_p0_faultPlace) (e_p0_wordNames : F_p0_ 9 = .ref h_p0_wordNames) (e_p0_at : F_p0_ 10 = .int x_p0_at) (i_x_p0_at : IR 0 940 x_p0_at) (e_p0_mostBytes : F_p0_ 11 = .int x_p0_mostBytes) (e_p1_runnerName : F_p1_ 10 = .ref h_p1_runnerName) (e_p1_runners : F_p1_ 15 = .int x_p1_runners) (i_x_p1_runners : IR 0 6 x_p1_runners) : CI l yX5_readOn cX5_readOn 4 (some .boolean) { frames := 2, cells := 0, slots := 0, locals := 46 } (GG D cI cJ cB cP cM cZ) D [(h0, .inr (5, vL 11 Fh)), (p0, .inr (6, vL 12 F_p0_)), (h_p0_bytes, .inl (cB, 940, .inl f_p0_bytes)), (h_p0_wordNames, .inl (cJ, 23, .inr (.inl f_p0_wordNames))), (p1, .inr (1, vL 18 F_p1_)), (h_p1_runnerName, .inl (cJ, 6, .inr (.inl f_p1_runnerName)))] sz [.ref h0, .ref p0, .ref p1] (fun (r : Int32) (u : va_W) => ∃ (Gh : Nat → Value) (y_runner : Int32) (G_p0_ : Nat → Value) (y_p0_kind : Int32) (y_p0_place : Int32) (y_p0_value : Int32) (y_p0_name : Int64) (y_p0_faultKind : Int32) (y_p0_faultPlace : Int32) (y_p0_at : Int32), SAME [5] Fh Gh ∧ Gh 5 = .int y_runner ∧ SAME [2, 3, 4, 5, 7, 8, 10] F_p0_ G_p0_ ∧ G_p0_ 2 = .int y_p0_kind ∧ G_p0_ 3 = .int y_p0_place ∧ G_p0_ 4 = .int y_p0_value ∧ G_p0_ 5 = .long y_p0_name ∧ G_p0_ 7 = .int y_p0_faultKind ∧ G_p0_ 8 = .int y_p0_faultPlace ∧ G_p0_ 10 = .int y_p0_at ∧ IR 0 940 y_p0_at ∧ IR 0 1 r ∧ u = [(h0, .inr (5, vL 11 Gh)), (p0, .inr (6, vL 12 G_p0_)), (h_p0_bytes, .inl (cB, 940, .inl f_p0_bytes)), (h_p0_wordNames, .inl (cJ, 23, .inr (.inl f_p0_wordNames))), (p1, .inr (1, vL 18 F_p1_)), (h_p1_runnerName, .inl (cJ, 6, .inr (.inl f_p1_runnerName)))]) := by
  refine CI_mk (by decide) (Nat.le_of_ble_eq_true rfl) ?_
  intro p e s m below meth c A ls E hAe hG hsz hP hD hA hS hl
  obtain ⟨hx, hb, hr, hw, hown, hlocks, hml, hnm⟩ := E
  have hK := hG.1
  have i_x_p0_length : 0 ≤ x_p0_length.toInt ∧ x_p0_length.toInt ≤ 940 := i_x_p0_length
  have i_x_p0_at : 0 ≤ x_p0_at.toInt ∧ x_p0_at.toInt ≤ 940 := i_x_p0_at
  have i_x_p1_runners : 0 ≤ x_p1_runners.toInt ∧ x_p1_runners.toInt ≤ 6 := i_x_p1_runners
  have hl : lv_has ls 4 [(0, .ref h0), (1, .ref p0), (2, .ref p1)] := hl
  refine lv_aload_n hx hb dX5_readOn_0 rfl (lv_at hl 1 rfl) ?_
  refine call_Vi (wr := [(h0, .inr (5, vL 11 Fh)), (h_p0_bytes, .inl (cB, 940, .inl f_p0_bytes)), (h_p0_wordNames, .inl (cJ, 23, .inr (.inl f_p0_wordNames))), (p1, .inr (1, vL 18 F_p1_)), (h_p1_runnerName, .inl (cJ, 6, .inr (.inl f_p1_runnerName)))]) (As := []) (rest := []) hx hb hml hown hw (m_X6_isName l D cI cJ cB cP cM cZ p0 F_p0_ x_p0_kind x_p0_value _ e_p0_kind e_p0_value) wV_X5_120_X6_isName dX5_readOn_1 hK hP hD hS hA [1] [0, 2, 3, 4, 5] rfl rfl (by decide) (by decide) (by decide) 0 6 rfl rfl GG.fb hG.at hl.1 rfl (Nat.le_of_ble_eq_true rfl) ⟨(Nat.le_of_ble_eq_true rfl), (Nat.le_of_ble_eq_true rfl)⟩ ⟨(Nat.le_of_ble_eq_true rfl), (Nat.le_of_ble_eq_true rfl)⟩ (fun r1 u H locs hp hP hD hS => ?_)
  obtain ⟨t2, rfl⟩ := hp
  have hP : va_P D vwCl [(h0, .inr (5, vL 11 Fh)), (h_p0_bytes, .inl (cB, 940, .inl f_p0_bytes)), (h_p0_wordNames, .inl (cJ, 23, .inr (.inl f_p0_wordNames))), (p1, .inr (1, vL 18 F_p1_)), (h_p1_runnerName, .inl (cJ, 6, .inr (.inl f_p1_runnerName))), (p0, .inr (6, vL 12 F_p0_))] H := hP
  have hD : va_D A [(h0, .inr (5, vL 11 Fh)), (h_p0_bytes, .inl (cB, 940, .inl f_p0_bytes)), (h_p0_wordNames, .inl (cJ, 23, .inr (.inl f_p0_wordNames))), (p1, .inr (1, vL 18 F_p1_)), (h_p1_runnerName, .inl (cJ, 6, .inr (.inl f_p1_runnerName))), (p0, .inr (6, vL 12 F_p0_))] := hD
  refine W.widen (k := 0) (n := 0) (Nat.le_of_ble_eq_true rfl) (Nat.le_of_ble_eq_true rfl) ?_
  refine lv_if_ne (tgt := 13) hx hb dX5_readOn_4 (by decide) (fun c3 => ?_) (fun c3 => ?_)
  · have dc3 : r1.toInt ≠ 0 := ne_i (a := r1.toInt) (b := 0) rfl rfl c3
    have k4 : 1 ≤ r1.toInt ∧ r1.toInt ≤ 1 := ⟨ne_lo dc3 t2.1 ⟨Int.le_refl _, Int.le_refl _⟩ (by decide), t2.2⟩
    refine lv_aload_n hx hb dX5_readOn_13 rfl (lv_at hl 2 rfl) ?_
    refine lv_aload_n hx hb dX5_readOn_14 rfl (lv_at hl 1 rfl) ?_
    refine get_f (D := D) (ci := 6) (v := .long x_p0_name) (C := RX6) (T := TX6) (N := 12) hx hb hw inAX6 hown hK hP 5 rfl rfl 5 (by decide) (hw _ q_100) (fun _ h9 => h9) e_p0_name dX5_readOn_15 ?_
    refine call_Vi (wr := [(h0, .inr (5, vL 11 Fh)), (h_p0_bytes, .inl (cB, 940, .inl f_p0_bytes)), (h_p0_wordNames, .inl (cJ, 23, .inr (.inl f_p0_wordNames))), (p0, .inr (6, vL 12 F_p0_))]) (As := [.long x_p0_name]) (rest := []) hx hb hml hown hw (m_X1_runnerNamed l D cI cJ cB cP cM cZ p1 h_p1_runnerName F_p1_ x_p1_runners f_p1_runnerName x_p0_name _ e_p1_runnerName e_p1_runners i_x_p1_runners) wV_X5_147_X1_runnerNamed dX5_readOn_18 hK hP hD hS hA [3, 4] [0, 1, 2, 5] rfl rfl (by decide) (by decide) (by decide) 0 1 rfl rfl GG.fb hG.at hl.1 rfl (Nat.le_of_ble_eq_true rfl) ⟨(Nat.le_of_ble_eq_true rfl), (Nat.le_of_ble_eq_true rfl)⟩ ⟨(Nat.le_of_ble_eq_true rfl), (Nat.le_of_ble_eq_true rfl)⟩ (fun r5 u H locs hp hP hD hS => ?_)
    obtain ⟨t6, rfl⟩ := hp
    have hP : va_P D vwCl [(h0, .inr (5, vL 11 Fh)), (h_p0_bytes, .inl (cB, 940, .inl f_p0_bytes)), (h_p0_wordNames, .inl (cJ, 23, .inr (.inl f_p0_wordNames))), (p0, .inr (6, vL 12 F_p0_)), (p1, .inr (1, vL 18 F_p1_)), (h_p1_runnerName, .inl (cJ, 6, .inr (.inl f_p1_runnerName)))] H := hP
    have hD : va_D A [(h0, .inr (5, vL 11 Fh)), (h_p0_bytes, .inl (cB, 940, .inl f_p0_bytes)), (h_p0_wordNames, .inl (cJ, 23, .inr (.inl f_p0_wordNames))), (p0, .inr (6, vL 12 F_p0_)), (p1, .inr (1, vL 18 F_p1_)), (h_p1_runnerName, .inl (cJ, 6, .inr (.inl f_p1_runnerName)))] := hD
    refine W.widen (k := 0) (n := 0) (Nat.le_of_ble_eq_true rfl) (Nat.le_of_ble_eq_true rfl) ?_
    refine lv_istore_n (lv' := [(3, .int r5), (0, .ref h0), (1, .ref p0), (2, .ref p1)]) hx hb dX5_readOn_21 rfl hl (by decide) rfl (fun ls hl => ?_)
    refine lv_iload_n hx hb dX5_readOn_22 rfl (lv_at hl 0 rfl) ?_
    refine lv_iconst (v := (-1)) hx hb dX5_readOn_23 (by decide) ?_
    refine lv_icmp_ne (tgt := 33) hx hb dX5_readOn_24 (by decide) (fun c7 => ?_) (fun c7 => ?_)
    · have dc7 : r5.toInt ≠ (-1) := ne_i (a := r5.toInt) (b := (-1)) rfl rfl c7
      have k8 : 0 ≤ r5.toInt ∧ r5.toInt ≤ 5 := ⟨ne_lo dc7 t6.1 ⟨Int.le_refl _, Int.le_refl _⟩ (by decide), t6.2⟩
      refine lv_aload_n hx hb dX5_readOn_33 rfl (lv_at hl 1 rfl) ?_
      refine lv_iload_n hx hb dX5_readOn_34 rfl (lv_at hl 0 rfl) ?_
      refine put_f (D := D) (ci := 5) (v := .int r5) (ty := .int) (C := RX5) (T := TX5) (N := 11) hx hb hw inAX5 tyX5 tyX5_ok nmX5 hown hK hP hD hS 0 rfl rfl 5 (by decide) (hw _ q_164) (fun _ h9 => h9) rfl (by decide +kernel) rfl rfl dX5_readOn_35 (fun H locs F9 eF9 hP hD hS => ?_)
      have hP : va_P D vwCl [(h0, .inr (5, vL 11 F9)), (h_p0_bytes, .inl (cB, 940, .inl f_p0_bytes)), (h_p0_wordNames, .inl (cJ, 23, .inr (.inl f_p0_wordNames))), (p0, .inr (6, vL 12 F_p0_)), (p1, .inr (1, vL 18 F_p1_)), (h_p1_runnerName, .inl (cJ, 6, .inr (.inl f_p1_runnerName)))] H := hP
      have hD : va_D A [(h0, .inr (5, vL 11 F9)), (h_p0_bytes, .inl (cB, 940, .inl f_p0_bytes)), (h_p0_wordNames, .inl (cJ, 23, .inr (.inl f_p0_wordNames))), (p0, .inr (6, vL 12 F_p0_)), (p1, .inr (1, vL 18 F_p1_)), (h_p1_runnerName, .inl (cJ, 6, .inr (.inl f_p1_runnerName)))] := hD
      refine lv_aload_n hx hb dX5_readOn_38 rfl (lv_at hl 2 rfl) ?_
      refine call_Vv (wr := [(h0, .inr (5, vL 11 F9)), (p1, .inr (1, vL 18 F_p1_)), (h_p1_runnerName, .inl (cJ, 6, .inr (.inl f_p1_runnerName)))]) (As := []) (rest := []) hx hb hml hown hw (m_X6_advance l D cI cJ cB cP cM cZ p0 h_p0_bytes h_p0_wordNames F_p0_ x_p0_length x_p0_value x_p0_name x_p0_at x_p0_mostBytes f_p0_bytes f_p0_wordNames _ e_p0_bytes e_p0_length i_x_p0_length e_p0_value e_p0_name e_p0_wordNames e_p0_at i_x_p0_at e_p0_mostBytes) wV_X5_98_X6_advance dX5_readOn_39 hK hP hD hS hA [3, 1, 2] [0, 4, 5] rfl rfl (by decide) (by decide) (by decide) 0 6 rfl rfl GG.fb hG.at hl.1 rfl (Nat.le_of_ble_eq_true rfl) ⟨(Nat.le_of_ble_eq_true rfl), (Nat.le_of_ble_eq_true rfl)⟩ ⟨(Nat.le_of_ble_eq_true rfl), (Nat.le_of_ble_eq_true rfl)⟩ (fun u H locs hp hP hD hS => ?_)
      obtain ⟨F11, y12, y13, y14, y15, y16, t17, t18, t19, t20, t21, t22, t23, t24, rfl⟩ := hp
      have hP : va_P D vwCl [(h0, .inr (5, vL 11 F9)), (p1, .inr (1, vL 18 F_p1_)), (h_p1_runnerName, .inl (cJ, 6, .inr (.inl f_p1_runnerName))), (p0, .inr (6, vL 12 F11)), (h_p0_bytes, .inl (cB, 940, .inl f_p0_bytes)), (h_p0_wordNames, .inl (cJ, 23, .inr (.inl f_p0_wordNames)))] H := hP
      have hD : va_D A [(h0, .inr (5, vL 11 F9)), (p1, .inr (1, vL 18 F_p1_)), (h_p1_runnerName, .inl (cJ, 6, .inr (.inl f_p1_runnerName))), (p0, .inr (6, vL 12 F11)), (h_p0_bytes, .inl (cB, 940, .inl f_p0_bytes)), (h_p0_wordNames, .inl (cJ, 23, .inr (.inl f_p0_wordNames)))] := hD
      refine W.widen (k := 0) (n := 0) (Nat.le_of_ble_eq_true rfl) (Nat.le_of_ble_eq_true rfl) ?_
      refine lv_iconst (v := 1) hx hb dX5_readOn_42 (by decide) ?_
      exact ret_i (v := 1) hx hb hr hlocks hS (hP.sub (ws' := [(h0, .inr (5, vL 11 F9)), (p0, .inr (6, vL 12 F11)), (h_p0_bytes, .inl (cB, 940, .inl f_p0_bytes)), (h_p0_wordNames, .inl (cJ, 23, .inr (.inl f_p0_wordNames))), (p1, .inr (1, vL 18 F_p1_)), (h_p1_runnerName, .inl (cJ, 6, .inr (.inl f_p1_runnerName)))]) [0, 3, 4, 5, 1, 2] rfl) (hD.sub (ws' := [(h0, .inr (5, vL 11 F9)), (p0, .inr (6, vL 12 F11)), (h_p0_bytes, .inl (cB, 940, .inl f_p0_bytes)), (h_p0_wordNames, .inl (cJ, 23, .inr (.inl f_p0_wordNames))), (p1, .inr (1, vL 18 F_p1_)), (h_p1_runnerName, .inl (cJ, 6, .inr (.inl f_p1_runnerName)))]) [0, 3, 4, 5, 1, 2] (by decide) rfl) dX5_readOn_43 rfl (Nat.le_of_ble_eq_true rfl) (Nat.le_of_ble_eq_true rfl) ⟨F9, r5, F11, y12, y13, y14, y15, x_p0_faultKind, x_p0_faultPlace, y16, (SAME.up eF9 SAME.rf (by decide)), (get_eq eF9), (SAME.tr SAME.rf t17 (by decide)), t18, t19, t21, t22, (SAME.at t17 (by decide) e_p0_faultKind), (SAME.at t17 (by decide) e_p0_faultPlace), t23, t24, ⟨by decide, by decide⟩, rfl⟩
    · have dc7 : r5.toInt = (-1) := eq_i (a := r5.toInt) (b := (-1)) rfl rfl c7
      have k25 : (-1) ≤ r5.toInt ∧ r5.toInt ≤ (-1) := ⟨t6.1, Int.le_trans (Int.le_of_eq dc7) (Int.le_refl _)⟩
      refine lv_aload_n hx hb dX5_readOn_27 rfl (lv_at hl 2 rfl) ?_
      refine lv_iconst (v := 3) hx hb dX5_readOn_28 (by decide) ?_
      refine call_Vi (wr := [(h0, .inr (5, vL 11 Fh)), (h_p0_bytes, .inl (cB, 940, .inl f_p0_bytes)), (h_p0_wordNames, .inl (cJ, 23, .inr (.inl f_p0_wordNames))), (p1, .inr (1, vL 18 F_p1_)), (h_p1_runnerName, .inl (cJ, 6, .inr (.inl f_p1_runnerName)))]) (As := [.int 3]) (rest := []) hx hb hml hown hw (m_X6_fail l D cI cJ cB cP cM cZ p0 F_p0_ x_p0_place 3 _ e_p0_place) wV_X5_95_X6_fail dX5_readOn_29 hK hP hD hS hA [3] [0, 1, 2, 4, 5] rfl rfl (by decide) (by decide) (by decide) 0 6 rfl rfl GG.fb hG.at hl.1 rfl (Nat.le_of_ble_eq_true rfl) ⟨(Nat.le_of_ble_eq_true rfl), (Nat.le_of_ble_eq_true rfl)⟩ ⟨(Nat.le_of_ble_eq_true rfl), (Nat.le_of_ble_eq_true rfl)⟩ (fun r26 u H locs hp hP hD hS => ?_)
      obtain ⟨F27, t28, t29, t30, rfl, rfl⟩ := hp
      have hP : va_P D vwCl [(h0, .inr (5, vL 11 Fh)), (h_p0_bytes, .inl (cB, 940, .inl f_p0_bytes)), (h_p0_wordNames, .inl (cJ, 23, .inr (.inl f_p0_wordNames))), (p1, .inr (1, vL 18 F_p1_)), (h_p1_runnerName, .inl (cJ, 6, .inr (.inl f_p1_runnerName))), (p0, .inr (6, vL 12 F27))] H := hP
      have hD : va_D A [(h0, .inr (5, vL 11 Fh)), (h_p0_bytes, .inl (cB, 940, .inl f_p0_bytes)), (h_p0_wordNames, .inl (cJ, 23, .inr (.inl f_p0_wordNames))), (p1, .inr (1, vL 18 F_p1_)), (h_p1_runnerName, .inl (cJ, 6, .inr (.inl f_p1_runnerName))), (p0, .inr (6, vL 12 F27))] := hD
      refine W.widen (k := 0) (n := 0) (Nat.le_of_ble_eq_true rfl) (Nat.le_of_ble_eq_true rfl) ?_
      exact ret_i (v := 0) hx hb hr hlocks hS (hP.sub (ws' := [(h0, .inr (5, vL 11 Fh)), (p0, .inr (6, vL 12 F27)), (h_p0_bytes, .inl (cB, 940, .inl f_p0_bytes)), (h_p0_wordNames, .inl (cJ, 23, .inr (.inl f_p0_wordNames))), (p1, .inr (1, vL 18 F_p1_)), (h_p1_runnerName, .inl (cJ, 6, .inr (.inl f_p1_runnerName)))]) [0, 5, 1, 2, 3, 4] rfl) (hD.sub (ws' := [(h0, .inr (5, vL 11 Fh)), (p0, .inr (6, vL 12 F27)), (h_p0_bytes, .inl (cB, 940, .inl f_p0_bytes)), (h_p0_wordNames, .inl (cJ, 23, .inr (.inl f_p0_wordNames))), (p1, .inr (1, vL 18 F_p1_)), (h_p1_runnerName, .inl (cJ, 6, .inr (.inl f_p1_runnerName)))]) [0, 5, 1, 2, 3, 4] (by decide) rfl) dX5_readOn_32 rfl (Nat.le_of_ble_eq_true rfl) (Nat.le_of_ble_eq_true rfl) ⟨Fh, x_runner, F27, x_p0_kind, x_p0_place, x_p0_value, x_p0_name, 3, x_p0_place, x_p0_at, SAME.rf, e_runner, (SAME.tr SAME.rf t28 (by decide)), (SAME.at t28 (by decide) e_p0_kind), (SAME.at t28 (by decide) e_p0_place), (SAME.at t28 (by decide) e_p0_value), (SAME.at t28 (by decide) e_p0_name), t29, t30, (SAME.at t28 (by decide) e_p0_at), i_x_p0_at, ⟨by decide, by decide⟩, rfl⟩
  · have dc3 : r1.toInt = 0 := eq_i (a := r1.toInt) (b := 0) rfl rfl c3
    have k31 : 0 ≤ r1.toInt ∧ r1.toInt ≤ 0 := ⟨t2.1, Int.le_trans (Int.le_of_eq dc3) (Int.le_refl _)⟩
    refine lv_aload_n hx hb dX5_readOn_7 rfl (lv_at hl 1 rfl) ?_
    refine lv_iconst (v := 1) hx hb dX5_readOn_8 (by decide) ?_
    refine call_Vi (wr := [(h0, .inr (5, vL 11 Fh)), (h_p0_bytes, .inl (cB, 940, .inl f_p0_bytes)), (h_p0_wordNames, .inl (cJ, 23, .inr (.inl f_p0_wordNames))), (p1, .inr (1, vL 18 F_p1_)), (h_p1_runnerName, .inl (cJ, 6, .inr (.inl f_p1_runnerName)))]) (As := [.int 1]) (rest := []) hx hb hml hown hw (m_X6_fail l D cI cJ cB cP cM cZ p0 F_p0_ x_p0_place 1 _ e_p0_place) wV_X5_95_X6_fail dX5_readOn_9 hK hP hD hS hA [5] [0, 1, 2, 3, 4] rfl rfl (by decide) (by decide) (by decide) 0 6 rfl rfl GG.fb hG.at hl.1 rfl (Nat.le_of_ble_eq_true rfl) ⟨(Nat.le_of_ble_eq_true rfl), (Nat.le_of_ble_eq_true rfl)⟩ ⟨(Nat.le_of_ble_eq_true rfl), (Nat.le_of_ble_eq_true rfl)⟩ (fun r32 u H locs hp hP hD hS => ?_)
    obtain ⟨F33, t34, t35, t36, rfl, rfl⟩ := hp
    have hP : va_P D vwCl [(h0, .inr (5, vL 11 Fh)), (h_p0_bytes, .inl (cB, 940, .inl f_p0_bytes)), (h_p0_wordNames, .inl (cJ, 23, .inr (.inl f_p0_wordNames))), (p1, .inr (1, vL 18 F_p1_)), (h_p1_runnerName, .inl (cJ, 6, .inr (.inl f_p1_runnerName))), (p0, .inr (6, vL 12 F33))] H := hP
    have hD : va_D A [(h0, .inr (5, vL 11 Fh)), (h_p0_bytes, .inl (cB, 940, .inl f_p0_bytes)), (h_p0_wordNames, .inl (cJ, 23, .inr (.inl f_p0_wordNames))), (p1, .inr (1, vL 18 F_p1_)), (h_p1_runnerName, .inl (cJ, 6, .inr (.inl f_p1_runnerName))), (p0, .inr (6, vL 12 F33))] := hD
    refine W.widen (k := 0) (n := 0) (Nat.le_of_ble_eq_true rfl) (Nat.le_of_ble_eq_true rfl) ?_
    exact ret_i (v := 0) hx hb hr hlocks hS (hP.sub (ws' := [(h0, .inr (5, vL 11 Fh)), (p0, .inr (6, vL 12 F33)), (h_p0_bytes, .inl (cB, 940, .inl f_p0_bytes)), (h_p0_wordNames, .inl (cJ, 23, .inr (.inl f_p0_wordNames))), (p1, .inr (1, vL 18 F_p1_)), (h_p1_runnerName, .inl (cJ, 6, .inr (.inl f_p1_runnerName)))]) [0, 5, 1, 2, 3, 4] rfl) (hD.sub (ws' := [(h0, .inr (5, vL 11 Fh)), (p0, .inr (6, vL 12 F33)), (h_p0_bytes, .inl (cB, 940, .inl f_p0_bytes)), (h_p0_wordNames, .inl (cJ, 23, .inr (.inl f_p0_wordNames))), (p1, .inr (1, vL 18 F_p1_)), (h_p1_runnerName, .inl (cJ, 6, .inr (.inl f_p1_runnerName)))]) [0, 5, 1, 2, 3, 4] (by decide) rfl) dX5_readOn_12 rfl (Nat.le_of_ble_eq_true rfl) (Nat.le_of_ble_eq_true rfl) ⟨Fh, x_runner, F33, x_p0_kind, x_p0_place, x_p0_value, x_p0_name, 1, x_p0_place, x_p0_at, SAME.rf, e_runner, (SAME.tr SAME.rf t34 (by decide)), (SAME.at t34 (by decide) e_p0_kind), (SAME.at t34 (by decide) e_p0_place), (SAME.at t34 (by decide) e_p0_value), (SAME.at t34 (by decide) e_p0_name), t35, t36, (SAME.at t34 (by decide) e_p0_at), i_x_p0_at, ⟨by decide, by decide⟩, rfl⟩
set_option maxHeartbeats 4000000 in
set_option maxRecDepth 100000 in
theorem m_X5_readStart (l : Launch) (D : va_G) (cI cJ cB cP cM cZ : ClassId) (h0 : Nat) (p0 : Nat) (h_p0_bytes : Nat) (h_p0_wordNames : Nat) (Fh : Nat → Value) (x_number : Int32) (F_p0_ : Nat → Value) (x_p0_length : Int32) (x_p0_kind : Int32) (x_p0_place : Int32) (x_p0_value : Int32) (x_p0_name : Int64) (x_p0_number : Int32) (x_p0_faultKind : Int32) (x_p0_faultPlace : Int32) (x_p0_at : Int32) (x_p0_mostBytes : Int32) (f_p0_bytes : Nat → Int32) (f_p0_wordNames : Nat → Int64) (sz : Nat) (e_number : Fh 6 = .int x_number) (e_p0_bytes : F_p0_ 0 = .ref h_p0_bytes) (e_p0_length : F_p0_ 1 = .int x_p0_length) (i_x_p0_length : IR 0 940 x_p0_length) (e_p0_kind : F_p0_ 2 = .int x_p0_kind) (e_p0_place : F_p0_ 3 = .int x_p0_place) (e_p0_value : F_p0_ 4 = .int x_p0_value) (e_p0_name : F_p0_ 5 = .long x_p0_name) (e_p0_number : F_p0_ 6 = .int x_p0_number) (e_p0_faultKind : F_p0_ 7 = .int x_p0_faultKind) (e_p0_faultPlace : F_p0_ 8 = .int x_p0_faultPlace) (e_p0_wordNames : F_p0_ 9 = .ref h_p0_wordNames) (e_p0_at : F_p0_ 10 = .int x_p0_at) (i_x_p0_at : IR 0 940 x_p0_at) (e_p0_mostBytes : F_p0_ 11 = .int x_p0_mostBytes) : CI l yX5_readStart cX5_readStart 2 (some .boolean) { frames := 3, cells := 0, slots := 0, locals := 65 } (GG D cI cJ cB cP cM cZ) D [(h0, .inr (5, vL 11 Fh)), (p0, .inr (6, vL 12 F_p0_)), (h_p0_bytes, .inl (cB, 940, .inl f_p0_bytes)), (h_p0_wordNames, .inl (cJ, 23, .inr (.inl f_p0_wordNames)))] sz [.ref h0, .ref p0] (fun (r : Int32) (u : va_W) => ∃ (Gh : Nat → Value) (y_number : Int32) (G_p0_ : Nat → Value) (y_p0_kind : Int32) (y_p0_place : Int32) (y_p0_value : Int32) (y_p0_name : Int64) (y_p0_number : Int32) (y_p0_faultKind : Int32) (y_p0_faultPlace : Int32) (y_p0_at : Int32), SAME [6] Fh Gh ∧ Gh 6 = .int y_number ∧ SAME [2, 3, 4, 5, 6, 7, 8, 10] F_p0_ G_p0_ ∧ G_p0_ 2 = .int y_p0_kind ∧ G_p0_ 3 = .int y_p0_place ∧ G_p0_ 4 = .int y_p0_value ∧ G_p0_ 5 = .long y_p0_name ∧ G_p0_ 6 = .int y_p0_number ∧ G_p0_ 7 = .int y_p0_faultKind ∧ G_p0_ 8 = .int y_p0_faultPlace ∧ G_p0_ 10 = .int y_p0_at ∧ IR 0 940 y_p0_at ∧ IR 0 1 r ∧ u = [(h0, .inr (5, vL 11 Gh)), (p0, .inr (6, vL 12 G_p0_)), (h_p0_bytes, .inl (cB, 940, .inl f_p0_bytes)), (h_p0_wordNames, .inl (cJ, 23, .inr (.inl f_p0_wordNames)))]) := by
  refine CI_mk (by decide) (Nat.le_of_ble_eq_true rfl) ?_
  intro p e s m below meth c A ls E hAe hG hsz hP hD hA hS hl
  obtain ⟨hx, hb, hr, hw, hown, hlocks, hml, hnm⟩ := E
  have hK := hG.1
  have i_x_p0_length : 0 ≤ x_p0_length.toInt ∧ x_p0_length.toInt ≤ 940 := i_x_p0_length
  have i_x_p0_at : 0 ≤ x_p0_at.toInt ∧ x_p0_at.toInt ≤ 940 := i_x_p0_at
  have hl : lv_has ls 2 [(0, .ref h0), (1, .ref p0)] := hl
  refine lv_aload_n hx hb dX5_readStart_0 rfl (lv_at hl 1 rfl) ?_
  refine lv_iconst (v := 1) hx hb dX5_readStart_1 (by decide) ?_
  refine lv_bipush (v := 60) hx hb dX5_readStart_2 (by decide) ?_
  refine call_Vi (wr := [(h0, .inr (5, vL 11 Fh))]) (As := [.int 1, .int 60]) (rest := []) hx hb hml hown hw (m_X6_takeNumber l D cI cJ cB cP cM cZ p0 h_p0_bytes h_p0_wordNames F_p0_ x_p0_length x_p0_kind x_p0_place x_p0_value x_p0_name x_p0_at x_p0_mostBytes f_p0_bytes f_p0_wordNames 1 60 _ e_p0_bytes e_p0_length i_x_p0_length e_p0_kind e_p0_place e_p0_value e_p0_name e_p0_wordNames e_p0_at i_x_p0_at e_p0_mostBytes) wV_X5_136_X6_takeNumber dX5_readStart_4 hK hP hD hS hA [1, 2, 3] [0] rfl rfl (by decide) (by decide) (by decide) 0 6 rfl rfl GG.fb hG.at hl.1 rfl (Nat.le_of_ble_eq_true rfl) ⟨(Nat.le_of_ble_eq_true rfl), (Nat.le_of_ble_eq_true rfl)⟩ ⟨(Nat.le_of_ble_eq_true rfl), (Nat.le_of_ble_eq_true rfl)⟩ (fun r1 u H locs hp hP hD hS => ?_)
  rcases hp with ⟨F2, y3, t4, t5, t6, t7, rfl, rfl⟩ | ⟨F8, y9, y10, y11, y12, y13, t14, t15, t16, t17, t18, t19, t20, t21, t22, t23, t24, t25, rfl, rfl⟩
  · have hP : va_P D vwCl [(h0, .inr (5, vL 11 Fh)), (p0, .inr (6, vL 12 F2)), (h_p0_bytes, .inl (cB, 940, .inl f_p0_bytes)), (h_p0_wordNames, .inl (cJ, 23, .inr (.inl f_p0_wordNames)))] H := hP
    have hD : va_D A [(h0, .inr (5, vL 11 Fh)), (p0, .inr (6, vL 12 F2)), (h_p0_bytes, .inl (cB, 940, .inl f_p0_bytes)), (h_p0_wordNames, .inl (cJ, 23, .inr (.inl f_p0_wordNames)))] := hD
    refine W.widen (k := 0) (n := 0) (Nat.le_of_ble_eq_true rfl) (Nat.le_of_ble_eq_true rfl) ?_
    refine lv_if_ne (tgt := 12) hx hb dX5_readStart_7 (by decide) (fun g => absurd (by decide) g) (fun _ => ?_)
    refine lv_iconst (v := 0) hx hb dX5_readStart_10 (by decide) ?_
    exact ret_i (v := 0) hx hb hr hlocks hS hP hD dX5_readStart_11 rfl (Nat.le_of_ble_eq_true rfl) (Nat.le_of_ble_eq_true rfl) ⟨Fh, x_number, F2, x_p0_kind, x_p0_place, x_p0_value, x_p0_name, x_p0_number, y3, x_p0_place, x_p0_at, SAME.rf, e_number, (SAME.tr SAME.rf t4 (by decide)), (SAME.at t4 (by decide) e_p0_kind), (SAME.at t4 (by decide) e_p0_place), (SAME.at t4 (by decide) e_p0_value), (SAME.at t4 (by decide) e_p0_name), (SAME.at t4 (by decide) e_p0_number), t5, t7, (SAME.at t4 (by decide) e_p0_at), i_x_p0_at, ⟨by decide, by decide⟩, rfl⟩
  · have hP : va_P D vwCl [(h0, .inr (5, vL 11 Fh)), (p0, .inr (6, vL 12 F8)), (h_p0_bytes, .inl (cB, 940, .inl f_p0_bytes)), (h_p0_wordNames, .inl (cJ, 23, .inr (.inl f_p0_wordNames)))] H := hP
    have hD : va_D A [(h0, .inr (5, vL 11 Fh)), (p0, .inr (6, vL 12 F8)), (h_p0_bytes, .inl (cB, 940, .inl f_p0_bytes)), (h_p0_wordNames, .inl (cJ, 23, .inr (.inl f_p0_wordNames)))] := hD
    refine W.widen (k := 0) (n := 0) (Nat.le_of_ble_eq_true rfl) (Nat.le_of_ble_eq_true rfl) ?_
    have k26 : 3 ≤ x_p0_kind.toInt ∧ x_p0_kind.toInt ≤ 3 := ⟨Int.le_trans (Int.le_refl _) (Int.le_of_eq t23.symm), Int.le_trans (Int.le_of_eq t23) (Int.le_refl _)⟩
    have k27 : 1 ≤ x_p0_value.toInt ∧ x_p0_value.toInt ≤ 2147483647 := ⟨Int.le_trans (Int.le_refl _) t24, (ir_any _).2⟩
    have k28 : 1 ≤ x_p0_value.toInt ∧ x_p0_value.toInt ≤ 60 := ⟨k27.1, Int.le_trans t25 (Int.le_refl _)⟩
    refine lv_if_ne (tgt := 12) hx hb dX5_readStart_7 (by decide) (fun _ => ?_) (fun g => absurd g (by decide))
    refine lv_aload_n hx hb dX5_readStart_12 rfl (lv_at hl 0 rfl) ?_
    refine lv_aload_n hx hb dX5_readStart_13 rfl (lv_at hl 1 rfl) ?_
    refine get_f (D := D) (ci := 6) (v := .int x_p0_value) (C := RX6) (T := TX6) (N := 12) hx hb hw inAX6 hown hK hP 1 rfl rfl 6 (by decide) (hw _ q_104) (fun _ h9 => h9) t20 dX5_readStart_14 ?_
    refine put_f (D := D) (ci := 5) (v := .int x_p0_value) (ty := .int) (C := RX5) (T := TX5) (N := 11) hx hb hw inAX5 tyX5 tyX5_ok nmX5 hown hK hP hD hS 0 rfl rfl 6 (by decide) (hw _ q_167) (fun _ h9 => h9) rfl (by decide +kernel) rfl rfl dX5_readStart_17 (fun H locs F29 eF29 hP hD hS => ?_)
    have hP : va_P D vwCl [(h0, .inr (5, vL 11 F29)), (p0, .inr (6, vL 12 F8)), (h_p0_bytes, .inl (cB, 940, .inl f_p0_bytes)), (h_p0_wordNames, .inl (cJ, 23, .inr (.inl f_p0_wordNames)))] H := hP
    have hD : va_D A [(h0, .inr (5, vL 11 F29)), (p0, .inr (6, vL 12 F8)), (h_p0_bytes, .inl (cB, 940, .inl f_p0_bytes)), (h_p0_wordNames, .inl (cJ, 23, .inr (.inl f_p0_wordNames)))] := hD
    refine lv_iconst (v := 1) hx hb dX5_readStart_20 (by decide) ?_
    exact ret_i (v := 1) hx hb hr hlocks hS hP hD dX5_readStart_21 rfl (Nat.le_of_ble_eq_true rfl) (Nat.le_of_ble_eq_true rfl) ⟨F29, x_p0_value, F8, y9, y10, y11, y12, x_p0_value, x_p0_faultKind, x_p0_faultPlace, y13, (SAME.up eF29 SAME.rf (by decide)), (get_eq eF29), (SAME.tr SAME.rf t14 (by decide)), t15, t16, t18, t19, t20, (SAME.at t14 (by decide) e_p0_faultKind), (SAME.at t14 (by decide) e_p0_faultPlace), t21, t22, ⟨by decide, by decide⟩, rfl⟩
set_option maxHeartbeats 4000000 in
set_option maxRecDepth 100000 in
theorem m_X5_readLine (l : Launch) (D : va_G) (cI cJ cB cP cM cZ : ClassId) (h0 : Nat) (h_crew : Nat) (h_yard : Nat) (h_high : Nat) (p0 : Nat) (h_p0_bytes : Nat) (h_p0_wordNames : Nat) (p1 : Nat) (h_p1_settings : Nat) (h_p1_manName : Nat) (h_p1_runnerName : Nat) (Fh : Nat → Value) (x_crewed : Int32) (x_lead : Int32) (x_runner : Int32) (x_number : Int32) (x_linesTold : Int32) (x_jumpsTold : Int32) (x_heightsTold : Int32) (f_crew : Nat → Int32) (f_yard : Nat → Int32) (f_high : Nat → Int32) (F_p0_ : Nat → Value) (x_p0_length : Int32) (x_p0_kind : Int32) (x_p0_place : Int32) (x_p0_value : Int32) (x_p0_name : Int64) (x_p0_number : Int32) (x_p0_faultKind : Int32) (x_p0_faultPlace : Int32) (x_p0_at : Int32) (x_p0_mostBytes : Int32) (f_p0_bytes : Nat → Int32) (f_p0_wordNames : Nat → Int64) (F_p1_ : Nat → Value) (x_p1_men : Int32) (x_p1_bends : Int32) (x_p1_runners : Int32) (f_p1_settings : Nat → Int32) (f_p1_manName : Nat → Int64) (f_p1_runnerName : Nat → Int64) (sz : Nat) (e_crew : Fh 0 = .ref h_crew) (e_yard : Fh 1 = .ref h_yard) (e_high : Fh 2 = .ref h_high) (e_crewed : Fh 3 = .int x_crewed) (i_x_crewed : IR 0 1 x_crewed) (e_lead : Fh 4 = .int x_lead) (e_runner : Fh 5 = .int x_runner) (e_number : Fh 6 = .int x_number) (e_linesTold : Fh 8 = .int x_linesTold) (e_jumpsTold : Fh 9 = .int x_jumpsTold) (e_heightsTold : Fh 10 = .int x_heightsTold) (s_crew_0 : SG 0 3 0 11 f_crew) (e_p0_bytes : F_p0_ 0 = .ref h_p0_bytes) (e_p0_length : F_p0_ 1 = .int x_p0_length) (i_x_p0_length : IR 0 940 x_p0_length) (e_p0_kind : F_p0_ 2 = .int x_p0_kind) (e_p0_place : F_p0_ 3 = .int x_p0_place) (e_p0_value : F_p0_ 4 = .int x_p0_value) (e_p0_name : F_p0_ 5 = .long x_p0_name) (e_p0_number : F_p0_ 6 = .int x_p0_number) (e_p0_faultKind : F_p0_ 7 = .int x_p0_faultKind) (e_p0_faultPlace : F_p0_ 8 = .int x_p0_faultPlace) (e_p0_wordNames : F_p0_ 9 = .ref h_p0_wordNames) (e_p0_at : F_p0_ 10 = .int x_p0_at) (i_x_p0_at : IR 0 940 x_p0_at) (e_p0_mostBytes : F_p0_ 11 = .int x_p0_mostBytes) (e_p1_settings : F_p1_ 1 = .ref h_p1_settings) (e_p1_manName : F_p1_ 2 = .ref h_p1_manName) (e_p1_runnerName : F_p1_ 10 = .ref h_p1_runnerName) (e_p1_men : F_p1_ 13 = .int x_p1_men) (i_x_p1_men : IR 0 12 x_p1_men) (e_p1_bends : F_p1_ 14 = .int x_p1_bends) (i_x_p1_bends : IR 0 12 x_p1_bends) (e_p1_runners : F_p1_ 15 = .int x_p1_runners) (i_x_p1_runners : IR 0 6 x_p1_runners) : CI l yX5_readLine cX5_readLine 4 (some .boolean) { frames := 4, cells := 0, slots := 0, locals := 89 } (GG D cI cJ cB cP cM cZ) D [(h0, .inr (5, vL 11 Fh)), (h_crew, .inl (cI, 4, .inl f_crew)), (h_yard, .inl (cI, 4, .inl f_yard)), (h_high, .inl (cI, 12, .inl f_high)), (p0, .inr (6, vL 12 F_p0_)), (h_p0_bytes, .inl (cB, 940, .inl f_p0_bytes)), (h_p0_wordNames, .inl (cJ, 23, .inr (.inl f_p0_wordNames))), (p1, .inr (1, vL 18 F_p1_)), (h_p1_settings, .inl (cI, 5, .inl f_p1_settings)), (h_p1_manName, .inl (cJ, 12, .inr (.inl f_p1_manName))), (h_p1_runnerName, .inl (cJ, 6, .inr (.inl f_p1_runnerName)))] sz [.ref h0, .ref p0, .ref p1] (fun (r : Int32) (u : va_W) => ∃ (Gh : Nat → Value) (y_crewed : Int32) (y_lead : Int32) (y_runner : Int32) (y_number : Int32) (y_linesTold : Int32) (y_jumpsTold : Int32) (y_heightsTold : Int32) (G_p0_ : Nat → Value) (y_p0_kind : Int32) (y_p0_place : Int32) (y_p0_value : Int32) (y_p0_name : Int64) (y_p0_number : Int32) (y_p0_faultKind : Int32) (y_p0_faultPlace : Int32) (y_p0_at : Int32) (g_crew : Nat → Int32) (g_yard : Nat → Int32) (g_high : Nat → Int32), SAME [3, 4, 5, 6, 8, 9, 10] Fh Gh ∧ Gh 3 = .int y_crewed ∧ IR 0 1 y_crewed ∧ Gh 4 = .int y_lead ∧ Gh 5 = .int y_runner ∧ Gh 6 = .int y_number ∧ Gh 8 = .int y_linesTold ∧ Gh 9 = .int y_jumpsTold ∧ Gh 10 = .int y_heightsTold ∧ SAME [2, 3, 4, 5, 6, 7, 8, 10] F_p0_ G_p0_ ∧ G_p0_ 2 = .int y_p0_kind ∧ G_p0_ 3 = .int y_p0_place ∧ G_p0_ 4 = .int y_p0_value ∧ G_p0_ 5 = .long y_p0_name ∧ G_p0_ 6 = .int y_p0_number ∧ G_p0_ 7 = .int y_p0_faultKind ∧ G_p0_ 8 = .int y_p0_faultPlace ∧ G_p0_ 10 = .int y_p0_at ∧ IR 0 940 y_p0_at ∧ SG 0 3 0 11 g_crew ∧ IR 0 1 r ∧ u = [(h0, .inr (5, vL 11 Gh)), (h_crew, .inl (cI, 4, .inl g_crew)), (h_yard, .inl (cI, 4, .inl g_yard)), (h_high, .inl (cI, 12, .inl g_high)), (p0, .inr (6, vL 12 G_p0_)), (h_p0_bytes, .inl (cB, 940, .inl f_p0_bytes)), (h_p0_wordNames, .inl (cJ, 23, .inr (.inl f_p0_wordNames))), (p1, .inr (1, vL 18 F_p1_)), (h_p1_settings, .inl (cI, 5, .inl f_p1_settings)), (h_p1_manName, .inl (cJ, 12, .inr (.inl f_p1_manName))), (h_p1_runnerName, .inl (cJ, 6, .inr (.inl f_p1_runnerName)))]) := by
  refine CI_mk (by decide) (Nat.le_of_ble_eq_true rfl) ?_
  intro p e s m below meth c A ls E hAe hG hsz hP hD hA hS hl
  obtain ⟨hx, hb, hr, hw, hown, hlocks, hml, hnm⟩ := E
  have hK := hG.1
  have i_x_crewed : 0 ≤ x_crewed.toInt ∧ x_crewed.toInt ≤ 1 := i_x_crewed
  have i_x_p0_length : 0 ≤ x_p0_length.toInt ∧ x_p0_length.toInt ≤ 940 := i_x_p0_length
  have i_x_p0_at : 0 ≤ x_p0_at.toInt ∧ x_p0_at.toInt ≤ 940 := i_x_p0_at
  have i_x_p1_men : 0 ≤ x_p1_men.toInt ∧ x_p1_men.toInt ≤ 12 := i_x_p1_men
  have i_x_p1_bends : 0 ≤ x_p1_bends.toInt ∧ x_p1_bends.toInt ≤ 12 := i_x_p1_bends
  have i_x_p1_runners : 0 ≤ x_p1_runners.toInt ∧ x_p1_runners.toInt ≤ 6 := i_x_p1_runners
  have hl : lv_has ls 4 [(0, .ref h0), (1, .ref p0), (2, .ref p1)] := hl
  refine lv_aload_n hx hb dX5_readLine_0 rfl (lv_at hl 1 rfl) ?_
  refine call_Vi (wr := [(h0, .inr (5, vL 11 Fh)), (h_crew, .inl (cI, 4, .inl f_crew)), (h_yard, .inl (cI, 4, .inl f_yard)), (h_high, .inl (cI, 12, .inl f_high)), (h_p0_bytes, .inl (cB, 940, .inl f_p0_bytes)), (h_p0_wordNames, .inl (cJ, 23, .inr (.inl f_p0_wordNames))), (p1, .inr (1, vL 18 F_p1_)), (h_p1_settings, .inl (cI, 5, .inl f_p1_settings)), (h_p1_manName, .inl (cJ, 12, .inr (.inl f_p1_manName))), (h_p1_runnerName, .inl (cJ, 6, .inr (.inl f_p1_runnerName)))]) (As := []) (rest := []) hx hb hml hown hw (m_X6_wordHere l D cI cJ cB cP cM cZ p0 F_p0_ x_p0_kind x_p0_value _ e_p0_kind e_p0_value) wV_X5_91_X6_wordHere dX5_readLine_1 hK hP hD hS hA [4] [0, 1, 2, 3, 5, 6, 7, 8, 9, 10] rfl rfl (by decide) (by decide) (by decide) 0 6 rfl rfl GG.fb hG.at hl.1 rfl (Nat.le_of_ble_eq_true rfl) ⟨(Nat.le_of_ble_eq_true rfl), (Nat.le_of_ble_eq_true rfl)⟩ ⟨(Nat.le_of_ble_eq_true rfl), (Nat.le_of_ble_eq_true rfl)⟩ (fun r1 u H locs hp hP hD hS => ?_)
  rcases hp with ⟨t2, rfl, rfl⟩ | ⟨t3, rfl, rfl⟩
  · have hP : va_P D vwCl [(h0, .inr (5, vL 11 Fh)), (h_crew, .inl (cI, 4, .inl f_crew)), (h_yard, .inl (cI, 4, .inl f_yard)), (h_high, .inl (cI, 12, .inl f_high)), (h_p0_bytes, .inl (cB, 940, .inl f_p0_bytes)), (h_p0_wordNames, .inl (cJ, 23, .inr (.inl f_p0_wordNames))), (p1, .inr (1, vL 18 F_p1_)), (h_p1_settings, .inl (cI, 5, .inl f_p1_settings)), (h_p1_manName, .inl (cJ, 12, .inr (.inl f_p1_manName))), (h_p1_runnerName, .inl (cJ, 6, .inr (.inl f_p1_runnerName))), (p0, .inr (6, vL 12 F_p0_))] H := hP
    have hD : va_D A [(h0, .inr (5, vL 11 Fh)), (h_crew, .inl (cI, 4, .inl f_crew)), (h_yard, .inl (cI, 4, .inl f_yard)), (h_high, .inl (cI, 12, .inl f_high)), (h_p0_bytes, .inl (cB, 940, .inl f_p0_bytes)), (h_p0_wordNames, .inl (cJ, 23, .inr (.inl f_p0_wordNames))), (p1, .inr (1, vL 18 F_p1_)), (h_p1_settings, .inl (cI, 5, .inl f_p1_settings)), (h_p1_manName, .inl (cJ, 12, .inr (.inl f_p1_manName))), (h_p1_runnerName, .inl (cJ, 6, .inr (.inl f_p1_runnerName))), (p0, .inr (6, vL 12 F_p0_))] := hD
    refine W.widen (k := 0) (n := 0) (Nat.le_of_ble_eq_true rfl) (Nat.le_of_ble_eq_true rfl) ?_
    refine lv_istore_n (lv' := [(3, .int (-1)), (0, .ref h0), (1, .ref p0), (2, .ref p1)]) hx hb dX5_readLine_4 rfl hl (by decide) rfl (fun ls hl => ?_)
    refine lv_iload_n hx hb dX5_readLine_5 rfl (lv_at hl 0 rfl) ?_
    refine lv_bipush (v := 8) hx hb dX5_readLine_6 (by decide) ?_
    refine lv_icmp_lt (tgt := 17) hx hb dX5_readLine_8 (by decide) (fun _ => ?_) (fun g => absurd (by decide) g)
    refine lv_aload_n hx hb dX5_readLine_17 rfl (lv_at hl 2 rfl) ?_
    refine lv_iconst (v := 1) hx hb dX5_readLine_18 (by decide) ?_
    refine call_Vi (wr := [(h0, .inr (5, vL 11 Fh)), (h_crew, .inl (cI, 4, .inl f_crew)), (h_yard, .inl (cI, 4, .inl f_yard)), (h_high, .inl (cI, 12, .inl f_high)), (h_p0_bytes, .inl (cB, 940, .inl f_p0_bytes)), (h_p0_wordNames, .inl (cJ, 23, .inr (.inl f_p0_wordNames))), (p1, .inr (1, vL 18 F_p1_)), (h_p1_settings, .inl (cI, 5, .inl f_p1_settings)), (h_p1_manName, .inl (cJ, 12, .inr (.inl f_p1_manName))), (h_p1_runnerName, .inl (cJ, 6, .inr (.inl f_p1_runnerName)))]) (As := [.int 1]) (rest := []) hx hb hml hown hw (m_X6_fail l D cI cJ cB cP cM cZ p0 F_p0_ x_p0_place 1 _ e_p0_place) wV_X5_95_X6_fail dX5_readLine_19 hK hP hD hS hA [10] [0, 1, 2, 3, 4, 5, 6, 7, 8, 9] rfl rfl (by decide) (by decide) (by decide) 0 6 rfl rfl GG.fb hG.at hl.1 rfl (Nat.le_of_ble_eq_true rfl) ⟨(Nat.le_of_ble_eq_true rfl), (Nat.le_of_ble_eq_true rfl)⟩ ⟨(Nat.le_of_ble_eq_true rfl), (Nat.le_of_ble_eq_true rfl)⟩ (fun r4 u H locs hp hP hD hS => ?_)
    obtain ⟨F5, t6, t7, t8, rfl, rfl⟩ := hp
    have hP : va_P D vwCl [(h0, .inr (5, vL 11 Fh)), (h_crew, .inl (cI, 4, .inl f_crew)), (h_yard, .inl (cI, 4, .inl f_yard)), (h_high, .inl (cI, 12, .inl f_high)), (h_p0_bytes, .inl (cB, 940, .inl f_p0_bytes)), (h_p0_wordNames, .inl (cJ, 23, .inr (.inl f_p0_wordNames))), (p1, .inr (1, vL 18 F_p1_)), (h_p1_settings, .inl (cI, 5, .inl f_p1_settings)), (h_p1_manName, .inl (cJ, 12, .inr (.inl f_p1_manName))), (h_p1_runnerName, .inl (cJ, 6, .inr (.inl f_p1_runnerName))), (p0, .inr (6, vL 12 F5))] H := hP
    have hD : va_D A [(h0, .inr (5, vL 11 Fh)), (h_crew, .inl (cI, 4, .inl f_crew)), (h_yard, .inl (cI, 4, .inl f_yard)), (h_high, .inl (cI, 12, .inl f_high)), (h_p0_bytes, .inl (cB, 940, .inl f_p0_bytes)), (h_p0_wordNames, .inl (cJ, 23, .inr (.inl f_p0_wordNames))), (p1, .inr (1, vL 18 F_p1_)), (h_p1_settings, .inl (cI, 5, .inl f_p1_settings)), (h_p1_manName, .inl (cJ, 12, .inr (.inl f_p1_manName))), (h_p1_runnerName, .inl (cJ, 6, .inr (.inl f_p1_runnerName))), (p0, .inr (6, vL 12 F5))] := hD
    refine W.widen (k := 0) (n := 0) (Nat.le_of_ble_eq_true rfl) (Nat.le_of_ble_eq_true rfl) ?_
    exact ret_i (v := 0) hx hb hr hlocks hS (hP.sub (ws' := [(h0, .inr (5, vL 11 Fh)), (h_crew, .inl (cI, 4, .inl f_crew)), (h_yard, .inl (cI, 4, .inl f_yard)), (h_high, .inl (cI, 12, .inl f_high)), (p0, .inr (6, vL 12 F5)), (h_p0_bytes, .inl (cB, 940, .inl f_p0_bytes)), (h_p0_wordNames, .inl (cJ, 23, .inr (.inl f_p0_wordNames))), (p1, .inr (1, vL 18 F_p1_)), (h_p1_settings, .inl (cI, 5, .inl f_p1_settings)), (h_p1_manName, .inl (cJ, 12, .inr (.inl f_p1_manName))), (h_p1_runnerName, .inl (cJ, 6, .inr (.inl f_p1_runnerName)))]) [0, 1, 2, 3, 10, 4, 5, 6, 7, 8, 9] rfl) (hD.sub (ws' := [(h0, .inr (5, vL 11 Fh)), (h_crew, .inl (cI, 4, .inl f_crew)), (h_yard, .inl (cI, 4, .inl f_yard)), (h_high, .inl (cI, 12, .inl f_high)), (p0, .inr (6, vL 12 F5)), (h_p0_bytes, .inl (cB, 940, .inl f_p0_bytes)), (h_p0_wordNames, .inl (cJ, 23, .inr (.inl f_p0_wordNames))), (p1, .inr (1, vL 18 F_p1_)), (h_p1_settings, .inl (cI, 5, .inl f_p1_settings)), (h_p1_manName, .inl (cJ, 12, .inr (.inl f_p1_manName))), (h_p1_runnerName, .inl (cJ, 6, .inr (.inl f_p1_runnerName)))]) [0, 1, 2, 3, 10, 4, 5, 6, 7, 8, 9] (by decide) rfl) dX5_readLine_22 rfl (Nat.le_of_ble_eq_true rfl) (Nat.le_of_ble_eq_true rfl) ⟨Fh, x_crewed, x_lead, x_runner, x_number, x_linesTold, x_jumpsTold, x_heightsTold, F5, x_p0_kind, x_p0_place, x_p0_value, x_p0_name, x_p0_number, 1, x_p0_place, x_p0_at, f_crew, f_yard, f_high, SAME.rf, e_crewed, i_x_crewed, e_lead, e_runner, e_number, e_linesTold, e_jumpsTold, e_heightsTold, (SAME.tr SAME.rf t6 (by decide)), (SAME.at t6 (by decide) e_p0_kind), (SAME.at t6 (by decide) e_p0_place), (SAME.at t6 (by decide) e_p0_value), (SAME.at t6 (by decide) e_p0_name), (SAME.at t6 (by decide) e_p0_number), t7, t8, (SAME.at t6 (by decide) e_p0_at), i_x_p0_at, s_crew_0, ⟨by decide, by decide⟩, rfl⟩
  · have hP : va_P D vwCl [(h0, .inr (5, vL 11 Fh)), (h_crew, .inl (cI, 4, .inl f_crew)), (h_yard, .inl (cI, 4, .inl f_yard)), (h_high, .inl (cI, 12, .inl f_high)), (h_p0_bytes, .inl (cB, 940, .inl f_p0_bytes)), (h_p0_wordNames, .inl (cJ, 23, .inr (.inl f_p0_wordNames))), (p1, .inr (1, vL 18 F_p1_)), (h_p1_settings, .inl (cI, 5, .inl f_p1_settings)), (h_p1_manName, .inl (cJ, 12, .inr (.inl f_p1_manName))), (h_p1_runnerName, .inl (cJ, 6, .inr (.inl f_p1_runnerName))), (p0, .inr (6, vL 12 F_p0_))] H := hP
    have hD : va_D A [(h0, .inr (5, vL 11 Fh)), (h_crew, .inl (cI, 4, .inl f_crew)), (h_yard, .inl (cI, 4, .inl f_yard)), (h_high, .inl (cI, 12, .inl f_high)), (h_p0_bytes, .inl (cB, 940, .inl f_p0_bytes)), (h_p0_wordNames, .inl (cJ, 23, .inr (.inl f_p0_wordNames))), (p1, .inr (1, vL 18 F_p1_)), (h_p1_settings, .inl (cI, 5, .inl f_p1_settings)), (h_p1_manName, .inl (cJ, 12, .inr (.inl f_p1_manName))), (h_p1_runnerName, .inl (cJ, 6, .inr (.inl f_p1_runnerName))), (p0, .inr (6, vL 12 F_p0_))] := hD
    refine W.widen (k := 0) (n := 0) (Nat.le_of_ble_eq_true rfl) (Nat.le_of_ble_eq_true rfl) ?_
    have k9 : 2 ≤ x_p0_kind.toInt ∧ x_p0_kind.toInt ≤ 2 := ⟨Int.le_trans (Int.le_refl _) (Int.le_of_eq t3.symm), Int.le_trans (Int.le_of_eq t3) (Int.le_refl _)⟩
    refine lv_istore_n (lv' := [(3, .int x_p0_value), (0, .ref h0), (1, .ref p0), (2, .ref p1)]) hx hb dX5_readLine_4 rfl hl (by decide) rfl (fun ls hl => ?_)
    refine lv_iload_n hx hb dX5_readLine_5 rfl (lv_at hl 0 rfl) ?_
    refine lv_bipush (v := 8) hx hb dX5_readLine_6 (by decide) ?_
    refine lv_icmp_lt (tgt := 17) hx hb dX5_readLine_8 (by decide) (fun c10 => ?_) (fun c10 => ?_)
    · have dc10 : x_p0_value.toInt < 8 := lt_i (a := x_p0_value.toInt) (b := 8) rfl rfl c10
      have k11 : (-2147483648) ≤ x_p0_value.toInt ∧ x_p0_value.toInt ≤ 7 := ⟨(ir_any _).1, up_lt dc10 (Int.le_refl _) (by decide)⟩
      refine lv_aload_n hx hb dX5_readLine_17 rfl (lv_at hl 2 rfl) ?_
      refine lv_iconst (v := 1) hx hb dX5_readLine_18 (by decide) ?_
      refine call_Vi (wr := [(h0, .inr (5, vL 11 Fh)), (h_crew, .inl (cI, 4, .inl f_crew)), (h_yard, .inl (cI, 4, .inl f_yard)), (h_high, .inl (cI, 12, .inl f_high)), (h_p0_bytes, .inl (cB, 940, .inl f_p0_bytes)), (h_p0_wordNames, .inl (cJ, 23, .inr (.inl f_p0_wordNames))), (p1, .inr (1, vL 18 F_p1_)), (h_p1_settings, .inl (cI, 5, .inl f_p1_settings)), (h_p1_manName, .inl (cJ, 12, .inr (.inl f_p1_manName))), (h_p1_runnerName, .inl (cJ, 6, .inr (.inl f_p1_runnerName)))]) (As := [.int 1]) (rest := []) hx hb hml hown hw (m_X6_fail l D cI cJ cB cP cM cZ p0 F_p0_ x_p0_place 1 _ e_p0_place) wV_X5_95_X6_fail dX5_readLine_19 hK hP hD hS hA [10] [0, 1, 2, 3, 4, 5, 6, 7, 8, 9] rfl rfl (by decide) (by decide) (by decide) 0 6 rfl rfl GG.fb hG.at hl.1 rfl (Nat.le_of_ble_eq_true rfl) ⟨(Nat.le_of_ble_eq_true rfl), (Nat.le_of_ble_eq_true rfl)⟩ ⟨(Nat.le_of_ble_eq_true rfl), (Nat.le_of_ble_eq_true rfl)⟩ (fun r12 u H locs hp hP hD hS => ?_)
      obtain ⟨F13, t14, t15, t16, rfl, rfl⟩ := hp
      have hP : va_P D vwCl [(h0, .inr (5, vL 11 Fh)), (h_crew, .inl (cI, 4, .inl f_crew)), (h_yard, .inl (cI, 4, .inl f_yard)), (h_high, .inl (cI, 12, .inl f_high)), (h_p0_bytes, .inl (cB, 940, .inl f_p0_bytes)), (h_p0_wordNames, .inl (cJ, 23, .inr (.inl f_p0_wordNames))), (p1, .inr (1, vL 18 F_p1_)), (h_p1_settings, .inl (cI, 5, .inl f_p1_settings)), (h_p1_manName, .inl (cJ, 12, .inr (.inl f_p1_manName))), (h_p1_runnerName, .inl (cJ, 6, .inr (.inl f_p1_runnerName))), (p0, .inr (6, vL 12 F13))] H := hP
      have hD : va_D A [(h0, .inr (5, vL 11 Fh)), (h_crew, .inl (cI, 4, .inl f_crew)), (h_yard, .inl (cI, 4, .inl f_yard)), (h_high, .inl (cI, 12, .inl f_high)), (h_p0_bytes, .inl (cB, 940, .inl f_p0_bytes)), (h_p0_wordNames, .inl (cJ, 23, .inr (.inl f_p0_wordNames))), (p1, .inr (1, vL 18 F_p1_)), (h_p1_settings, .inl (cI, 5, .inl f_p1_settings)), (h_p1_manName, .inl (cJ, 12, .inr (.inl f_p1_manName))), (h_p1_runnerName, .inl (cJ, 6, .inr (.inl f_p1_runnerName))), (p0, .inr (6, vL 12 F13))] := hD
      refine W.widen (k := 0) (n := 0) (Nat.le_of_ble_eq_true rfl) (Nat.le_of_ble_eq_true rfl) ?_
      exact ret_i (v := 0) hx hb hr hlocks hS (hP.sub (ws' := [(h0, .inr (5, vL 11 Fh)), (h_crew, .inl (cI, 4, .inl f_crew)), (h_yard, .inl (cI, 4, .inl f_yard)), (h_high, .inl (cI, 12, .inl f_high)), (p0, .inr (6, vL 12 F13)), (h_p0_bytes, .inl (cB, 940, .inl f_p0_bytes)), (h_p0_wordNames, .inl (cJ, 23, .inr (.inl f_p0_wordNames))), (p1, .inr (1, vL 18 F_p1_)), (h_p1_settings, .inl (cI, 5, .inl f_p1_settings)), (h_p1_manName, .inl (cJ, 12, .inr (.inl f_p1_manName))), (h_p1_runnerName, .inl (cJ, 6, .inr (.inl f_p1_runnerName)))]) [0, 1, 2, 3, 10, 4, 5, 6, 7, 8, 9] rfl) (hD.sub (ws' := [(h0, .inr (5, vL 11 Fh)), (h_crew, .inl (cI, 4, .inl f_crew)), (h_yard, .inl (cI, 4, .inl f_yard)), (h_high, .inl (cI, 12, .inl f_high)), (p0, .inr (6, vL 12 F13)), (h_p0_bytes, .inl (cB, 940, .inl f_p0_bytes)), (h_p0_wordNames, .inl (cJ, 23, .inr (.inl f_p0_wordNames))), (p1, .inr (1, vL 18 F_p1_)), (h_p1_settings, .inl (cI, 5, .inl f_p1_settings)), (h_p1_manName, .inl (cJ, 12, .inr (.inl f_p1_manName))), (h_p1_runnerName, .inl (cJ, 6, .inr (.inl f_p1_runnerName)))]) [0, 1, 2, 3, 10, 4, 5, 6, 7, 8, 9] (by decide) rfl) dX5_readLine_22 rfl (Nat.le_of_ble_eq_true rfl) (Nat.le_of_ble_eq_true rfl) ⟨Fh, x_crewed, x_lead, x_runner, x_number, x_linesTold, x_jumpsTold, x_heightsTold, F13, x_p0_kind, x_p0_place, x_p0_value, x_p0_name, x_p0_number, 1, x_p0_place, x_p0_at, f_crew, f_yard, f_high, SAME.rf, e_crewed, i_x_crewed, e_lead, e_runner, e_number, e_linesTold, e_jumpsTold, e_heightsTold, (SAME.tr SAME.rf t14 (by decide)), (SAME.at t14 (by decide) e_p0_kind), (SAME.at t14 (by decide) e_p0_place), (SAME.at t14 (by decide) e_p0_value), (SAME.at t14 (by decide) e_p0_name), (SAME.at t14 (by decide) e_p0_number), t15, t16, (SAME.at t14 (by decide) e_p0_at), i_x_p0_at, s_crew_0, ⟨by decide, by decide⟩, rfl⟩
    · have dc10 : 8 ≤ x_p0_value.toInt := nlt_i (a := x_p0_value.toInt) (b := 8) rfl rfl c10
      have k17 : 8 ≤ x_p0_value.toInt ∧ x_p0_value.toInt ≤ 2147483647 := ⟨Int.le_trans (Int.le_refl _) dc10, (ir_any _).2⟩
      refine lv_iload_n hx hb dX5_readLine_11 rfl (lv_at hl 0 rfl) ?_
      refine lv_bipush (v := 13) hx hb dX5_readLine_12 (by decide) ?_
      refine lv_icmp_le (tgt := 23) hx hb dX5_readLine_14 (by decide) (fun c18 => ?_) (fun c18 => ?_)
      · have dc18 : x_p0_value.toInt ≤ 13 := le_i (a := x_p0_value.toInt) (b := 13) rfl rfl c18
        have k19 : 8 ≤ x_p0_value.toInt ∧ x_p0_value.toInt ≤ 13 := ⟨k17.1, Int.le_trans dc18 (Int.le_refl _)⟩
        refine lv_aload_n hx hb dX5_readLine_23 rfl (lv_at hl 1 rfl) ?_
        refine get_f (D := D) (ci := 5) (v := .int x_linesTold) (C := RX5) (T := TX5) (N := 11) hx hb hw inAX5 hown hK hP 0 rfl rfl 8 (by decide) (hw _ q_172) (fun _ h9 => h9) e_linesTold dX5_readLine_24 ?_
        refine lv_iload_n hx hb dX5_readLine_27 rfl (lv_at hl 0 rfl) ?_
        refine lv_ishr hx hb dX5_readLine_28 ?_
        refine lv_topi (fun v20 ev20 => ?_)
        refine lv_iconst (v := 1) hx hb dX5_readLine_29 (by decide) ?_
        refine lv_iand hx hb dX5_readLine_30 ?_
        refine lv_topi (fun v21 ev21 => ?_)
        have k22 : 0 ≤ v21.toInt ∧ v21.toInt ≤ 1 := by rw [ev21]; exact and_i v20 1 (by decide)
        refine lv_if_eq (tgt := 40) hx hb dX5_readLine_31 (by decide) (fun c23 => ?_) (fun c23 => ?_)
        · have dc23 : v21.toInt = 0 := eq_i (a := v21.toInt) (b := 0) rfl rfl c23
          have k24 : 0 ≤ v21.toInt ∧ v21.toInt ≤ 0 := ⟨k22.1, Int.le_trans (Int.le_of_eq dc23) (Int.le_refl _)⟩
          refine lv_iload_n hx hb dX5_readLine_40 rfl (lv_at hl 0 rfl) ?_
          refine lv_bipush (v := 9) hx hb dX5_readLine_41 (by decide) ?_
          refine lv_icmp_eq (tgt := 64) hx hb dX5_readLine_43 (by decide) (fun c25 => ?_) (fun c25 => ?_)
          · have dc25 : x_p0_value.toInt = 9 := eq_i (a := x_p0_value.toInt) (b := 9) rfl rfl c25
            have k26 : 9 ≤ x_p0_value.toInt ∧ x_p0_value.toInt ≤ 9 := ⟨Int.le_trans (Int.le_refl _) (Int.le_of_eq dc25.symm), Int.le_trans (Int.le_of_eq dc25) (Int.le_refl _)⟩
            refine lv_aload_n hx hb dX5_readLine_64 rfl (lv_at hl 2 rfl) ?_
            refine call_Vv (wr := [(h0, .inr (5, vL 11 Fh)), (h_crew, .inl (cI, 4, .inl f_crew)), (h_yard, .inl (cI, 4, .inl f_yard)), (h_high, .inl (cI, 12, .inl f_high)), (p1, .inr (1, vL 18 F_p1_)), (h_p1_settings, .inl (cI, 5, .inl f_p1_settings)), (h_p1_manName, .inl (cJ, 12, .inr (.inl f_p1_manName))), (h_p1_runnerName, .inl (cJ, 6, .inr (.inl f_p1_runnerName)))]) (As := []) (rest := []) hx hb hml hown hw (m_X6_advance l D cI cJ cB cP cM cZ p0 h_p0_bytes h_p0_wordNames F_p0_ x_p0_length x_p0_value x_p0_name x_p0_at x_p0_mostBytes f_p0_bytes f_p0_wordNames _ e_p0_bytes e_p0_length i_x_p0_length e_p0_value e_p0_name e_p0_wordNames e_p0_at i_x_p0_at e_p0_mostBytes) wV_X5_98_X6_advance dX5_readLine_65 hK hP hD hS hA [10, 4, 5] [0, 1, 2, 3, 6, 7, 8, 9] rfl rfl (by decide) (by decide) (by decide) 0 6 rfl rfl GG.fb hG.at hl.1 rfl (Nat.le_of_ble_eq_true rfl) ⟨(Nat.le_of_ble_eq_true rfl), (Nat.le_of_ble_eq_true rfl)⟩ ⟨(Nat.le_of_ble_eq_true rfl), (Nat.le_of_ble_eq_true rfl)⟩ (fun u H locs hp hP hD hS => ?_)
            obtain ⟨F28, y29, y30, y31, y32, y33, t34, t35, t36, t37, t38, t39, t40, t41, rfl⟩ := hp
            have hP : va_P D vwCl [(h0, .inr (5, vL 11 Fh)), (h_crew, .inl (cI, 4, .inl f_crew)), (h_yard, .inl (cI, 4, .inl f_yard)), (h_high, .inl (cI, 12, .inl f_high)), (p1, .inr (1, vL 18 F_p1_)), (h_p1_settings, .inl (cI, 5, .inl f_p1_settings)), (h_p1_manName, .inl (cJ, 12, .inr (.inl f_p1_manName))), (h_p1_runnerName, .inl (cJ, 6, .inr (.inl f_p1_runnerName))), (p0, .inr (6, vL 12 F28)), (h_p0_bytes, .inl (cB, 940, .inl f_p0_bytes)), (h_p0_wordNames, .inl (cJ, 23, .inr (.inl f_p0_wordNames)))] H := hP
            have hD : va_D A [(h0, .inr (5, vL 11 Fh)), (h_crew, .inl (cI, 4, .inl f_crew)), (h_yard, .inl (cI, 4, .inl f_yard)), (h_high, .inl (cI, 12, .inl f_high)), (p1, .inr (1, vL 18 F_p1_)), (h_p1_settings, .inl (cI, 5, .inl f_p1_settings)), (h_p1_manName, .inl (cJ, 12, .inr (.inl f_p1_manName))), (h_p1_runnerName, .inl (cJ, 6, .inr (.inl f_p1_runnerName))), (p0, .inr (6, vL 12 F28)), (h_p0_bytes, .inl (cB, 940, .inl f_p0_bytes)), (h_p0_wordNames, .inl (cJ, 23, .inr (.inl f_p0_wordNames)))] := hD
            refine W.widen (k := 0) (n := 0) (Nat.le_of_ble_eq_true rfl) (Nat.le_of_ble_eq_true rfl) ?_
            refine lv_iload_n hx hb dX5_readLine_68 rfl (lv_at hl 0 rfl) ?_
            by_cases k42 : x_p0_value = 9
            · have dk42 : x_p0_value.toInt = 9 := eq_i rfl rfl k42
              refine lv_ci (y := 9) k42 ?_
              refine lv_tableIn (tgt := 111) (off := 42) hx hb dX5_readLine_69 (by decide) (by decide) (by decide) (by decide) ?_
              refine lv_aload_n hx hb dX5_readLine_111 rfl (lv_at hl 1 rfl) ?_
              refine lv_aload_n hx hb dX5_readLine_112 rfl (lv_at hl 2 rfl) ?_
              refine lv_aload_n hx hb dX5_readLine_113 rfl (lv_at hl 3 rfl) ?_
              have n43 : F28 0 = .ref h_p0_bytes := (SAME.at t34 (by decide) e_p0_bytes)
              have n44 : F28 1 = .int x_p0_length := (SAME.at t34 (by decide) e_p0_length)
              have n45 : F28 6 = .int x_p0_number := (SAME.at t34 (by decide) e_p0_number)
              have n46 : F28 7 = .int x_p0_faultKind := (SAME.at t34 (by decide) e_p0_faultKind)
              have n47 : F28 8 = .int x_p0_faultPlace := (SAME.at t34 (by decide) e_p0_faultPlace)
              have n48 : F28 9 = .ref h_p0_wordNames := (SAME.at t34 (by decide) e_p0_wordNames)
              have n49 : F28 11 = .int x_p0_mostBytes := (SAME.at t34 (by decide) e_p0_mostBytes)
              refine call_Vi (wr := [(h_high, .inl (cI, 12, .inl f_high)), (h_p1_runnerName, .inl (cJ, 6, .inr (.inl f_p1_runnerName)))]) (As := [.ref p0, .ref p1]) (rest := []) hx hb hml hown hw (m_X5_readJump l D cI cJ cB cP cM cZ h0 h_crew h_yard p0 h_p0_bytes h_p0_wordNames p1 h_p1_settings h_p1_manName Fh x_crewed x_jumpsTold f_crew f_yard F28 x_p0_length y29 y30 y31 y32 x_p0_number x_p0_faultKind x_p0_faultPlace y33 x_p0_mostBytes f_p0_bytes f_p0_wordNames F_p1_ x_p1_men f_p1_settings f_p1_manName _ e_crew e_yard e_crewed i_x_crewed e_jumpsTold s_crew_0 n43 n44 i_x_p0_length t35 t36 t38 t39 n45 n46 n47 n48 t40 t41 n49 e_p1_settings e_p1_manName e_p1_men i_x_p1_men) wV_X5_104_X5_readJump dX5_readLine_114 hK hP hD hS hA [0, 1, 2, 8, 9, 10, 4, 5, 6] [3, 7] rfl rfl (by decide) (by decide) (by decide) 0 5 rfl rfl GG.fb hG.at hl.1 rfl (Nat.le_of_ble_eq_true rfl) ⟨(Nat.le_of_ble_eq_true rfl), (Nat.le_of_ble_eq_true rfl)⟩ ⟨(Nat.le_of_ble_eq_true rfl), (Nat.le_of_ble_eq_true rfl)⟩ (fun r50 u H locs hp hP hD hS => ?_)
              obtain ⟨F51, y52, F53, y54, y55, y56, y57, y58, y59, y60, y61, g62, t63, t64, t65, t66, t67, t68, t69, t70, t71, t72, t73, t74, t75, rfl⟩ := hp
              have hP : va_P D vwCl [(h_high, .inl (cI, 12, .inl f_high)), (h_p1_runnerName, .inl (cJ, 6, .inr (.inl f_p1_runnerName))), (h0, .inr (5, vL 11 F51)), (h_crew, .inl (cI, 4, .inl f_crew)), (h_yard, .inl (cI, 4, .inl g62)), (p0, .inr (6, vL 12 F53)), (h_p0_bytes, .inl (cB, 940, .inl f_p0_bytes)), (h_p0_wordNames, .inl (cJ, 23, .inr (.inl f_p0_wordNames))), (p1, .inr (1, vL 18 F_p1_)), (h_p1_settings, .inl (cI, 5, .inl f_p1_settings)), (h_p1_manName, .inl (cJ, 12, .inr (.inl f_p1_manName)))] H := hP
              have hD : va_D A [(h_high, .inl (cI, 12, .inl f_high)), (h_p1_runnerName, .inl (cJ, 6, .inr (.inl f_p1_runnerName))), (h0, .inr (5, vL 11 F51)), (h_crew, .inl (cI, 4, .inl f_crew)), (h_yard, .inl (cI, 4, .inl g62)), (p0, .inr (6, vL 12 F53)), (h_p0_bytes, .inl (cB, 940, .inl f_p0_bytes)), (h_p0_wordNames, .inl (cJ, 23, .inr (.inl f_p0_wordNames))), (p1, .inr (1, vL 18 F_p1_)), (h_p1_settings, .inl (cI, 5, .inl f_p1_settings)), (h_p1_manName, .inl (cJ, 12, .inr (.inl f_p1_manName)))] := hD
              refine W.widen (k := 0) (n := 0) (Nat.le_of_ble_eq_true rfl) (Nat.le_of_ble_eq_true rfl) ?_
              exact ret_i (v := r50) hx hb hr hlocks hS (hP.sub (ws' := [(h0, .inr (5, vL 11 F51)), (h_crew, .inl (cI, 4, .inl f_crew)), (h_yard, .inl (cI, 4, .inl g62)), (h_high, .inl (cI, 12, .inl f_high)), (p0, .inr (6, vL 12 F53)), (h_p0_bytes, .inl (cB, 940, .inl f_p0_bytes)), (h_p0_wordNames, .inl (cJ, 23, .inr (.inl f_p0_wordNames))), (p1, .inr (1, vL 18 F_p1_)), (h_p1_settings, .inl (cI, 5, .inl f_p1_settings)), (h_p1_manName, .inl (cJ, 12, .inr (.inl f_p1_manName))), (h_p1_runnerName, .inl (cJ, 6, .inr (.inl f_p1_runnerName)))]) [2, 3, 4, 0, 5, 6, 7, 8, 9, 10, 1] rfl) (hD.sub (ws' := [(h0, .inr (5, vL 11 F51)), (h_crew, .inl (cI, 4, .inl f_crew)), (h_yard, .inl (cI, 4, .inl g62)), (h_high, .inl (cI, 12, .inl f_high)), (p0, .inr (6, vL 12 F53)), (h_p0_bytes, .inl (cB, 940, .inl f_p0_bytes)), (h_p0_wordNames, .inl (cJ, 23, .inr (.inl f_p0_wordNames))), (p1, .inr (1, vL 18 F_p1_)), (h_p1_settings, .inl (cI, 5, .inl f_p1_settings)), (h_p1_manName, .inl (cJ, 12, .inr (.inl f_p1_manName))), (h_p1_runnerName, .inl (cJ, 6, .inr (.inl f_p1_runnerName)))]) [2, 3, 4, 0, 5, 6, 7, 8, 9, 10, 1] (by decide) rfl) dX5_readLine_117 (nz_i t75.1 t75.2) (Nat.le_of_ble_eq_true rfl) (Nat.le_of_ble_eq_true rfl) ⟨F51, x_crewed, x_lead, x_runner, x_number, x_linesTold, y52, x_heightsTold, F53, y54, y55, y56, y57, y58, y59, y60, y61, f_crew, g62, f_high, (SAME.tr SAME.rf t63 (by decide)), (SAME.at t63 (by decide) e_crewed), i_x_crewed, (SAME.at t63 (by decide) e_lead), (SAME.at t63 (by decide) e_runner), (SAME.at t63 (by decide) e_number), (SAME.at t63 (by decide) e_linesTold), t64, (SAME.at t63 (by decide) e_heightsTold), (SAME.tr (SAME.tr SAME.rf t34 (by decide)) t65 (by decide)), t66, t67, t68, t69, t70, t71, t72, t73, t74, s_crew_0, t75, rfl⟩
            have dk42 : x_p0_value.toInt ≠ 9 := ne_i rfl rfl k42
            exact False.elim (bad_ne dk42 k26 ⟨Int.le_refl _, Int.le_refl _⟩ (by decide))
          · have dc25 : x_p0_value.toInt ≠ 9 := ne_i (a := x_p0_value.toInt) (b := 9) rfl rfl c25
            refine lv_iload_n hx hb dX5_readLine_46 rfl (lv_at hl 0 rfl) ?_
            refine lv_bipush (v := 11) hx hb dX5_readLine_47 (by decide) ?_
            refine lv_icmp_eq (tgt := 64) hx hb dX5_readLine_49 (by decide) (fun c76 => ?_) (fun c76 => ?_)
            · have dc76 : x_p0_value.toInt = 11 := eq_i (a := x_p0_value.toInt) (b := 11) rfl rfl c76
              have k77 : 11 ≤ x_p0_value.toInt ∧ x_p0_value.toInt ≤ 11 := ⟨Int.le_trans (Int.le_refl _) (Int.le_of_eq dc76.symm), Int.le_trans (Int.le_of_eq dc76) (Int.le_refl _)⟩
              refine lv_aload_n hx hb dX5_readLine_64 rfl (lv_at hl 2 rfl) ?_
              refine call_Vv (wr := [(h0, .inr (5, vL 11 Fh)), (h_crew, .inl (cI, 4, .inl f_crew)), (h_yard, .inl (cI, 4, .inl f_yard)), (h_high, .inl (cI, 12, .inl f_high)), (p1, .inr (1, vL 18 F_p1_)), (h_p1_settings, .inl (cI, 5, .inl f_p1_settings)), (h_p1_manName, .inl (cJ, 12, .inr (.inl f_p1_manName))), (h_p1_runnerName, .inl (cJ, 6, .inr (.inl f_p1_runnerName)))]) (As := []) (rest := []) hx hb hml hown hw (m_X6_advance l D cI cJ cB cP cM cZ p0 h_p0_bytes h_p0_wordNames F_p0_ x_p0_length x_p0_value x_p0_name x_p0_at x_p0_mostBytes f_p0_bytes f_p0_wordNames _ e_p0_bytes e_p0_length i_x_p0_length e_p0_value e_p0_name e_p0_wordNames e_p0_at i_x_p0_at e_p0_mostBytes) wV_X5_98_X6_advance dX5_readLine_65 hK hP hD hS hA [10, 4, 5] [0, 1, 2, 3, 6, 7, 8, 9] rfl rfl (by decide) (by decide) (by decide) 0 6 rfl rfl GG.fb hG.at hl.1 rfl (Nat.le_of_ble_eq_true rfl) ⟨(Nat.le_of_ble_eq_true rfl), (Nat.le_of_ble_eq_true rfl)⟩ ⟨(Nat.le_of_ble_eq_true rfl), (Nat.le_of_ble_eq_true rfl)⟩ (fun u H locs hp hP hD hS => ?_)
              obtain ⟨F79, y80, y81, y82, y83, y84, t85, t86, t87, t88, t89, t90, t91, t92, rfl⟩ := hp
              have hP : va_P D vwCl [(h0, .inr (5, vL 11 Fh)), (h_crew, .inl (cI, 4, .inl f_crew)), (h_yard, .inl (cI, 4, .inl f_yard)), (h_high, .inl (cI, 12, .inl f_high)), (p1, .inr (1, vL 18 F_p1_)), (h_p1_settings, .inl (cI, 5, .inl f_p1_settings)), (h_p1_manName, .inl (cJ, 12, .inr (.inl f_p1_manName))), (h_p1_runnerName, .inl (cJ, 6, .inr (.inl f_p1_runnerName))), (p0, .inr (6, vL 12 F79)), (h_p0_bytes, .inl (cB, 940, .inl f_p0_bytes)), (h_p0_wordNames, .inl (cJ, 23, .inr (.inl f_p0_wordNames)))] H := hP
              have hD : va_D A [(h0, .inr (5, vL 11 Fh)), (h_crew, .inl (cI, 4, .inl f_crew)), (h_yard, .inl (cI, 4, .inl f_yard)), (h_high, .inl (cI, 12, .inl f_high)), (p1, .inr (1, vL 18 F_p1_)), (h_p1_settings, .inl (cI, 5, .inl f_p1_settings)), (h_p1_manName, .inl (cJ, 12, .inr (.inl f_p1_manName))), (h_p1_runnerName, .inl (cJ, 6, .inr (.inl f_p1_runnerName))), (p0, .inr (6, vL 12 F79)), (h_p0_bytes, .inl (cB, 940, .inl f_p0_bytes)), (h_p0_wordNames, .inl (cJ, 23, .inr (.inl f_p0_wordNames)))] := hD
              refine W.widen (k := 0) (n := 0) (Nat.le_of_ble_eq_true rfl) (Nat.le_of_ble_eq_true rfl) ?_
              refine lv_iload_n hx hb dX5_readLine_68 rfl (lv_at hl 0 rfl) ?_
              by_cases k93 : x_p0_value = 11
              · have dk93 : x_p0_value.toInt = 11 := eq_i rfl rfl k93
                refine lv_ci (y := 11) k93 ?_
                refine lv_tableIn (tgt := 124) (off := 55) hx hb dX5_readLine_69 (by decide) (by decide) (by decide) (by decide) ?_
                refine lv_aload_n hx hb dX5_readLine_124 rfl (lv_at hl 1 rfl) ?_
                refine lv_aload_n hx hb dX5_readLine_125 rfl (lv_at hl 2 rfl) ?_
                refine lv_aload_n hx hb dX5_readLine_126 rfl (lv_at hl 3 rfl) ?_
                have n94 : F79 0 = .ref h_p0_bytes := (SAME.at t85 (by decide) e_p0_bytes)
                have n95 : F79 1 = .int x_p0_length := (SAME.at t85 (by decide) e_p0_length)
                have n96 : F79 6 = .int x_p0_number := (SAME.at t85 (by decide) e_p0_number)
                have n97 : F79 7 = .int x_p0_faultKind := (SAME.at t85 (by decide) e_p0_faultKind)
                have n98 : F79 8 = .int x_p0_faultPlace := (SAME.at t85 (by decide) e_p0_faultPlace)
                have n99 : F79 9 = .ref h_p0_wordNames := (SAME.at t85 (by decide) e_p0_wordNames)
                have n100 : F79 11 = .int x_p0_mostBytes := (SAME.at t85 (by decide) e_p0_mostBytes)
                refine call_Vi (wr := [(h_crew, .inl (cI, 4, .inl f_crew)), (h_yard, .inl (cI, 4, .inl f_yard)), (h_p1_settings, .inl (cI, 5, .inl f_p1_settings)), (h_p1_manName, .inl (cJ, 12, .inr (.inl f_p1_manName))), (h_p1_runnerName, .inl (cJ, 6, .inr (.inl f_p1_runnerName)))]) (As := [.ref p0, .ref p1]) (rest := []) hx hb hml hown hw (m_X5_readHigh l D cI cJ cB cP cM cZ h0 h_high p0 h_p0_bytes h_p0_wordNames p1 Fh x_heightsTold f_high F79 x_p0_length y80 y81 y82 y83 x_p0_number x_p0_faultKind x_p0_faultPlace y84 x_p0_mostBytes f_p0_bytes f_p0_wordNames F_p1_ x_p1_bends _ e_high e_heightsTold n94 n95 i_x_p0_length t86 t87 t89 t90 n96 n97 n98 n99 t91 t92 n100 e_p1_bends i_x_p1_bends) wV_X5_111_X5_readHigh dX5_readLine_127 hK hP hD hS hA [0, 3, 8, 9, 10, 4] [1, 2, 5, 6, 7] rfl rfl (by decide) (by decide) (by decide) 0 5 rfl rfl GG.fb hG.at hl.1 rfl (Nat.le_of_ble_eq_true rfl) ⟨(Nat.le_of_ble_eq_true rfl), (Nat.le_of_ble_eq_true rfl)⟩ ⟨(Nat.le_of_ble_eq_true rfl), (Nat.le_of_ble_eq_true rfl)⟩ (fun r101 u H locs hp hP hD hS => ?_)
                obtain ⟨F102, y103, F104, y105, y106, y107, y108, y109, y110, y111, y112, g113, t114, t115, t116, t117, t118, t119, t120, t121, t122, t123, t124, t125, t126, rfl⟩ := hp
                have hP : va_P D vwCl [(h_crew, .inl (cI, 4, .inl f_crew)), (h_yard, .inl (cI, 4, .inl f_yard)), (h_p1_settings, .inl (cI, 5, .inl f_p1_settings)), (h_p1_manName, .inl (cJ, 12, .inr (.inl f_p1_manName))), (h_p1_runnerName, .inl (cJ, 6, .inr (.inl f_p1_runnerName))), (h0, .inr (5, vL 11 F102)), (h_high, .inl (cI, 12, .inl g113)), (p0, .inr (6, vL 12 F104)), (h_p0_bytes, .inl (cB, 940, .inl f_p0_bytes)), (h_p0_wordNames, .inl (cJ, 23, .inr (.inl f_p0_wordNames))), (p1, .inr (1, vL 18 F_p1_))] H := hP
                have hD : va_D A [(h_crew, .inl (cI, 4, .inl f_crew)), (h_yard, .inl (cI, 4, .inl f_yard)), (h_p1_settings, .inl (cI, 5, .inl f_p1_settings)), (h_p1_manName, .inl (cJ, 12, .inr (.inl f_p1_manName))), (h_p1_runnerName, .inl (cJ, 6, .inr (.inl f_p1_runnerName))), (h0, .inr (5, vL 11 F102)), (h_high, .inl (cI, 12, .inl g113)), (p0, .inr (6, vL 12 F104)), (h_p0_bytes, .inl (cB, 940, .inl f_p0_bytes)), (h_p0_wordNames, .inl (cJ, 23, .inr (.inl f_p0_wordNames))), (p1, .inr (1, vL 18 F_p1_))] := hD
                refine W.widen (k := 0) (n := 0) (Nat.le_of_ble_eq_true rfl) (Nat.le_of_ble_eq_true rfl) ?_
                exact ret_i (v := r101) hx hb hr hlocks hS (hP.sub (ws' := [(h0, .inr (5, vL 11 F102)), (h_crew, .inl (cI, 4, .inl f_crew)), (h_yard, .inl (cI, 4, .inl f_yard)), (h_high, .inl (cI, 12, .inl g113)), (p0, .inr (6, vL 12 F104)), (h_p0_bytes, .inl (cB, 940, .inl f_p0_bytes)), (h_p0_wordNames, .inl (cJ, 23, .inr (.inl f_p0_wordNames))), (p1, .inr (1, vL 18 F_p1_)), (h_p1_settings, .inl (cI, 5, .inl f_p1_settings)), (h_p1_manName, .inl (cJ, 12, .inr (.inl f_p1_manName))), (h_p1_runnerName, .inl (cJ, 6, .inr (.inl f_p1_runnerName)))]) [5, 0, 1, 6, 7, 8, 9, 10, 2, 3, 4] rfl) (hD.sub (ws' := [(h0, .inr (5, vL 11 F102)), (h_crew, .inl (cI, 4, .inl f_crew)), (h_yard, .inl (cI, 4, .inl f_yard)), (h_high, .inl (cI, 12, .inl g113)), (p0, .inr (6, vL 12 F104)), (h_p0_bytes, .inl (cB, 940, .inl f_p0_bytes)), (h_p0_wordNames, .inl (cJ, 23, .inr (.inl f_p0_wordNames))), (p1, .inr (1, vL 18 F_p1_)), (h_p1_settings, .inl (cI, 5, .inl f_p1_settings)), (h_p1_manName, .inl (cJ, 12, .inr (.inl f_p1_manName))), (h_p1_runnerName, .inl (cJ, 6, .inr (.inl f_p1_runnerName)))]) [5, 0, 1, 6, 7, 8, 9, 10, 2, 3, 4] (by decide) rfl) dX5_readLine_130 (nz_i t126.1 t126.2) (Nat.le_of_ble_eq_true rfl) (Nat.le_of_ble_eq_true rfl) ⟨F102, x_crewed, x_lead, x_runner, x_number, x_linesTold, x_jumpsTold, y103, F104, y105, y106, y107, y108, y109, y110, y111, y112, f_crew, f_yard, g113, (SAME.tr SAME.rf t114 (by decide)), (SAME.at t114 (by decide) e_crewed), i_x_crewed, (SAME.at t114 (by decide) e_lead), (SAME.at t114 (by decide) e_runner), (SAME.at t114 (by decide) e_number), (SAME.at t114 (by decide) e_linesTold), (SAME.at t114 (by decide) e_jumpsTold), t115, (SAME.tr (SAME.tr SAME.rf t85 (by decide)) t116 (by decide)), t117, t118, t119, t120, t121, t122, t123, t124, t125, s_crew_0, t126, rfl⟩
              have dk93 : x_p0_value.toInt ≠ 11 := ne_i rfl rfl k93
              exact False.elim (bad_ne dk93 k77 ⟨Int.le_refl _, Int.le_refl _⟩ (by decide))
            · have dc76 : x_p0_value.toInt ≠ 11 := ne_i (a := x_p0_value.toInt) (b := 11) rfl rfl c76
              refine lv_aload_n hx hb dX5_readLine_52 rfl (lv_at hl 1 rfl) ?_
              refine lv_dup hx hb dX5_readLine_53 rfl ?_
              refine get_f (D := D) (ci := 5) (v := .int x_linesTold) (C := RX5) (T := TX5) (N := 11) hx hb hw inAX5 hown hK hP 0 rfl rfl 8 (by decide) (hw _ q_172) (fun _ h9 => h9) e_linesTold dX5_readLine_54 ?_
              refine lv_iconst (v := 1) hx hb dX5_readLine_57 (by decide) ?_
              refine lv_iload_n hx hb dX5_readLine_58 rfl (lv_at hl 0 rfl) ?_
              refine lv_ishl hx hb dX5_readLine_59 ?_
              refine lv_topi (fun v127 ev127 => ?_)
              refine lv_ior hx hb dX5_readLine_60 ?_
              refine lv_topi (fun v128 ev128 => ?_)
              refine put_f (D := D) (ci := 5) (v := .int v128) (ty := .int) (C := RX5) (T := TX5) (N := 11) hx hb hw inAX5 tyX5 tyX5_ok nmX5 hown hK hP hD hS 0 rfl rfl 8 (by decide) (hw _ q_172) (fun _ h9 => h9) rfl (by decide +kernel) rfl rfl dX5_readLine_61 (fun H locs F129 eF129 hP hD hS => ?_)
              have hP : va_P D vwCl [(h0, .inr (5, vL 11 F129)), (h_crew, .inl (cI, 4, .inl f_crew)), (h_yard, .inl (cI, 4, .inl f_yard)), (h_high, .inl (cI, 12, .inl f_high)), (h_p0_bytes, .inl (cB, 940, .inl f_p0_bytes)), (h_p0_wordNames, .inl (cJ, 23, .inr (.inl f_p0_wordNames))), (p1, .inr (1, vL 18 F_p1_)), (h_p1_settings, .inl (cI, 5, .inl f_p1_settings)), (h_p1_manName, .inl (cJ, 12, .inr (.inl f_p1_manName))), (h_p1_runnerName, .inl (cJ, 6, .inr (.inl f_p1_runnerName))), (p0, .inr (6, vL 12 F_p0_))] H := hP
              have hD : va_D A [(h0, .inr (5, vL 11 F129)), (h_crew, .inl (cI, 4, .inl f_crew)), (h_yard, .inl (cI, 4, .inl f_yard)), (h_high, .inl (cI, 12, .inl f_high)), (h_p0_bytes, .inl (cB, 940, .inl f_p0_bytes)), (h_p0_wordNames, .inl (cJ, 23, .inr (.inl f_p0_wordNames))), (p1, .inr (1, vL 18 F_p1_)), (h_p1_settings, .inl (cI, 5, .inl f_p1_settings)), (h_p1_manName, .inl (cJ, 12, .inr (.inl f_p1_manName))), (h_p1_runnerName, .inl (cJ, 6, .inr (.inl f_p1_runnerName))), (p0, .inr (6, vL 12 F_p0_))] := hD
              refine lv_aload_n hx hb dX5_readLine_64 rfl (lv_at hl 2 rfl) ?_
              refine call_Vv (wr := [(h0, .inr (5, vL 11 F129)), (h_crew, .inl (cI, 4, .inl f_crew)), (h_yard, .inl (cI, 4, .inl f_yard)), (h_high, .inl (cI, 12, .inl f_high)), (p1, .inr (1, vL 18 F_p1_)), (h_p1_settings, .inl (cI, 5, .inl f_p1_settings)), (h_p1_manName, .inl (cJ, 12, .inr (.inl f_p1_manName))), (h_p1_runnerName, .inl (cJ, 6, .inr (.inl f_p1_runnerName)))]) (As := []) (rest := []) hx hb hml hown hw (m_X6_advance l D cI cJ cB cP cM cZ p0 h_p0_bytes h_p0_wordNames F_p0_ x_p0_length x_p0_value x_p0_name x_p0_at x_p0_mostBytes f_p0_bytes f_p0_wordNames _ e_p0_bytes e_p0_length i_x_p0_length e_p0_value e_p0_name e_p0_wordNames e_p0_at i_x_p0_at e_p0_mostBytes) wV_X5_98_X6_advance dX5_readLine_65 hK hP hD hS hA [10, 4, 5] [0, 1, 2, 3, 6, 7, 8, 9] rfl rfl (by decide) (by decide) (by decide) 0 6 rfl rfl GG.fb hG.at hl.1 rfl (Nat.le_of_ble_eq_true rfl) ⟨(Nat.le_of_ble_eq_true rfl), (Nat.le_of_ble_eq_true rfl)⟩ ⟨(Nat.le_of_ble_eq_true rfl), (Nat.le_of_ble_eq_true rfl)⟩ (fun u H locs hp hP hD hS => ?_)
              obtain ⟨F131, y132, y133, y134, y135, y136, t137, t138, t139, t140, t141, t142, t143, t144, rfl⟩ := hp
              have hP : va_P D vwCl [(h0, .inr (5, vL 11 F129)), (h_crew, .inl (cI, 4, .inl f_crew)), (h_yard, .inl (cI, 4, .inl f_yard)), (h_high, .inl (cI, 12, .inl f_high)), (p1, .inr (1, vL 18 F_p1_)), (h_p1_settings, .inl (cI, 5, .inl f_p1_settings)), (h_p1_manName, .inl (cJ, 12, .inr (.inl f_p1_manName))), (h_p1_runnerName, .inl (cJ, 6, .inr (.inl f_p1_runnerName))), (p0, .inr (6, vL 12 F131)), (h_p0_bytes, .inl (cB, 940, .inl f_p0_bytes)), (h_p0_wordNames, .inl (cJ, 23, .inr (.inl f_p0_wordNames)))] H := hP
              have hD : va_D A [(h0, .inr (5, vL 11 F129)), (h_crew, .inl (cI, 4, .inl f_crew)), (h_yard, .inl (cI, 4, .inl f_yard)), (h_high, .inl (cI, 12, .inl f_high)), (p1, .inr (1, vL 18 F_p1_)), (h_p1_settings, .inl (cI, 5, .inl f_p1_settings)), (h_p1_manName, .inl (cJ, 12, .inr (.inl f_p1_manName))), (h_p1_runnerName, .inl (cJ, 6, .inr (.inl f_p1_runnerName))), (p0, .inr (6, vL 12 F131)), (h_p0_bytes, .inl (cB, 940, .inl f_p0_bytes)), (h_p0_wordNames, .inl (cJ, 23, .inr (.inl f_p0_wordNames)))] := hD
              refine W.widen (k := 0) (n := 0) (Nat.le_of_ble_eq_true rfl) (Nat.le_of_ble_eq_true rfl) ?_
              refine lv_iload_n hx hb dX5_readLine_68 rfl (lv_at hl 0 rfl) ?_
              by_cases k145 : x_p0_value = 8
              · have dk145 : x_p0_value.toInt = 8 := eq_i rfl rfl k145
                have k146 : 8 ≤ x_p0_value.toInt ∧ x_p0_value.toInt ≤ 8 := ⟨k19.1, Int.le_trans (Int.le_of_eq dk145) (Int.le_refl _)⟩
                refine lv_ci (y := 8) k145 ?_
                refine lv_tableIn (tgt := 104) (off := 35) hx hb dX5_readLine_69 (by decide) (by decide) (by decide) (by decide) ?_
                refine lv_aload_n hx hb dX5_readLine_104 rfl (lv_at hl 1 rfl) ?_
                refine lv_aload_n hx hb dX5_readLine_105 rfl (lv_at hl 2 rfl) ?_
                refine lv_aload_n hx hb dX5_readLine_106 rfl (lv_at hl 3 rfl) ?_
                have n147 : F129 0 = .ref h_crew := (get_ne eF129 (by decide) e_crew)
                have n148 : F129 3 = .int x_crewed := (get_ne eF129 (by decide) e_crewed)
                have n149 : F131 0 = .ref h_p0_bytes := (SAME.at t137 (by decide) e_p0_bytes)
                have n150 : F131 1 = .int x_p0_length := (SAME.at t137 (by decide) e_p0_length)
                have n151 : F131 7 = .int x_p0_faultKind := (SAME.at t137 (by decide) e_p0_faultKind)
                have n152 : F131 8 = .int x_p0_faultPlace := (SAME.at t137 (by decide) e_p0_faultPlace)
                have n153 : F131 9 = .ref h_p0_wordNames := (SAME.at t137 (by decide) e_p0_wordNames)
                have n154 : F131 11 = .int x_p0_mostBytes := (SAME.at t137 (by decide) e_p0_mostBytes)
                refine call_Vi (wr := [(h_yard, .inl (cI, 4, .inl f_yard)), (h_high, .inl (cI, 12, .inl f_high)), (h_p1_settings, .inl (cI, 5, .inl f_p1_settings)), (h_p1_runnerName, .inl (cJ, 6, .inr (.inl f_p1_runnerName)))]) (As := [.ref p0, .ref p1]) (rest := []) hx hb hml hown hw (m_X5_readCrew l D cI cJ cB cP cM cZ h0 h_crew p0 h_p0_bytes h_p0_wordNames p1 h_p1_manName F129 x_crewed f_crew F131 x_p0_length y132 y133 y134 y135 x_p0_faultKind x_p0_faultPlace y136 x_p0_mostBytes f_p0_bytes f_p0_wordNames F_p1_ x_p1_men f_p1_manName _ n147 n148 i_x_crewed s_crew_0 n149 n150 i_x_p0_length t138 t139 t141 t142 n151 n152 n153 t143 t144 n154 e_p1_manName e_p1_men i_x_p1_men) wV_X5_101_X5_readCrew dX5_readLine_107 hK hP hD hS hA [0, 1, 8, 9, 10, 4, 6] [2, 3, 5, 7] rfl rfl (by decide) (by decide) (by decide) 0 5 rfl rfl GG.fb hG.at hl.1 rfl (Nat.le_of_ble_eq_true rfl) ⟨(Nat.le_of_ble_eq_true rfl), (Nat.le_of_ble_eq_true rfl)⟩ ⟨(Nat.le_of_ble_eq_true rfl), (Nat.le_of_ble_eq_true rfl)⟩ (fun r155 u H locs hp hP hD hS => ?_)
                obtain ⟨F156, y157, F158, y159, y160, y161, y162, y163, y164, y165, g166, t167, t168, t169, t170, t171, t172, t173, t174, t175, t176, t177, t178, t179, t180, rfl⟩ := hp
                have hP : va_P D vwCl [(h_yard, .inl (cI, 4, .inl f_yard)), (h_high, .inl (cI, 12, .inl f_high)), (h_p1_settings, .inl (cI, 5, .inl f_p1_settings)), (h_p1_runnerName, .inl (cJ, 6, .inr (.inl f_p1_runnerName))), (h0, .inr (5, vL 11 F156)), (h_crew, .inl (cI, 4, .inl g166)), (p0, .inr (6, vL 12 F158)), (h_p0_bytes, .inl (cB, 940, .inl f_p0_bytes)), (h_p0_wordNames, .inl (cJ, 23, .inr (.inl f_p0_wordNames))), (p1, .inr (1, vL 18 F_p1_)), (h_p1_manName, .inl (cJ, 12, .inr (.inl f_p1_manName)))] H := hP
                have hD : va_D A [(h_yard, .inl (cI, 4, .inl f_yard)), (h_high, .inl (cI, 12, .inl f_high)), (h_p1_settings, .inl (cI, 5, .inl f_p1_settings)), (h_p1_runnerName, .inl (cJ, 6, .inr (.inl f_p1_runnerName))), (h0, .inr (5, vL 11 F156)), (h_crew, .inl (cI, 4, .inl g166)), (p0, .inr (6, vL 12 F158)), (h_p0_bytes, .inl (cB, 940, .inl f_p0_bytes)), (h_p0_wordNames, .inl (cJ, 23, .inr (.inl f_p0_wordNames))), (p1, .inr (1, vL 18 F_p1_)), (h_p1_manName, .inl (cJ, 12, .inr (.inl f_p1_manName)))] := hD
                refine W.widen (k := 0) (n := 0) (Nat.le_of_ble_eq_true rfl) (Nat.le_of_ble_eq_true rfl) ?_
                exact ret_i (v := r155) hx hb hr hlocks hS (hP.sub (ws' := [(h0, .inr (5, vL 11 F156)), (h_crew, .inl (cI, 4, .inl g166)), (h_yard, .inl (cI, 4, .inl f_yard)), (h_high, .inl (cI, 12, .inl f_high)), (p0, .inr (6, vL 12 F158)), (h_p0_bytes, .inl (cB, 940, .inl f_p0_bytes)), (h_p0_wordNames, .inl (cJ, 23, .inr (.inl f_p0_wordNames))), (p1, .inr (1, vL 18 F_p1_)), (h_p1_settings, .inl (cI, 5, .inl f_p1_settings)), (h_p1_manName, .inl (cJ, 12, .inr (.inl f_p1_manName))), (h_p1_runnerName, .inl (cJ, 6, .inr (.inl f_p1_runnerName)))]) [4, 5, 0, 1, 6, 7, 8, 9, 2, 10, 3] rfl) (hD.sub (ws' := [(h0, .inr (5, vL 11 F156)), (h_crew, .inl (cI, 4, .inl g166)), (h_yard, .inl (cI, 4, .inl f_yard)), (h_high, .inl (cI, 12, .inl f_high)), (p0, .inr (6, vL 12 F158)), (h_p0_bytes, .inl (cB, 940, .inl f_p0_bytes)), (h_p0_wordNames, .inl (cJ, 23, .inr (.inl f_p0_wordNames))), (p1, .inr (1, vL 18 F_p1_)), (h_p1_settings, .inl (cI, 5, .inl f_p1_settings)), (h_p1_manName, .inl (cJ, 12, .inr (.inl f_p1_manName))), (h_p1_runnerName, .inl (cJ, 6, .inr (.inl f_p1_runnerName)))]) [4, 5, 0, 1, 6, 7, 8, 9, 2, 10, 3] (by decide) rfl) dX5_readLine_110 (nz_i t180.1 t180.2) (Nat.le_of_ble_eq_true rfl) (Nat.le_of_ble_eq_true rfl) ⟨F156, y157, x_lead, x_runner, x_number, v128, x_jumpsTold, x_heightsTold, F158, y159, y160, y161, y162, x_p0_number, y163, y164, y165, g166, f_yard, f_high, (SAME.tr (SAME.up eF129 SAME.rf (by decide)) t167 (by decide)), t168, t169, (SAME.at t167 (by decide) (get_ne eF129 (by decide) e_lead)), (SAME.at t167 (by decide) (get_ne eF129 (by decide) e_runner)), (SAME.at t167 (by decide) (get_ne eF129 (by decide) e_number)), (SAME.at t167 (by decide) (get_eq eF129)), (SAME.at t167 (by decide) (get_ne eF129 (by decide) e_jumpsTold)), (SAME.at t167 (by decide) (get_ne eF129 (by decide) e_heightsTold)), (SAME.tr (SAME.tr SAME.rf t137 (by decide)) t170 (by decide)), t171, t172, t173, t174, (SAME.at t170 (by decide) (SAME.at t137 (by decide) e_p0_number)), t175, t176, t177, t178, t179, t180, rfl⟩
              by_cases k181 : x_p0_value = 9
              · have dk181 : x_p0_value.toInt = 9 := eq_i rfl rfl k181
                have k182 : 9 ≤ x_p0_value.toInt ∧ x_p0_value.toInt ≤ 9 := ⟨Int.le_trans (Int.le_refl _) (Int.le_of_eq dk181.symm), Int.le_trans (Int.le_of_eq dk181) (Int.le_refl _)⟩
                refine lv_ci (y := 9) k181 ?_
                refine lv_tableIn (tgt := 111) (off := 42) hx hb dX5_readLine_69 (by decide) (by decide) (by decide) (by decide) ?_
                refine lv_aload_n hx hb dX5_readLine_111 rfl (lv_at hl 1 rfl) ?_
                refine lv_aload_n hx hb dX5_readLine_112 rfl (lv_at hl 2 rfl) ?_
                refine lv_aload_n hx hb dX5_readLine_113 rfl (lv_at hl 3 rfl) ?_
                have n183 : F129 0 = .ref h_crew := (get_ne eF129 (by decide) e_crew)
                have n184 : F129 1 = .ref h_yard := (get_ne eF129 (by decide) e_yard)
                have n185 : F129 3 = .int x_crewed := (get_ne eF129 (by decide) e_crewed)
                have n186 : F129 9 = .int x_jumpsTold := (get_ne eF129 (by decide) e_jumpsTold)
                have n187 : F131 0 = .ref h_p0_bytes := (SAME.at t137 (by decide) e_p0_bytes)
                have n188 : F131 1 = .int x_p0_length := (SAME.at t137 (by decide) e_p0_length)
                have n189 : F131 6 = .int x_p0_number := (SAME.at t137 (by decide) e_p0_number)
                have n190 : F131 7 = .int x_p0_faultKind := (SAME.at t137 (by decide) e_p0_faultKind)
                have n191 : F131 8 = .int x_p0_faultPlace := (SAME.at t137 (by decide) e_p0_faultPlace)
                have n192 : F131 9 = .ref h_p0_wordNames := (SAME.at t137 (by decide) e_p0_wordNames)
                have n193 : F131 11 = .int x_p0_mostBytes := (SAME.at t137 (by decide) e_p0_mostBytes)
                refine call_Vi (wr := [(h_high, .inl (cI, 12, .inl f_high)), (h_p1_runnerName, .inl (cJ, 6, .inr (.inl f_p1_runnerName)))]) (As := [.ref p0, .ref p1]) (rest := []) hx hb hml hown hw (m_X5_readJump l D cI cJ cB cP cM cZ h0 h_crew h_yard p0 h_p0_bytes h_p0_wordNames p1 h_p1_settings h_p1_manName F129 x_crewed x_jumpsTold f_crew f_yard F131 x_p0_length y132 y133 y134 y135 x_p0_number x_p0_faultKind x_p0_faultPlace y136 x_p0_mostBytes f_p0_bytes f_p0_wordNames F_p1_ x_p1_men f_p1_settings f_p1_manName _ n183 n184 n185 i_x_crewed n186 s_crew_0 n187 n188 i_x_p0_length t138 t139 t141 t142 n189 n190 n191 n192 t143 t144 n193 e_p1_settings e_p1_manName e_p1_men i_x_p1_men) wV_X5_104_X5_readJump dX5_readLine_114 hK hP hD hS hA [0, 1, 2, 8, 9, 10, 4, 5, 6] [3, 7] rfl rfl (by decide) (by decide) (by decide) 0 5 rfl rfl GG.fb hG.at hl.1 rfl (Nat.le_of_ble_eq_true rfl) ⟨(Nat.le_of_ble_eq_true rfl), (Nat.le_of_ble_eq_true rfl)⟩ ⟨(Nat.le_of_ble_eq_true rfl), (Nat.le_of_ble_eq_true rfl)⟩ (fun r194 u H locs hp hP hD hS => ?_)
                obtain ⟨F195, y196, F197, y198, y199, y200, y201, y202, y203, y204, y205, g206, t207, t208, t209, t210, t211, t212, t213, t214, t215, t216, t217, t218, t219, rfl⟩ := hp
                have hP : va_P D vwCl [(h_high, .inl (cI, 12, .inl f_high)), (h_p1_runnerName, .inl (cJ, 6, .inr (.inl f_p1_runnerName))), (h0, .inr (5, vL 11 F195)), (h_crew, .inl (cI, 4, .inl f_crew)), (h_yard, .inl (cI, 4, .inl g206)), (p0, .inr (6, vL 12 F197)), (h_p0_bytes, .inl (cB, 940, .inl f_p0_bytes)), (h_p0_wordNames, .inl (cJ, 23, .inr (.inl f_p0_wordNames))), (p1, .inr (1, vL 18 F_p1_)), (h_p1_settings, .inl (cI, 5, .inl f_p1_settings)), (h_p1_manName, .inl (cJ, 12, .inr (.inl f_p1_manName)))] H := hP
                have hD : va_D A [(h_high, .inl (cI, 12, .inl f_high)), (h_p1_runnerName, .inl (cJ, 6, .inr (.inl f_p1_runnerName))), (h0, .inr (5, vL 11 F195)), (h_crew, .inl (cI, 4, .inl f_crew)), (h_yard, .inl (cI, 4, .inl g206)), (p0, .inr (6, vL 12 F197)), (h_p0_bytes, .inl (cB, 940, .inl f_p0_bytes)), (h_p0_wordNames, .inl (cJ, 23, .inr (.inl f_p0_wordNames))), (p1, .inr (1, vL 18 F_p1_)), (h_p1_settings, .inl (cI, 5, .inl f_p1_settings)), (h_p1_manName, .inl (cJ, 12, .inr (.inl f_p1_manName)))] := hD
                refine W.widen (k := 0) (n := 0) (Nat.le_of_ble_eq_true rfl) (Nat.le_of_ble_eq_true rfl) ?_
                exact ret_i (v := r194) hx hb hr hlocks hS (hP.sub (ws' := [(h0, .inr (5, vL 11 F195)), (h_crew, .inl (cI, 4, .inl f_crew)), (h_yard, .inl (cI, 4, .inl g206)), (h_high, .inl (cI, 12, .inl f_high)), (p0, .inr (6, vL 12 F197)), (h_p0_bytes, .inl (cB, 940, .inl f_p0_bytes)), (h_p0_wordNames, .inl (cJ, 23, .inr (.inl f_p0_wordNames))), (p1, .inr (1, vL 18 F_p1_)), (h_p1_settings, .inl (cI, 5, .inl f_p1_settings)), (h_p1_manName, .inl (cJ, 12, .inr (.inl f_p1_manName))), (h_p1_runnerName, .inl (cJ, 6, .inr (.inl f_p1_runnerName)))]) [2, 3, 4, 0, 5, 6, 7, 8, 9, 10, 1] rfl) (hD.sub (ws' := [(h0, .inr (5, vL 11 F195)), (h_crew, .inl (cI, 4, .inl f_crew)), (h_yard, .inl (cI, 4, .inl g206)), (h_high, .inl (cI, 12, .inl f_high)), (p0, .inr (6, vL 12 F197)), (h_p0_bytes, .inl (cB, 940, .inl f_p0_bytes)), (h_p0_wordNames, .inl (cJ, 23, .inr (.inl f_p0_wordNames))), (p1, .inr (1, vL 18 F_p1_)), (h_p1_settings, .inl (cI, 5, .inl f_p1_settings)), (h_p1_manName, .inl (cJ, 12, .inr (.inl f_p1_manName))), (h_p1_runnerName, .inl (cJ, 6, .inr (.inl f_p1_runnerName)))]) [2, 3, 4, 0, 5, 6, 7, 8, 9, 10, 1] (by decide) rfl) dX5_readLine_117 (nz_i t219.1 t219.2) (Nat.le_of_ble_eq_true rfl) (Nat.le_of_ble_eq_true rfl) ⟨F195, x_crewed, x_lead, x_runner, x_number, v128, y196, x_heightsTold, F197, y198, y199, y200, y201, y202, y203, y204, y205, f_crew, g206, f_high, (SAME.tr (SAME.up eF129 SAME.rf (by decide)) t207 (by decide)), (SAME.at t207 (by decide) n185), i_x_crewed, (SAME.at t207 (by decide) (get_ne eF129 (by decide) e_lead)), (SAME.at t207 (by decide) (get_ne eF129 (by decide) e_runner)), (SAME.at t207 (by decide) (get_ne eF129 (by decide) e_number)), (SAME.at t207 (by decide) (get_eq eF129)), t208, (SAME.at t207 (by decide) (get_ne eF129 (by decide) e_heightsTold)), (SAME.tr (SAME.tr SAME.rf t137 (by decide)) t209 (by decide)), t210, t211, t212, t213, t214, t215, t216, t217, t218, s_crew_0, t219, rfl⟩
              by_cases k220 : x_p0_value = 10
              · have dk220 : x_p0_value.toInt = 10 := eq_i rfl rfl k220
                have k221 : 10 ≤ x_p0_value.toInt ∧ x_p0_value.toInt ≤ 10 := ⟨Int.le_trans (Int.le_refl _) (Int.le_of_eq dk220.symm), Int.le_trans (Int.le_of_eq dk220) (Int.le_refl _)⟩
                refine lv_ci (y := 10) k220 ?_
                refine lv_tableIn (tgt := 118) (off := 49) hx hb dX5_readLine_69 (by decide) (by decide) (by decide) (by decide) ?_
                refine lv_aload_n hx hb dX5_readLine_118 rfl (lv_at hl 1 rfl) ?_
                refine lv_aload_n hx hb dX5_readLine_119 rfl (lv_at hl 2 rfl) ?_
                have n222 : F129 4 = .int x_lead := (get_ne eF129 (by decide) e_lead)
                have n223 : F131 0 = .ref h_p0_bytes := (SAME.at t137 (by decide) e_p0_bytes)
                have n224 : F131 1 = .int x_p0_length := (SAME.at t137 (by decide) e_p0_length)
                have n225 : F131 6 = .int x_p0_number := (SAME.at t137 (by decide) e_p0_number)
                have n226 : F131 7 = .int x_p0_faultKind := (SAME.at t137 (by decide) e_p0_faultKind)
                have n227 : F131 8 = .int x_p0_faultPlace := (SAME.at t137 (by decide) e_p0_faultPlace)
                have n228 : F131 9 = .ref h_p0_wordNames := (SAME.at t137 (by decide) e_p0_wordNames)
                have n229 : F131 11 = .int x_p0_mostBytes := (SAME.at t137 (by decide) e_p0_mostBytes)
                refine call_Vi (wr := [(h_crew, .inl (cI, 4, .inl f_crew)), (h_yard, .inl (cI, 4, .inl f_yard)), (h_high, .inl (cI, 12, .inl f_high)), (p1, .inr (1, vL 18 F_p1_)), (h_p1_settings, .inl (cI, 5, .inl f_p1_settings)), (h_p1_manName, .inl (cJ, 12, .inr (.inl f_p1_manName))), (h_p1_runnerName, .inl (cJ, 6, .inr (.inl f_p1_runnerName)))]) (As := [.ref p0]) (rest := []) hx hb hml hown hw (m_X5_readLead l D cI cJ cB cP cM cZ h0 p0 h_p0_bytes h_p0_wordNames F129 x_lead F131 x_p0_length y132 y133 y134 y135 x_p0_number x_p0_faultKind x_p0_faultPlace y136 x_p0_mostBytes f_p0_bytes f_p0_wordNames _ n222 n223 n224 i_x_p0_length t138 t139 t141 t142 n225 n226 n227 n228 t143 t144 n229) wV_X5_107_X5_readLead dX5_readLine_120 hK hP hD hS hA [0, 8, 9, 10] [1, 2, 3, 4, 5, 6, 7] rfl rfl (by decide) (by decide) (by decide) 0 5 rfl rfl GG.fb hG.at hl.1 rfl (Nat.le_of_ble_eq_true rfl) ⟨(Nat.le_of_ble_eq_true rfl), (Nat.le_of_ble_eq_true rfl)⟩ ⟨(Nat.le_of_ble_eq_true rfl), (Nat.le_of_ble_eq_true rfl)⟩ (fun r230 u H locs hp hP hD hS => ?_)
                obtain ⟨F231, y232, F233, y234, y235, y236, y237, y238, y239, y240, y241, t242, t243, t244, t245, t246, t247, t248, t249, t250, t251, t252, t253, t254, rfl⟩ := hp
                have hP : va_P D vwCl [(h_crew, .inl (cI, 4, .inl f_crew)), (h_yard, .inl (cI, 4, .inl f_yard)), (h_high, .inl (cI, 12, .inl f_high)), (p1, .inr (1, vL 18 F_p1_)), (h_p1_settings, .inl (cI, 5, .inl f_p1_settings)), (h_p1_manName, .inl (cJ, 12, .inr (.inl f_p1_manName))), (h_p1_runnerName, .inl (cJ, 6, .inr (.inl f_p1_runnerName))), (h0, .inr (5, vL 11 F231)), (p0, .inr (6, vL 12 F233)), (h_p0_bytes, .inl (cB, 940, .inl f_p0_bytes)), (h_p0_wordNames, .inl (cJ, 23, .inr (.inl f_p0_wordNames)))] H := hP
                have hD : va_D A [(h_crew, .inl (cI, 4, .inl f_crew)), (h_yard, .inl (cI, 4, .inl f_yard)), (h_high, .inl (cI, 12, .inl f_high)), (p1, .inr (1, vL 18 F_p1_)), (h_p1_settings, .inl (cI, 5, .inl f_p1_settings)), (h_p1_manName, .inl (cJ, 12, .inr (.inl f_p1_manName))), (h_p1_runnerName, .inl (cJ, 6, .inr (.inl f_p1_runnerName))), (h0, .inr (5, vL 11 F231)), (p0, .inr (6, vL 12 F233)), (h_p0_bytes, .inl (cB, 940, .inl f_p0_bytes)), (h_p0_wordNames, .inl (cJ, 23, .inr (.inl f_p0_wordNames)))] := hD
                refine W.widen (k := 0) (n := 0) (Nat.le_of_ble_eq_true rfl) (Nat.le_of_ble_eq_true rfl) ?_
                exact ret_i (v := r230) hx hb hr hlocks hS (hP.sub (ws' := [(h0, .inr (5, vL 11 F231)), (h_crew, .inl (cI, 4, .inl f_crew)), (h_yard, .inl (cI, 4, .inl f_yard)), (h_high, .inl (cI, 12, .inl f_high)), (p0, .inr (6, vL 12 F233)), (h_p0_bytes, .inl (cB, 940, .inl f_p0_bytes)), (h_p0_wordNames, .inl (cJ, 23, .inr (.inl f_p0_wordNames))), (p1, .inr (1, vL 18 F_p1_)), (h_p1_settings, .inl (cI, 5, .inl f_p1_settings)), (h_p1_manName, .inl (cJ, 12, .inr (.inl f_p1_manName))), (h_p1_runnerName, .inl (cJ, 6, .inr (.inl f_p1_runnerName)))]) [7, 0, 1, 2, 8, 9, 10, 3, 4, 5, 6] rfl) (hD.sub (ws' := [(h0, .inr (5, vL 11 F231)), (h_crew, .inl (cI, 4, .inl f_crew)), (h_yard, .inl (cI, 4, .inl f_yard)), (h_high, .inl (cI, 12, .inl f_high)), (p0, .inr (6, vL 12 F233)), (h_p0_bytes, .inl (cB, 940, .inl f_p0_bytes)), (h_p0_wordNames, .inl (cJ, 23, .inr (.inl f_p0_wordNames))), (p1, .inr (1, vL 18 F_p1_)), (h_p1_settings, .inl (cI, 5, .inl f_p1_settings)), (h_p1_manName, .inl (cJ, 12, .inr (.inl f_p1_manName))), (h_p1_runnerName, .inl (cJ, 6, .inr (.inl f_p1_runnerName)))]) [7, 0, 1, 2, 8, 9, 10, 3, 4, 5, 6] (by decide) rfl) dX5_readLine_123 (nz_i t254.1 t254.2) (Nat.le_of_ble_eq_true rfl) (Nat.le_of_ble_eq_true rfl) ⟨F231, x_crewed, y232, x_runner, x_number, v128, x_jumpsTold, x_heightsTold, F233, y234, y235, y236, y237, y238, y239, y240, y241, f_crew, f_yard, f_high, (SAME.tr (SAME.up eF129 SAME.rf (by decide)) t242 (by decide)), (SAME.at t242 (by decide) (get_ne eF129 (by decide) e_crewed)), i_x_crewed, t243, (SAME.at t242 (by decide) (get_ne eF129 (by decide) e_runner)), (SAME.at t242 (by decide) (get_ne eF129 (by decide) e_number)), (SAME.at t242 (by decide) (get_eq eF129)), (SAME.at t242 (by decide) (get_ne eF129 (by decide) e_jumpsTold)), (SAME.at t242 (by decide) (get_ne eF129 (by decide) e_heightsTold)), (SAME.tr (SAME.tr SAME.rf t137 (by decide)) t244 (by decide)), t245, t246, t247, t248, t249, t250, t251, t252, t253, s_crew_0, t254, rfl⟩
              by_cases k255 : x_p0_value = 11
              · have dk255 : x_p0_value.toInt = 11 := eq_i rfl rfl k255
                have k256 : 11 ≤ x_p0_value.toInt ∧ x_p0_value.toInt ≤ 11 := ⟨Int.le_trans (Int.le_refl _) (Int.le_of_eq dk255.symm), Int.le_trans (Int.le_of_eq dk255) (Int.le_refl _)⟩
                refine lv_ci (y := 11) k255 ?_
                refine lv_tableIn (tgt := 124) (off := 55) hx hb dX5_readLine_69 (by decide) (by decide) (by decide) (by decide) ?_
                refine lv_aload_n hx hb dX5_readLine_124 rfl (lv_at hl 1 rfl) ?_
                refine lv_aload_n hx hb dX5_readLine_125 rfl (lv_at hl 2 rfl) ?_
                refine lv_aload_n hx hb dX5_readLine_126 rfl (lv_at hl 3 rfl) ?_
                have n257 : F129 2 = .ref h_high := (get_ne eF129 (by decide) e_high)
                have n258 : F129 10 = .int x_heightsTold := (get_ne eF129 (by decide) e_heightsTold)
                have n259 : F131 0 = .ref h_p0_bytes := (SAME.at t137 (by decide) e_p0_bytes)
                have n260 : F131 1 = .int x_p0_length := (SAME.at t137 (by decide) e_p0_length)
                have n261 : F131 6 = .int x_p0_number := (SAME.at t137 (by decide) e_p0_number)
                have n262 : F131 7 = .int x_p0_faultKind := (SAME.at t137 (by decide) e_p0_faultKind)
                have n263 : F131 8 = .int x_p0_faultPlace := (SAME.at t137 (by decide) e_p0_faultPlace)
                have n264 : F131 9 = .ref h_p0_wordNames := (SAME.at t137 (by decide) e_p0_wordNames)
                have n265 : F131 11 = .int x_p0_mostBytes := (SAME.at t137 (by decide) e_p0_mostBytes)
                refine call_Vi (wr := [(h_crew, .inl (cI, 4, .inl f_crew)), (h_yard, .inl (cI, 4, .inl f_yard)), (h_p1_settings, .inl (cI, 5, .inl f_p1_settings)), (h_p1_manName, .inl (cJ, 12, .inr (.inl f_p1_manName))), (h_p1_runnerName, .inl (cJ, 6, .inr (.inl f_p1_runnerName)))]) (As := [.ref p0, .ref p1]) (rest := []) hx hb hml hown hw (m_X5_readHigh l D cI cJ cB cP cM cZ h0 h_high p0 h_p0_bytes h_p0_wordNames p1 F129 x_heightsTold f_high F131 x_p0_length y132 y133 y134 y135 x_p0_number x_p0_faultKind x_p0_faultPlace y136 x_p0_mostBytes f_p0_bytes f_p0_wordNames F_p1_ x_p1_bends _ n257 n258 n259 n260 i_x_p0_length t138 t139 t141 t142 n261 n262 n263 n264 t143 t144 n265 e_p1_bends i_x_p1_bends) wV_X5_111_X5_readHigh dX5_readLine_127 hK hP hD hS hA [0, 3, 8, 9, 10, 4] [1, 2, 5, 6, 7] rfl rfl (by decide) (by decide) (by decide) 0 5 rfl rfl GG.fb hG.at hl.1 rfl (Nat.le_of_ble_eq_true rfl) ⟨(Nat.le_of_ble_eq_true rfl), (Nat.le_of_ble_eq_true rfl)⟩ ⟨(Nat.le_of_ble_eq_true rfl), (Nat.le_of_ble_eq_true rfl)⟩ (fun r266 u H locs hp hP hD hS => ?_)
                obtain ⟨F267, y268, F269, y270, y271, y272, y273, y274, y275, y276, y277, g278, t279, t280, t281, t282, t283, t284, t285, t286, t287, t288, t289, t290, t291, rfl⟩ := hp
                have hP : va_P D vwCl [(h_crew, .inl (cI, 4, .inl f_crew)), (h_yard, .inl (cI, 4, .inl f_yard)), (h_p1_settings, .inl (cI, 5, .inl f_p1_settings)), (h_p1_manName, .inl (cJ, 12, .inr (.inl f_p1_manName))), (h_p1_runnerName, .inl (cJ, 6, .inr (.inl f_p1_runnerName))), (h0, .inr (5, vL 11 F267)), (h_high, .inl (cI, 12, .inl g278)), (p0, .inr (6, vL 12 F269)), (h_p0_bytes, .inl (cB, 940, .inl f_p0_bytes)), (h_p0_wordNames, .inl (cJ, 23, .inr (.inl f_p0_wordNames))), (p1, .inr (1, vL 18 F_p1_))] H := hP
                have hD : va_D A [(h_crew, .inl (cI, 4, .inl f_crew)), (h_yard, .inl (cI, 4, .inl f_yard)), (h_p1_settings, .inl (cI, 5, .inl f_p1_settings)), (h_p1_manName, .inl (cJ, 12, .inr (.inl f_p1_manName))), (h_p1_runnerName, .inl (cJ, 6, .inr (.inl f_p1_runnerName))), (h0, .inr (5, vL 11 F267)), (h_high, .inl (cI, 12, .inl g278)), (p0, .inr (6, vL 12 F269)), (h_p0_bytes, .inl (cB, 940, .inl f_p0_bytes)), (h_p0_wordNames, .inl (cJ, 23, .inr (.inl f_p0_wordNames))), (p1, .inr (1, vL 18 F_p1_))] := hD
                refine W.widen (k := 0) (n := 0) (Nat.le_of_ble_eq_true rfl) (Nat.le_of_ble_eq_true rfl) ?_
                exact ret_i (v := r266) hx hb hr hlocks hS (hP.sub (ws' := [(h0, .inr (5, vL 11 F267)), (h_crew, .inl (cI, 4, .inl f_crew)), (h_yard, .inl (cI, 4, .inl f_yard)), (h_high, .inl (cI, 12, .inl g278)), (p0, .inr (6, vL 12 F269)), (h_p0_bytes, .inl (cB, 940, .inl f_p0_bytes)), (h_p0_wordNames, .inl (cJ, 23, .inr (.inl f_p0_wordNames))), (p1, .inr (1, vL 18 F_p1_)), (h_p1_settings, .inl (cI, 5, .inl f_p1_settings)), (h_p1_manName, .inl (cJ, 12, .inr (.inl f_p1_manName))), (h_p1_runnerName, .inl (cJ, 6, .inr (.inl f_p1_runnerName)))]) [5, 0, 1, 6, 7, 8, 9, 10, 2, 3, 4] rfl) (hD.sub (ws' := [(h0, .inr (5, vL 11 F267)), (h_crew, .inl (cI, 4, .inl f_crew)), (h_yard, .inl (cI, 4, .inl f_yard)), (h_high, .inl (cI, 12, .inl g278)), (p0, .inr (6, vL 12 F269)), (h_p0_bytes, .inl (cB, 940, .inl f_p0_bytes)), (h_p0_wordNames, .inl (cJ, 23, .inr (.inl f_p0_wordNames))), (p1, .inr (1, vL 18 F_p1_)), (h_p1_settings, .inl (cI, 5, .inl f_p1_settings)), (h_p1_manName, .inl (cJ, 12, .inr (.inl f_p1_manName))), (h_p1_runnerName, .inl (cJ, 6, .inr (.inl f_p1_runnerName)))]) [5, 0, 1, 6, 7, 8, 9, 10, 2, 3, 4] (by decide) rfl) dX5_readLine_130 (nz_i t291.1 t291.2) (Nat.le_of_ble_eq_true rfl) (Nat.le_of_ble_eq_true rfl) ⟨F267, x_crewed, x_lead, x_runner, x_number, v128, x_jumpsTold, y268, F269, y270, y271, y272, y273, y274, y275, y276, y277, f_crew, f_yard, g278, (SAME.tr (SAME.up eF129 SAME.rf (by decide)) t279 (by decide)), (SAME.at t279 (by decide) (get_ne eF129 (by decide) e_crewed)), i_x_crewed, (SAME.at t279 (by decide) (get_ne eF129 (by decide) e_lead)), (SAME.at t279 (by decide) (get_ne eF129 (by decide) e_runner)), (SAME.at t279 (by decide) (get_ne eF129 (by decide) e_number)), (SAME.at t279 (by decide) (get_eq eF129)), (SAME.at t279 (by decide) (get_ne eF129 (by decide) e_jumpsTold)), t280, (SAME.tr (SAME.tr SAME.rf t137 (by decide)) t281 (by decide)), t282, t283, t284, t285, t286, t287, t288, t289, t290, s_crew_0, t291, rfl⟩
              by_cases k292 : x_p0_value = 12
              · have dk292 : x_p0_value.toInt = 12 := eq_i rfl rfl k292
                have k293 : 12 ≤ x_p0_value.toInt ∧ x_p0_value.toInt ≤ 12 := ⟨Int.le_trans (Int.le_refl _) (Int.le_of_eq dk292.symm), Int.le_trans (Int.le_of_eq dk292) (Int.le_refl _)⟩
                refine lv_ci (y := 12) k292 ?_
                refine lv_tableIn (tgt := 131) (off := 62) hx hb dX5_readLine_69 (by decide) (by decide) (by decide) (by decide) ?_
                refine lv_aload_n hx hb dX5_readLine_131 rfl (lv_at hl 1 rfl) ?_
                refine lv_aload_n hx hb dX5_readLine_132 rfl (lv_at hl 2 rfl) ?_
                refine lv_aload_n hx hb dX5_readLine_133 rfl (lv_at hl 3 rfl) ?_
                have n294 : F129 5 = .int x_runner := (get_ne eF129 (by decide) e_runner)
                have n295 : F131 0 = .ref h_p0_bytes := (SAME.at t137 (by decide) e_p0_bytes)
                have n296 : F131 1 = .int x_p0_length := (SAME.at t137 (by decide) e_p0_length)
                have n297 : F131 7 = .int x_p0_faultKind := (SAME.at t137 (by decide) e_p0_faultKind)
                have n298 : F131 8 = .int x_p0_faultPlace := (SAME.at t137 (by decide) e_p0_faultPlace)
                have n299 : F131 9 = .ref h_p0_wordNames := (SAME.at t137 (by decide) e_p0_wordNames)
                have n300 : F131 11 = .int x_p0_mostBytes := (SAME.at t137 (by decide) e_p0_mostBytes)
                refine call_Vi (wr := [(h_crew, .inl (cI, 4, .inl f_crew)), (h_yard, .inl (cI, 4, .inl f_yard)), (h_high, .inl (cI, 12, .inl f_high)), (h_p1_settings, .inl (cI, 5, .inl f_p1_settings)), (h_p1_manName, .inl (cJ, 12, .inr (.inl f_p1_manName)))]) (As := [.ref p0, .ref p1]) (rest := []) hx hb hml hown hw (m_X5_readOn l D cI cJ cB cP cM cZ h0 p0 h_p0_bytes h_p0_wordNames p1 h_p1_runnerName F129 x_runner F131 x_p0_length y132 y133 y134 y135 x_p0_faultKind x_p0_faultPlace y136 x_p0_mostBytes f_p0_bytes f_p0_wordNames F_p1_ x_p1_runners f_p1_runnerName _ n294 n295 n296 i_x_p0_length t138 t139 t141 t142 n297 n298 n299 t143 t144 n300 e_p1_runnerName e_p1_runners i_x_p1_runners) wV_X5_114_X5_readOn dX5_readLine_134 hK hP hD hS hA [0, 8, 9, 10, 4, 7] [1, 2, 3, 5, 6] rfl rfl (by decide) (by decide) (by decide) 0 5 rfl rfl GG.fb hG.at hl.1 rfl (Nat.le_of_ble_eq_true rfl) ⟨(Nat.le_of_ble_eq_true rfl), (Nat.le_of_ble_eq_true rfl)⟩ ⟨(Nat.le_of_ble_eq_true rfl), (Nat.le_of_ble_eq_true rfl)⟩ (fun r301 u H locs hp hP hD hS => ?_)
                obtain ⟨F302, y303, F304, y305, y306, y307, y308, y309, y310, y311, t312, t313, t314, t315, t316, t317, t318, t319, t320, t321, t322, t323, rfl⟩ := hp
                have hP : va_P D vwCl [(h_crew, .inl (cI, 4, .inl f_crew)), (h_yard, .inl (cI, 4, .inl f_yard)), (h_high, .inl (cI, 12, .inl f_high)), (h_p1_settings, .inl (cI, 5, .inl f_p1_settings)), (h_p1_manName, .inl (cJ, 12, .inr (.inl f_p1_manName))), (h0, .inr (5, vL 11 F302)), (p0, .inr (6, vL 12 F304)), (h_p0_bytes, .inl (cB, 940, .inl f_p0_bytes)), (h_p0_wordNames, .inl (cJ, 23, .inr (.inl f_p0_wordNames))), (p1, .inr (1, vL 18 F_p1_)), (h_p1_runnerName, .inl (cJ, 6, .inr (.inl f_p1_runnerName)))] H := hP
                have hD : va_D A [(h_crew, .inl (cI, 4, .inl f_crew)), (h_yard, .inl (cI, 4, .inl f_yard)), (h_high, .inl (cI, 12, .inl f_high)), (h_p1_settings, .inl (cI, 5, .inl f_p1_settings)), (h_p1_manName, .inl (cJ, 12, .inr (.inl f_p1_manName))), (h0, .inr (5, vL 11 F302)), (p0, .inr (6, vL 12 F304)), (h_p0_bytes, .inl (cB, 940, .inl f_p0_bytes)), (h_p0_wordNames, .inl (cJ, 23, .inr (.inl f_p0_wordNames))), (p1, .inr (1, vL 18 F_p1_)), (h_p1_runnerName, .inl (cJ, 6, .inr (.inl f_p1_runnerName)))] := hD
                refine W.widen (k := 0) (n := 0) (Nat.le_of_ble_eq_true rfl) (Nat.le_of_ble_eq_true rfl) ?_
                exact ret_i (v := r301) hx hb hr hlocks hS (hP.sub (ws' := [(h0, .inr (5, vL 11 F302)), (h_crew, .inl (cI, 4, .inl f_crew)), (h_yard, .inl (cI, 4, .inl f_yard)), (h_high, .inl (cI, 12, .inl f_high)), (p0, .inr (6, vL 12 F304)), (h_p0_bytes, .inl (cB, 940, .inl f_p0_bytes)), (h_p0_wordNames, .inl (cJ, 23, .inr (.inl f_p0_wordNames))), (p1, .inr (1, vL 18 F_p1_)), (h_p1_settings, .inl (cI, 5, .inl f_p1_settings)), (h_p1_manName, .inl (cJ, 12, .inr (.inl f_p1_manName))), (h_p1_runnerName, .inl (cJ, 6, .inr (.inl f_p1_runnerName)))]) [5, 0, 1, 2, 6, 7, 8, 9, 3, 4, 10] rfl) (hD.sub (ws' := [(h0, .inr (5, vL 11 F302)), (h_crew, .inl (cI, 4, .inl f_crew)), (h_yard, .inl (cI, 4, .inl f_yard)), (h_high, .inl (cI, 12, .inl f_high)), (p0, .inr (6, vL 12 F304)), (h_p0_bytes, .inl (cB, 940, .inl f_p0_bytes)), (h_p0_wordNames, .inl (cJ, 23, .inr (.inl f_p0_wordNames))), (p1, .inr (1, vL 18 F_p1_)), (h_p1_settings, .inl (cI, 5, .inl f_p1_settings)), (h_p1_manName, .inl (cJ, 12, .inr (.inl f_p1_manName))), (h_p1_runnerName, .inl (cJ, 6, .inr (.inl f_p1_runnerName)))]) [5, 0, 1, 2, 6, 7, 8, 9, 3, 4, 10] (by decide) rfl) dX5_readLine_137 (nz_i t323.1 t323.2) (Nat.le_of_ble_eq_true rfl) (Nat.le_of_ble_eq_true rfl) ⟨F302, x_crewed, x_lead, y303, x_number, v128, x_jumpsTold, x_heightsTold, F304, y305, y306, y307, y308, x_p0_number, y309, y310, y311, f_crew, f_yard, f_high, (SAME.tr (SAME.up eF129 SAME.rf (by decide)) t312 (by decide)), (SAME.at t312 (by decide) (get_ne eF129 (by decide) e_crewed)), i_x_crewed, (SAME.at t312 (by decide) (get_ne eF129 (by decide) e_lead)), t313, (SAME.at t312 (by decide) (get_ne eF129 (by decide) e_number)), (SAME.at t312 (by decide) (get_eq eF129)), (SAME.at t312 (by decide) (get_ne eF129 (by decide) e_jumpsTold)), (SAME.at t312 (by decide) (get_ne eF129 (by decide) e_heightsTold)), (SAME.tr (SAME.tr SAME.rf t137 (by decide)) t314 (by decide)), t315, t316, t317, t318, (SAME.at t314 (by decide) (SAME.at t137 (by decide) e_p0_number)), t319, t320, t321, t322, s_crew_0, t323, rfl⟩
              have dk145 : x_p0_value.toInt ≠ 8 := ne_i rfl rfl k145
              have k324 : 9 ≤ x_p0_value.toInt ∧ x_p0_value.toInt ≤ 13 := ⟨ne_lo dk145 k19.1 ⟨Int.le_refl _, Int.le_refl _⟩ (by decide), k19.2⟩
              have dk181 : x_p0_value.toInt ≠ 9 := ne_i rfl rfl k181
              have k325 : 10 ≤ x_p0_value.toInt ∧ x_p0_value.toInt ≤ 13 := ⟨ne_lo dk181 k324.1 ⟨Int.le_refl _, Int.le_refl _⟩ (by decide), k324.2⟩
              have dk220 : x_p0_value.toInt ≠ 10 := ne_i rfl rfl k220
              have k326 : 11 ≤ x_p0_value.toInt ∧ x_p0_value.toInt ≤ 13 := ⟨ne_lo dk220 k325.1 ⟨Int.le_refl _, Int.le_refl _⟩ (by decide), k325.2⟩
              have dk255 : x_p0_value.toInt ≠ 11 := ne_i rfl rfl k255
              have k327 : 12 ≤ x_p0_value.toInt ∧ x_p0_value.toInt ≤ 13 := ⟨ne_lo dk255 k326.1 ⟨Int.le_refl _, Int.le_refl _⟩ (by decide), k326.2⟩
              have dk292 : x_p0_value.toInt ≠ 12 := ne_i rfl rfl k292
              have k328 : 13 ≤ x_p0_value.toInt ∧ x_p0_value.toInt ≤ 13 := ⟨ne_lo dk292 k327.1 ⟨Int.le_refl _, Int.le_refl _⟩ (by decide), k327.2⟩
              refine lv_tableOut (tgt := 138) hx hb dX5_readLine_69 (by omega) (by decide) ?_
              refine lv_aload_n hx hb dX5_readLine_138 rfl (lv_at hl 1 rfl) ?_
              refine lv_aload_n hx hb dX5_readLine_139 rfl (lv_at hl 2 rfl) ?_
              have n329 : F129 6 = .int x_number := (get_ne eF129 (by decide) e_number)
              have n330 : F131 0 = .ref h_p0_bytes := (SAME.at t137 (by decide) e_p0_bytes)
              have n331 : F131 1 = .int x_p0_length := (SAME.at t137 (by decide) e_p0_length)
              have n332 : F131 6 = .int x_p0_number := (SAME.at t137 (by decide) e_p0_number)
              have n333 : F131 7 = .int x_p0_faultKind := (SAME.at t137 (by decide) e_p0_faultKind)
              have n334 : F131 8 = .int x_p0_faultPlace := (SAME.at t137 (by decide) e_p0_faultPlace)
              have n335 : F131 9 = .ref h_p0_wordNames := (SAME.at t137 (by decide) e_p0_wordNames)
              have n336 : F131 11 = .int x_p0_mostBytes := (SAME.at t137 (by decide) e_p0_mostBytes)
              refine call_Vi (wr := [(h_crew, .inl (cI, 4, .inl f_crew)), (h_yard, .inl (cI, 4, .inl f_yard)), (h_high, .inl (cI, 12, .inl f_high)), (p1, .inr (1, vL 18 F_p1_)), (h_p1_settings, .inl (cI, 5, .inl f_p1_settings)), (h_p1_manName, .inl (cJ, 12, .inr (.inl f_p1_manName))), (h_p1_runnerName, .inl (cJ, 6, .inr (.inl f_p1_runnerName)))]) (As := [.ref p0]) (rest := []) hx hb hml hown hw (m_X5_readStart l D cI cJ cB cP cM cZ h0 p0 h_p0_bytes h_p0_wordNames F129 x_number F131 x_p0_length y132 y133 y134 y135 x_p0_number x_p0_faultKind x_p0_faultPlace y136 x_p0_mostBytes f_p0_bytes f_p0_wordNames _ n329 n330 n331 i_x_p0_length t138 t139 t141 t142 n332 n333 n334 n335 t143 t144 n336) wV_X5_117_X5_readStart dX5_readLine_140 hK hP hD hS hA [0, 8, 9, 10] [1, 2, 3, 4, 5, 6, 7] rfl rfl (by decide) (by decide) (by decide) 0 5 rfl rfl GG.fb hG.at hl.1 rfl (Nat.le_of_ble_eq_true rfl) ⟨(Nat.le_of_ble_eq_true rfl), (Nat.le_of_ble_eq_true rfl)⟩ ⟨(Nat.le_of_ble_eq_true rfl), (Nat.le_of_ble_eq_true rfl)⟩ (fun r337 u H locs hp hP hD hS => ?_)
              obtain ⟨F338, y339, F340, y341, y342, y343, y344, y345, y346, y347, y348, t349, t350, t351, t352, t353, t354, t355, t356, t357, t358, t359, t360, t361, rfl⟩ := hp
              have hP : va_P D vwCl [(h_crew, .inl (cI, 4, .inl f_crew)), (h_yard, .inl (cI, 4, .inl f_yard)), (h_high, .inl (cI, 12, .inl f_high)), (p1, .inr (1, vL 18 F_p1_)), (h_p1_settings, .inl (cI, 5, .inl f_p1_settings)), (h_p1_manName, .inl (cJ, 12, .inr (.inl f_p1_manName))), (h_p1_runnerName, .inl (cJ, 6, .inr (.inl f_p1_runnerName))), (h0, .inr (5, vL 11 F338)), (p0, .inr (6, vL 12 F340)), (h_p0_bytes, .inl (cB, 940, .inl f_p0_bytes)), (h_p0_wordNames, .inl (cJ, 23, .inr (.inl f_p0_wordNames)))] H := hP
              have hD : va_D A [(h_crew, .inl (cI, 4, .inl f_crew)), (h_yard, .inl (cI, 4, .inl f_yard)), (h_high, .inl (cI, 12, .inl f_high)), (p1, .inr (1, vL 18 F_p1_)), (h_p1_settings, .inl (cI, 5, .inl f_p1_settings)), (h_p1_manName, .inl (cJ, 12, .inr (.inl f_p1_manName))), (h_p1_runnerName, .inl (cJ, 6, .inr (.inl f_p1_runnerName))), (h0, .inr (5, vL 11 F338)), (p0, .inr (6, vL 12 F340)), (h_p0_bytes, .inl (cB, 940, .inl f_p0_bytes)), (h_p0_wordNames, .inl (cJ, 23, .inr (.inl f_p0_wordNames)))] := hD
              refine W.widen (k := 0) (n := 0) (Nat.le_of_ble_eq_true rfl) (Nat.le_of_ble_eq_true rfl) ?_
              exact ret_i (v := r337) hx hb hr hlocks hS (hP.sub (ws' := [(h0, .inr (5, vL 11 F338)), (h_crew, .inl (cI, 4, .inl f_crew)), (h_yard, .inl (cI, 4, .inl f_yard)), (h_high, .inl (cI, 12, .inl f_high)), (p0, .inr (6, vL 12 F340)), (h_p0_bytes, .inl (cB, 940, .inl f_p0_bytes)), (h_p0_wordNames, .inl (cJ, 23, .inr (.inl f_p0_wordNames))), (p1, .inr (1, vL 18 F_p1_)), (h_p1_settings, .inl (cI, 5, .inl f_p1_settings)), (h_p1_manName, .inl (cJ, 12, .inr (.inl f_p1_manName))), (h_p1_runnerName, .inl (cJ, 6, .inr (.inl f_p1_runnerName)))]) [7, 0, 1, 2, 8, 9, 10, 3, 4, 5, 6] rfl) (hD.sub (ws' := [(h0, .inr (5, vL 11 F338)), (h_crew, .inl (cI, 4, .inl f_crew)), (h_yard, .inl (cI, 4, .inl f_yard)), (h_high, .inl (cI, 12, .inl f_high)), (p0, .inr (6, vL 12 F340)), (h_p0_bytes, .inl (cB, 940, .inl f_p0_bytes)), (h_p0_wordNames, .inl (cJ, 23, .inr (.inl f_p0_wordNames))), (p1, .inr (1, vL 18 F_p1_)), (h_p1_settings, .inl (cI, 5, .inl f_p1_settings)), (h_p1_manName, .inl (cJ, 12, .inr (.inl f_p1_manName))), (h_p1_runnerName, .inl (cJ, 6, .inr (.inl f_p1_runnerName)))]) [7, 0, 1, 2, 8, 9, 10, 3, 4, 5, 6] (by decide) rfl) dX5_readLine_143 (nz_i t361.1 t361.2) (Nat.le_of_ble_eq_true rfl) (Nat.le_of_ble_eq_true rfl) ⟨F338, x_crewed, x_lead, x_runner, y339, v128, x_jumpsTold, x_heightsTold, F340, y341, y342, y343, y344, y345, y346, y347, y348, f_crew, f_yard, f_high, (SAME.tr (SAME.up eF129 SAME.rf (by decide)) t349 (by decide)), (SAME.at t349 (by decide) (get_ne eF129 (by decide) e_crewed)), i_x_crewed, (SAME.at t349 (by decide) (get_ne eF129 (by decide) e_lead)), (SAME.at t349 (by decide) (get_ne eF129 (by decide) e_runner)), t350, (SAME.at t349 (by decide) (get_eq eF129)), (SAME.at t349 (by decide) (get_ne eF129 (by decide) e_jumpsTold)), (SAME.at t349 (by decide) (get_ne eF129 (by decide) e_heightsTold)), (SAME.tr (SAME.tr SAME.rf t137 (by decide)) t351 (by decide)), t352, t353, t354, t355, t356, t357, t358, t359, t360, s_crew_0, t361, rfl⟩
        · have dc23 : v21.toInt ≠ 0 := ne_i (a := v21.toInt) (b := 0) rfl rfl c23
          have k362 : 1 ≤ v21.toInt ∧ v21.toInt ≤ 1 := ⟨ne_lo dc23 k22.1 ⟨Int.le_refl _, Int.le_refl _⟩ (by decide), k22.2⟩
          refine lv_aload_n hx hb dX5_readLine_34 rfl (lv_at hl 2 rfl) ?_
          refine lv_iconst (v := 3) hx hb dX5_readLine_35 (by decide) ?_
          refine call_Vi (wr := [(h0, .inr (5, vL 11 Fh)), (h_crew, .inl (cI, 4, .inl f_crew)), (h_yard, .inl (cI, 4, .inl f_yard)), (h_high, .inl (cI, 12, .inl f_high)), (h_p0_bytes, .inl (cB, 940, .inl f_p0_bytes)), (h_p0_wordNames, .inl (cJ, 23, .inr (.inl f_p0_wordNames))), (p1, .inr (1, vL 18 F_p1_)), (h_p1_settings, .inl (cI, 5, .inl f_p1_settings)), (h_p1_manName, .inl (cJ, 12, .inr (.inl f_p1_manName))), (h_p1_runnerName, .inl (cJ, 6, .inr (.inl f_p1_runnerName)))]) (As := [.int 3]) (rest := []) hx hb hml hown hw (m_X6_fail l D cI cJ cB cP cM cZ p0 F_p0_ x_p0_place 3 _ e_p0_place) wV_X5_95_X6_fail dX5_readLine_36 hK hP hD hS hA [10] [0, 1, 2, 3, 4, 5, 6, 7, 8, 9] rfl rfl (by decide) (by decide) (by decide) 0 6 rfl rfl GG.fb hG.at hl.1 rfl (Nat.le_of_ble_eq_true rfl) ⟨(Nat.le_of_ble_eq_true rfl), (Nat.le_of_ble_eq_true rfl)⟩ ⟨(Nat.le_of_ble_eq_true rfl), (Nat.le_of_ble_eq_true rfl)⟩ (fun r363 u H locs hp hP hD hS => ?_)
          obtain ⟨F364, t365, t366, t367, rfl, rfl⟩ := hp
          have hP : va_P D vwCl [(h0, .inr (5, vL 11 Fh)), (h_crew, .inl (cI, 4, .inl f_crew)), (h_yard, .inl (cI, 4, .inl f_yard)), (h_high, .inl (cI, 12, .inl f_high)), (h_p0_bytes, .inl (cB, 940, .inl f_p0_bytes)), (h_p0_wordNames, .inl (cJ, 23, .inr (.inl f_p0_wordNames))), (p1, .inr (1, vL 18 F_p1_)), (h_p1_settings, .inl (cI, 5, .inl f_p1_settings)), (h_p1_manName, .inl (cJ, 12, .inr (.inl f_p1_manName))), (h_p1_runnerName, .inl (cJ, 6, .inr (.inl f_p1_runnerName))), (p0, .inr (6, vL 12 F364))] H := hP
          have hD : va_D A [(h0, .inr (5, vL 11 Fh)), (h_crew, .inl (cI, 4, .inl f_crew)), (h_yard, .inl (cI, 4, .inl f_yard)), (h_high, .inl (cI, 12, .inl f_high)), (h_p0_bytes, .inl (cB, 940, .inl f_p0_bytes)), (h_p0_wordNames, .inl (cJ, 23, .inr (.inl f_p0_wordNames))), (p1, .inr (1, vL 18 F_p1_)), (h_p1_settings, .inl (cI, 5, .inl f_p1_settings)), (h_p1_manName, .inl (cJ, 12, .inr (.inl f_p1_manName))), (h_p1_runnerName, .inl (cJ, 6, .inr (.inl f_p1_runnerName))), (p0, .inr (6, vL 12 F364))] := hD
          refine W.widen (k := 0) (n := 0) (Nat.le_of_ble_eq_true rfl) (Nat.le_of_ble_eq_true rfl) ?_
          exact ret_i (v := 0) hx hb hr hlocks hS (hP.sub (ws' := [(h0, .inr (5, vL 11 Fh)), (h_crew, .inl (cI, 4, .inl f_crew)), (h_yard, .inl (cI, 4, .inl f_yard)), (h_high, .inl (cI, 12, .inl f_high)), (p0, .inr (6, vL 12 F364)), (h_p0_bytes, .inl (cB, 940, .inl f_p0_bytes)), (h_p0_wordNames, .inl (cJ, 23, .inr (.inl f_p0_wordNames))), (p1, .inr (1, vL 18 F_p1_)), (h_p1_settings, .inl (cI, 5, .inl f_p1_settings)), (h_p1_manName, .inl (cJ, 12, .inr (.inl f_p1_manName))), (h_p1_runnerName, .inl (cJ, 6, .inr (.inl f_p1_runnerName)))]) [0, 1, 2, 3, 10, 4, 5, 6, 7, 8, 9] rfl) (hD.sub (ws' := [(h0, .inr (5, vL 11 Fh)), (h_crew, .inl (cI, 4, .inl f_crew)), (h_yard, .inl (cI, 4, .inl f_yard)), (h_high, .inl (cI, 12, .inl f_high)), (p0, .inr (6, vL 12 F364)), (h_p0_bytes, .inl (cB, 940, .inl f_p0_bytes)), (h_p0_wordNames, .inl (cJ, 23, .inr (.inl f_p0_wordNames))), (p1, .inr (1, vL 18 F_p1_)), (h_p1_settings, .inl (cI, 5, .inl f_p1_settings)), (h_p1_manName, .inl (cJ, 12, .inr (.inl f_p1_manName))), (h_p1_runnerName, .inl (cJ, 6, .inr (.inl f_p1_runnerName)))]) [0, 1, 2, 3, 10, 4, 5, 6, 7, 8, 9] (by decide) rfl) dX5_readLine_39 rfl (Nat.le_of_ble_eq_true rfl) (Nat.le_of_ble_eq_true rfl) ⟨Fh, x_crewed, x_lead, x_runner, x_number, x_linesTold, x_jumpsTold, x_heightsTold, F364, x_p0_kind, x_p0_place, x_p0_value, x_p0_name, x_p0_number, 3, x_p0_place, x_p0_at, f_crew, f_yard, f_high, SAME.rf, e_crewed, i_x_crewed, e_lead, e_runner, e_number, e_linesTold, e_jumpsTold, e_heightsTold, (SAME.tr SAME.rf t365 (by decide)), (SAME.at t365 (by decide) e_p0_kind), (SAME.at t365 (by decide) e_p0_place), (SAME.at t365 (by decide) e_p0_value), (SAME.at t365 (by decide) e_p0_name), (SAME.at t365 (by decide) e_p0_number), t366, t367, (SAME.at t365 (by decide) e_p0_at), i_x_p0_at, s_crew_0, ⟨by decide, by decide⟩, rfl⟩
      · have dc18 : 13 < x_p0_value.toInt := nle_i (a := x_p0_value.toInt) (b := 13) rfl rfl c18
        have k368 : 14 ≤ x_p0_value.toInt ∧ x_p0_value.toInt ≤ 2147483647 := ⟨lo_lt dc18 (Int.le_refl _) (by decide), k17.2⟩
        refine lv_aload_n hx hb dX5_readLine_17 rfl (lv_at hl 2 rfl) ?_
        refine lv_iconst (v := 1) hx hb dX5_readLine_18 (by decide) ?_
        refine call_Vi (wr := [(h0, .inr (5, vL 11 Fh)), (h_crew, .inl (cI, 4, .inl f_crew)), (h_yard, .inl (cI, 4, .inl f_yard)), (h_high, .inl (cI, 12, .inl f_high)), (h_p0_bytes, .inl (cB, 940, .inl f_p0_bytes)), (h_p0_wordNames, .inl (cJ, 23, .inr (.inl f_p0_wordNames))), (p1, .inr (1, vL 18 F_p1_)), (h_p1_settings, .inl (cI, 5, .inl f_p1_settings)), (h_p1_manName, .inl (cJ, 12, .inr (.inl f_p1_manName))), (h_p1_runnerName, .inl (cJ, 6, .inr (.inl f_p1_runnerName)))]) (As := [.int 1]) (rest := []) hx hb hml hown hw (m_X6_fail l D cI cJ cB cP cM cZ p0 F_p0_ x_p0_place 1 _ e_p0_place) wV_X5_95_X6_fail dX5_readLine_19 hK hP hD hS hA [10] [0, 1, 2, 3, 4, 5, 6, 7, 8, 9] rfl rfl (by decide) (by decide) (by decide) 0 6 rfl rfl GG.fb hG.at hl.1 rfl (Nat.le_of_ble_eq_true rfl) ⟨(Nat.le_of_ble_eq_true rfl), (Nat.le_of_ble_eq_true rfl)⟩ ⟨(Nat.le_of_ble_eq_true rfl), (Nat.le_of_ble_eq_true rfl)⟩ (fun r369 u H locs hp hP hD hS => ?_)
        obtain ⟨F370, t371, t372, t373, rfl, rfl⟩ := hp
        have hP : va_P D vwCl [(h0, .inr (5, vL 11 Fh)), (h_crew, .inl (cI, 4, .inl f_crew)), (h_yard, .inl (cI, 4, .inl f_yard)), (h_high, .inl (cI, 12, .inl f_high)), (h_p0_bytes, .inl (cB, 940, .inl f_p0_bytes)), (h_p0_wordNames, .inl (cJ, 23, .inr (.inl f_p0_wordNames))), (p1, .inr (1, vL 18 F_p1_)), (h_p1_settings, .inl (cI, 5, .inl f_p1_settings)), (h_p1_manName, .inl (cJ, 12, .inr (.inl f_p1_manName))), (h_p1_runnerName, .inl (cJ, 6, .inr (.inl f_p1_runnerName))), (p0, .inr (6, vL 12 F370))] H := hP
        have hD : va_D A [(h0, .inr (5, vL 11 Fh)), (h_crew, .inl (cI, 4, .inl f_crew)), (h_yard, .inl (cI, 4, .inl f_yard)), (h_high, .inl (cI, 12, .inl f_high)), (h_p0_bytes, .inl (cB, 940, .inl f_p0_bytes)), (h_p0_wordNames, .inl (cJ, 23, .inr (.inl f_p0_wordNames))), (p1, .inr (1, vL 18 F_p1_)), (h_p1_settings, .inl (cI, 5, .inl f_p1_settings)), (h_p1_manName, .inl (cJ, 12, .inr (.inl f_p1_manName))), (h_p1_runnerName, .inl (cJ, 6, .inr (.inl f_p1_runnerName))), (p0, .inr (6, vL 12 F370))] := hD
        refine W.widen (k := 0) (n := 0) (Nat.le_of_ble_eq_true rfl) (Nat.le_of_ble_eq_true rfl) ?_
        exact ret_i (v := 0) hx hb hr hlocks hS (hP.sub (ws' := [(h0, .inr (5, vL 11 Fh)), (h_crew, .inl (cI, 4, .inl f_crew)), (h_yard, .inl (cI, 4, .inl f_yard)), (h_high, .inl (cI, 12, .inl f_high)), (p0, .inr (6, vL 12 F370)), (h_p0_bytes, .inl (cB, 940, .inl f_p0_bytes)), (h_p0_wordNames, .inl (cJ, 23, .inr (.inl f_p0_wordNames))), (p1, .inr (1, vL 18 F_p1_)), (h_p1_settings, .inl (cI, 5, .inl f_p1_settings)), (h_p1_manName, .inl (cJ, 12, .inr (.inl f_p1_manName))), (h_p1_runnerName, .inl (cJ, 6, .inr (.inl f_p1_runnerName)))]) [0, 1, 2, 3, 10, 4, 5, 6, 7, 8, 9] rfl) (hD.sub (ws' := [(h0, .inr (5, vL 11 Fh)), (h_crew, .inl (cI, 4, .inl f_crew)), (h_yard, .inl (cI, 4, .inl f_yard)), (h_high, .inl (cI, 12, .inl f_high)), (p0, .inr (6, vL 12 F370)), (h_p0_bytes, .inl (cB, 940, .inl f_p0_bytes)), (h_p0_wordNames, .inl (cJ, 23, .inr (.inl f_p0_wordNames))), (p1, .inr (1, vL 18 F_p1_)), (h_p1_settings, .inl (cI, 5, .inl f_p1_settings)), (h_p1_manName, .inl (cJ, 12, .inr (.inl f_p1_manName))), (h_p1_runnerName, .inl (cJ, 6, .inr (.inl f_p1_runnerName)))]) [0, 1, 2, 3, 10, 4, 5, 6, 7, 8, 9] (by decide) rfl) dX5_readLine_22 rfl (Nat.le_of_ble_eq_true rfl) (Nat.le_of_ble_eq_true rfl) ⟨Fh, x_crewed, x_lead, x_runner, x_number, x_linesTold, x_jumpsTold, x_heightsTold, F370, x_p0_kind, x_p0_place, x_p0_value, x_p0_name, x_p0_number, 1, x_p0_place, x_p0_at, f_crew, f_yard, f_high, SAME.rf, e_crewed, i_x_crewed, e_lead, e_runner, e_number, e_linesTold, e_jumpsTold, e_heightsTold, (SAME.tr SAME.rf t371 (by decide)), (SAME.at t371 (by decide) e_p0_kind), (SAME.at t371 (by decide) e_p0_place), (SAME.at t371 (by decide) e_p0_value), (SAME.at t371 (by decide) e_p0_name), (SAME.at t371 (by decide) e_p0_number), t372, t373, (SAME.at t371 (by decide) e_p0_at), i_x_p0_at, s_crew_0, ⟨by decide, by decide⟩, rfl⟩
set_option maxHeartbeats 4000000 in
set_option maxRecDepth 100000 in
theorem m_X5_readFrom (l : Launch) (D : va_G) (cI cJ cB cP cM cZ : ClassId) (h0 : Nat) (h_crew : Nat) (h_yard : Nat) (h_high : Nat) (p0 : Nat) (h_p0_bytes : Nat) (h_p0_wordNames : Nat) (p1 : Nat) (h_p1_settings : Nat) (h_p1_manName : Nat) (h_p1_ideal : Nat) (h_p1_runnerName : Nat) (Fh : Nat → Value) (f_crew : Nat → Int32) (f_yard : Nat → Int32) (f_high : Nat → Int32) (F_p0_ : Nat → Value) (x_p0_length : Int32) (x_p0_kind : Int32) (x_p0_place : Int32) (x_p0_value : Int32) (x_p0_name : Int64) (x_p0_number : Int32) (x_p0_faultKind : Int32) (x_p0_faultPlace : Int32) (x_p0_at : Int32) (x_p0_mostBytes : Int32) (f_p0_bytes : Nat → Int32) (f_p0_wordNames : Nat → Int64) (F_p1_ : Nat → Value) (x_p1_men : Int32) (x_p1_bends : Int32) (x_p1_runners : Int32) (f_p1_settings : Nat → Int32) (f_p1_manName : Nat → Int64) (f_p1_ideal : Nat → Int32) (f_p1_runnerName : Nat → Int64) (sz : Nat) (e_crew : Fh 0 = .ref h_crew) (e_yard : Fh 1 = .ref h_yard) (e_high : Fh 2 = .ref h_high) (s_crew_0 : SG 0 3 0 11 f_crew) (e_p0_bytes : F_p0_ 0 = .ref h_p0_bytes) (e_p0_length : F_p0_ 1 = .int x_p0_length) (i_x_p0_length : IR 0 940 x_p0_length) (e_p0_kind : F_p0_ 2 = .int x_p0_kind) (e_p0_place : F_p0_ 3 = .int x_p0_place) (e_p0_value : F_p0_ 4 = .int x_p0_value) (e_p0_name : F_p0_ 5 = .long x_p0_name) (e_p0_number : F_p0_ 6 = .int x_p0_number) (e_p0_faultKind : F_p0_ 7 = .int x_p0_faultKind) (e_p0_faultPlace : F_p0_ 8 = .int x_p0_faultPlace) (e_p0_wordNames : F_p0_ 9 = .ref h_p0_wordNames) (e_p0_at : F_p0_ 10 = .int x_p0_at) (i_x_p0_at : IR 0 940 x_p0_at) (e_p0_mostBytes : F_p0_ 11 = .int x_p0_mostBytes) (e_p1_settings : F_p1_ 1 = .ref h_p1_settings) (e_p1_manName : F_p1_ 2 = .ref h_p1_manName) (e_p1_ideal : F_p1_ 8 = .ref h_p1_ideal) (e_p1_runnerName : F_p1_ 10 = .ref h_p1_runnerName) (e_p1_men : F_p1_ 13 = .int x_p1_men) (i_x_p1_men : IR 0 12 x_p1_men) (e_p1_bends : F_p1_ 14 = .int x_p1_bends) (i_x_p1_bends : IR 0 12 x_p1_bends) (e_p1_runners : F_p1_ 15 = .int x_p1_runners) (i_x_p1_runners : IR 0 6 x_p1_runners) : CI l yX5_readFrom cX5_readFrom 3 (some .boolean) { frames := 5, cells := 0, slots := 0, locals := 112 } (GG D cI cJ cB cP cM cZ) D [(h0, .inr (5, vL 11 Fh)), (h_crew, .inl (cI, 4, .inl f_crew)), (h_yard, .inl (cI, 4, .inl f_yard)), (h_high, .inl (cI, 12, .inl f_high)), (p0, .inr (6, vL 12 F_p0_)), (h_p0_bytes, .inl (cB, 940, .inl f_p0_bytes)), (h_p0_wordNames, .inl (cJ, 23, .inr (.inl f_p0_wordNames))), (p1, .inr (1, vL 18 F_p1_)), (h_p1_settings, .inl (cI, 5, .inl f_p1_settings)), (h_p1_manName, .inl (cJ, 12, .inr (.inl f_p1_manName))), (h_p1_ideal, .inl (cI, 12, .inl f_p1_ideal)), (h_p1_runnerName, .inl (cJ, 6, .inr (.inl f_p1_runnerName)))] sz [.ref h0, .ref p0, .ref p1] (fun (r : Int32) (u : va_W) => ∃ (Gh : Nat → Value) (y_crewed : Int32) (y_lead : Int32) (y_runner : Int32) (y_number : Int32) (y_lines : Int32) (y_linesTold : Int32) (y_jumpsTold : Int32) (y_heightsTold : Int32) (G_p0_ : Nat → Value) (y_p0_kind : Int32) (y_p0_place : Int32) (y_p0_value : Int32) (y_p0_name : Int64) (y_p0_number : Int32) (y_p0_faultKind : Int32) (y_p0_faultPlace : Int32) (y_p0_at : Int32) (g_crew : Nat → Int32) (g_yard : Nat → Int32) (g_high : Nat → Int32), SAME [3, 4, 5, 6, 7, 8, 9, 10] Fh Gh ∧ Gh 3 = .int y_crewed ∧ IR 0 1 y_crewed ∧ Gh 4 = .int y_lead ∧ Gh 5 = .int y_runner ∧ Gh 6 = .int y_number ∧ Gh 7 = .int y_lines ∧ IR 0 400 y_lines ∧ Gh 8 = .int y_linesTold ∧ Gh 9 = .int y_jumpsTold ∧ Gh 10 = .int y_heightsTold ∧ SAME [2, 3, 4, 5, 6, 7, 8, 10] F_p0_ G_p0_ ∧ G_p0_ 2 = .int y_p0_kind ∧ G_p0_ 3 = .int y_p0_place ∧ G_p0_ 4 = .int y_p0_value ∧ G_p0_ 5 = .long y_p0_name ∧ G_p0_ 6 = .int y_p0_number ∧ G_p0_ 7 = .int y_p0_faultKind ∧ G_p0_ 8 = .int y_p0_faultPlace ∧ G_p0_ 10 = .int y_p0_at ∧ IR 0 940 y_p0_at ∧ SG 0 3 0 11 g_crew ∧ IR 0 1 r ∧ u = [(h0, .inr (5, vL 11 Gh)), (h_crew, .inl (cI, 4, .inl g_crew)), (h_yard, .inl (cI, 4, .inl g_yard)), (h_high, .inl (cI, 12, .inl g_high)), (p0, .inr (6, vL 12 G_p0_)), (h_p0_bytes, .inl (cB, 940, .inl f_p0_bytes)), (h_p0_wordNames, .inl (cJ, 23, .inr (.inl f_p0_wordNames))), (p1, .inr (1, vL 18 F_p1_)), (h_p1_settings, .inl (cI, 5, .inl f_p1_settings)), (h_p1_manName, .inl (cJ, 12, .inr (.inl f_p1_manName))), (h_p1_ideal, .inl (cI, 12, .inl f_p1_ideal)), (h_p1_runnerName, .inl (cJ, 6, .inr (.inl f_p1_runnerName)))]) := by
  refine CI_mk (by decide) (Nat.le_of_ble_eq_true rfl) ?_
  intro p e s m below meth c A ls E hAe hG hsz hP hD hA hS hl
  obtain ⟨hx, hb, hr, hw, hown, hlocks, hml, hnm⟩ := E
  have hK := hG.1
  have i_x_p0_length : 0 ≤ x_p0_length.toInt ∧ x_p0_length.toInt ≤ 940 := i_x_p0_length
  have i_x_p0_at : 0 ≤ x_p0_at.toInt ∧ x_p0_at.toInt ≤ 940 := i_x_p0_at
  have i_x_p1_men : 0 ≤ x_p1_men.toInt ∧ x_p1_men.toInt ≤ 12 := i_x_p1_men
  have i_x_p1_bends : 0 ≤ x_p1_bends.toInt ∧ x_p1_bends.toInt ≤ 12 := i_x_p1_bends
  have i_x_p1_runners : 0 ≤ x_p1_runners.toInt ∧ x_p1_runners.toInt ≤ 6 := i_x_p1_runners
  have hl : lv_has ls 3 [(0, .ref h0), (1, .ref p0), (2, .ref p1)] := hl
  refine lv_aload_n hx hb dX5_readFrom_0 rfl (lv_at hl 0 rfl) ?_
  refine lv_aload_n hx hb dX5_readFrom_1 rfl (lv_at hl 2 rfl) ?_
  refine call_Vv (wr := [(p0, .inr (6, vL 12 F_p0_)), (h_p0_bytes, .inl (cB, 940, .inl f_p0_bytes)), (h_p0_wordNames, .inl (cJ, 23, .inr (.inl f_p0_wordNames))), (h_p1_manName, .inl (cJ, 12, .inr (.inl f_p1_manName))), (h_p1_runnerName, .inl (cJ, 6, .inr (.inl f_p1_runnerName)))]) (As := [.ref p1]) (rest := []) hx hb hml hown hw (m_X5_clear l D cI cJ cB cP cM cZ h0 h_crew h_yard h_high p1 h_p1_settings h_p1_ideal Fh f_crew f_yard f_high F_p1_ x_p1_runners f_p1_settings f_p1_ideal _ e_crew e_yard e_high s_crew_0 e_p1_settings e_p1_ideal e_p1_runners i_x_p1_runners) wV_X5_74_X5_clear dX5_readFrom_2 hK hP hD hS hA [0, 1, 2, 3, 7, 8, 10] [4, 5, 6, 9, 11] rfl rfl (by decide) (by decide) (by decide) 0 5 rfl rfl GG.fb hG.at hl.1 rfl (Nat.le_of_ble_eq_true rfl) ⟨(Nat.le_of_ble_eq_true rfl), (Nat.le_of_ble_eq_true rfl)⟩ ⟨(Nat.le_of_ble_eq_true rfl), (Nat.le_of_ble_eq_true rfl)⟩ (fun u H locs hp hP hD hS => ?_)
  obtain ⟨F2, y3, g4, g5, g6, t7, t8, t9, t10, t11, t12, t13, rfl⟩ := hp
  have hP : va_P D vwCl [(p0, .inr (6, vL 12 F_p0_)), (h_p0_bytes, .inl (cB, 940, .inl f_p0_bytes)), (h_p0_wordNames, .inl (cJ, 23, .inr (.inl f_p0_wordNames))), (h_p1_manName, .inl (cJ, 12, .inr (.inl f_p1_manName))), (h_p1_runnerName, .inl (cJ, 6, .inr (.inl f_p1_runnerName))), (h0, .inr (5, vL 11 F2)), (h_crew, .inl (cI, 4, .inl g4)), (h_yard, .inl (cI, 4, .inl g5)), (h_high, .inl (cI, 12, .inl g6)), (p1, .inr (1, vL 18 F_p1_)), (h_p1_settings, .inl (cI, 5, .inl f_p1_settings)), (h_p1_ideal, .inl (cI, 12, .inl f_p1_ideal))] H := hP
  have hD : va_D A [(p0, .inr (6, vL 12 F_p0_)), (h_p0_bytes, .inl (cB, 940, .inl f_p0_bytes)), (h_p0_wordNames, .inl (cJ, 23, .inr (.inl f_p0_wordNames))), (h_p1_manName, .inl (cJ, 12, .inr (.inl f_p1_manName))), (h_p1_runnerName, .inl (cJ, 6, .inr (.inl f_p1_runnerName))), (h0, .inr (5, vL 11 F2)), (h_crew, .inl (cI, 4, .inl g4)), (h_yard, .inl (cI, 4, .inl g5)), (h_high, .inl (cI, 12, .inl g6)), (p1, .inr (1, vL 18 F_p1_)), (h_p1_settings, .inl (cI, 5, .inl f_p1_settings)), (h_p1_ideal, .inl (cI, 12, .inl f_p1_ideal))] := hD
  refine W.widen (k := 0) (n := 0) (Nat.le_of_ble_eq_true rfl) (Nat.le_of_ble_eq_true rfl) ?_
  refine lv_aload_n hx hb dX5_readFrom_5 rfl (lv_at hl 0 rfl) ?_
  refine lv_iconst (v := 0) hx hb dX5_readFrom_6 (by decide) ?_
  refine put_f (D := D) (ci := 5) (v := .int 0) (ty := .int) (C := RX5) (T := TX5) (N := 11) hx hb hw inAX5 tyX5 tyX5_ok nmX5 hown hK hP hD hS 5 rfl rfl 8 (by decide) (hw _ q_172) (fun _ h9 => h9) rfl (by decide +kernel) rfl rfl dX5_readFrom_7 (fun H locs F14 eF14 hP hD hS => ?_)
  have hP : va_P D vwCl [(p0, .inr (6, vL 12 F_p0_)), (h_p0_bytes, .inl (cB, 940, .inl f_p0_bytes)), (h_p0_wordNames, .inl (cJ, 23, .inr (.inl f_p0_wordNames))), (h_p1_manName, .inl (cJ, 12, .inr (.inl f_p1_manName))), (h_p1_runnerName, .inl (cJ, 6, .inr (.inl f_p1_runnerName))), (h0, .inr (5, vL 11 F14)), (h_crew, .inl (cI, 4, .inl g4)), (h_yard, .inl (cI, 4, .inl g5)), (h_high, .inl (cI, 12, .inl g6)), (p1, .inr (1, vL 18 F_p1_)), (h_p1_settings, .inl (cI, 5, .inl f_p1_settings)), (h_p1_ideal, .inl (cI, 12, .inl f_p1_ideal))] H := hP
  have hD : va_D A [(p0, .inr (6, vL 12 F_p0_)), (h_p0_bytes, .inl (cB, 940, .inl f_p0_bytes)), (h_p0_wordNames, .inl (cJ, 23, .inr (.inl f_p0_wordNames))), (h_p1_manName, .inl (cJ, 12, .inr (.inl f_p1_manName))), (h_p1_runnerName, .inl (cJ, 6, .inr (.inl f_p1_runnerName))), (h0, .inr (5, vL 11 F14)), (h_crew, .inl (cI, 4, .inl g4)), (h_yard, .inl (cI, 4, .inl g5)), (h_high, .inl (cI, 12, .inl g6)), (p1, .inr (1, vL 18 F_p1_)), (h_p1_settings, .inl (cI, 5, .inl f_p1_settings)), (h_p1_ideal, .inl (cI, 12, .inl f_p1_ideal))] := hD
  refine lv_aload_n hx hb dX5_readFrom_10 rfl (lv_at hl 0 rfl) ?_
  refine lv_iconst (v := 0) hx hb dX5_readFrom_11 (by decide) ?_
  refine put_f (D := D) (ci := 5) (v := .int 0) (ty := .int) (C := RX5) (T := TX5) (N := 11) hx hb hw inAX5 tyX5 tyX5_ok nmX5 hown hK hP hD hS 5 rfl rfl 9 (by decide) (hw _ q_173) (fun _ h9 => h9) rfl (by decide +kernel) rfl rfl dX5_readFrom_12 (fun H locs F15 eF15 hP hD hS => ?_)
  have hP : va_P D vwCl [(p0, .inr (6, vL 12 F_p0_)), (h_p0_bytes, .inl (cB, 940, .inl f_p0_bytes)), (h_p0_wordNames, .inl (cJ, 23, .inr (.inl f_p0_wordNames))), (h_p1_manName, .inl (cJ, 12, .inr (.inl f_p1_manName))), (h_p1_runnerName, .inl (cJ, 6, .inr (.inl f_p1_runnerName))), (h0, .inr (5, vL 11 F15)), (h_crew, .inl (cI, 4, .inl g4)), (h_yard, .inl (cI, 4, .inl g5)), (h_high, .inl (cI, 12, .inl g6)), (p1, .inr (1, vL 18 F_p1_)), (h_p1_settings, .inl (cI, 5, .inl f_p1_settings)), (h_p1_ideal, .inl (cI, 12, .inl f_p1_ideal))] H := hP
  have hD : va_D A [(p0, .inr (6, vL 12 F_p0_)), (h_p0_bytes, .inl (cB, 940, .inl f_p0_bytes)), (h_p0_wordNames, .inl (cJ, 23, .inr (.inl f_p0_wordNames))), (h_p1_manName, .inl (cJ, 12, .inr (.inl f_p1_manName))), (h_p1_runnerName, .inl (cJ, 6, .inr (.inl f_p1_runnerName))), (h0, .inr (5, vL 11 F15)), (h_crew, .inl (cI, 4, .inl g4)), (h_yard, .inl (cI, 4, .inl g5)), (h_high, .inl (cI, 12, .inl g6)), (p1, .inr (1, vL 18 F_p1_)), (h_p1_settings, .inl (cI, 5, .inl f_p1_settings)), (h_p1_ideal, .inl (cI, 12, .inl f_p1_ideal))] := hD
  refine lv_aload_n hx hb dX5_readFrom_15 rfl (lv_at hl 0 rfl) ?_
  refine lv_iconst (v := 0) hx hb dX5_readFrom_16 (by decide) ?_
  refine put_f (D := D) (ci := 5) (v := .int 0) (ty := .int) (C := RX5) (T := TX5) (N := 11) hx hb hw inAX5 tyX5 tyX5_ok nmX5 hown hK hP hD hS 5 rfl rfl 10 (by decide) (hw _ q_174) (fun _ h9 => h9) rfl (by decide +kernel) rfl rfl dX5_readFrom_17 (fun H locs F16 eF16 hP hD hS => ?_)
  have hP : va_P D vwCl [(p0, .inr (6, vL 12 F_p0_)), (h_p0_bytes, .inl (cB, 940, .inl f_p0_bytes)), (h_p0_wordNames, .inl (cJ, 23, .inr (.inl f_p0_wordNames))), (h_p1_manName, .inl (cJ, 12, .inr (.inl f_p1_manName))), (h_p1_runnerName, .inl (cJ, 6, .inr (.inl f_p1_runnerName))), (h0, .inr (5, vL 11 F16)), (h_crew, .inl (cI, 4, .inl g4)), (h_yard, .inl (cI, 4, .inl g5)), (h_high, .inl (cI, 12, .inl g6)), (p1, .inr (1, vL 18 F_p1_)), (h_p1_settings, .inl (cI, 5, .inl f_p1_settings)), (h_p1_ideal, .inl (cI, 12, .inl f_p1_ideal))] H := hP
  have hD : va_D A [(p0, .inr (6, vL 12 F_p0_)), (h_p0_bytes, .inl (cB, 940, .inl f_p0_bytes)), (h_p0_wordNames, .inl (cJ, 23, .inr (.inl f_p0_wordNames))), (h_p1_manName, .inl (cJ, 12, .inr (.inl f_p1_manName))), (h_p1_runnerName, .inl (cJ, 6, .inr (.inl f_p1_runnerName))), (h0, .inr (5, vL 11 F16)), (h_crew, .inl (cI, 4, .inl g4)), (h_yard, .inl (cI, 4, .inl g5)), (h_high, .inl (cI, 12, .inl g6)), (p1, .inr (1, vL 18 F_p1_)), (h_p1_settings, .inl (cI, 5, .inl f_p1_settings)), (h_p1_ideal, .inl (cI, 12, .inl f_p1_ideal))] := hD
  refine lv_aload_n hx hb dX5_readFrom_20 rfl (lv_at hl 0 rfl) ?_
  refine lv_iconst (v := 0) hx hb dX5_readFrom_21 (by decide) ?_
  refine put_f (D := D) (ci := 5) (v := .int 0) (ty := .int) (C := RX5) (T := TX5) (N := 11) hx hb hw inAX5 tyX5 tyX5_ok nmX5 hown hK hP hD hS 5 rfl rfl 7 (by decide) (hw _ q_170) (fun _ h9 => h9) rfl (by decide +kernel) rfl rfl dX5_readFrom_22 (fun H locs F17 eF17 hP hD hS => ?_)
  have hP : va_P D vwCl [(p0, .inr (6, vL 12 F_p0_)), (h_p0_bytes, .inl (cB, 940, .inl f_p0_bytes)), (h_p0_wordNames, .inl (cJ, 23, .inr (.inl f_p0_wordNames))), (h_p1_manName, .inl (cJ, 12, .inr (.inl f_p1_manName))), (h_p1_runnerName, .inl (cJ, 6, .inr (.inl f_p1_runnerName))), (h0, .inr (5, vL 11 F17)), (h_crew, .inl (cI, 4, .inl g4)), (h_yard, .inl (cI, 4, .inl g5)), (h_high, .inl (cI, 12, .inl g6)), (p1, .inr (1, vL 18 F_p1_)), (h_p1_settings, .inl (cI, 5, .inl f_p1_settings)), (h_p1_ideal, .inl (cI, 12, .inl f_p1_ideal))] H := hP
  have hD : va_D A [(p0, .inr (6, vL 12 F_p0_)), (h_p0_bytes, .inl (cB, 940, .inl f_p0_bytes)), (h_p0_wordNames, .inl (cJ, 23, .inr (.inl f_p0_wordNames))), (h_p1_manName, .inl (cJ, 12, .inr (.inl f_p1_manName))), (h_p1_runnerName, .inl (cJ, 6, .inr (.inl f_p1_runnerName))), (h0, .inr (5, vL 11 F17)), (h_crew, .inl (cI, 4, .inl g4)), (h_yard, .inl (cI, 4, .inl g5)), (h_high, .inl (cI, 12, .inl g6)), (p1, .inr (1, vL 18 F_p1_)), (h_p1_settings, .inl (cI, 5, .inl f_p1_settings)), (h_p1_ideal, .inl (cI, 12, .inl f_p1_ideal))] := hD
  have n39 : F14 3 = .int 0 := (get_ne eF14 (by decide) t8)
  have n40 : F15 3 = .int 0 := (get_ne eF15 (by decide) n39)
  have n41 : F16 3 = .int 0 := (get_ne eF16 (by decide) n40)
  have n42 : F17 3 = .int 0 := (get_ne eF17 (by decide) n41)
  have n43 : F14 4 = .int 0 := (get_ne eF14 (by decide) t9)
  have n44 : F15 4 = .int 0 := (get_ne eF15 (by decide) n43)
  have n45 : F16 4 = .int 0 := (get_ne eF16 (by decide) n44)
  have n46 : F17 4 = .int 0 := (get_ne eF17 (by decide) n45)
  have n47 : F14 5 = .int y3 := (get_ne eF14 (by decide) t10)
  have n48 : F15 5 = .int y3 := (get_ne eF15 (by decide) n47)
  have n49 : F16 5 = .int y3 := (get_ne eF16 (by decide) n48)
  have n50 : F17 5 = .int y3 := (get_ne eF17 (by decide) n49)
  have n51 : F14 6 = .int 1 := (get_ne eF14 (by decide) t12)
  have n52 : F15 6 = .int 1 := (get_ne eF15 (by decide) n51)
  have n53 : F16 6 = .int 1 := (get_ne eF16 (by decide) n52)
  have n54 : F17 6 = .int 1 := (get_ne eF17 (by decide) n53)
  have n55 : F15 8 = .int 0 := (get_ne eF15 (by decide) (get_eq eF14))
  have n56 : F16 8 = .int 0 := (get_ne eF16 (by decide) n55)
  have n57 : F17 8 = .int 0 := (get_ne eF17 (by decide) n56)
  have n58 : F16 9 = .int 0 := (get_ne eF16 (by decide) (get_eq eF15))
  have n59 : F17 9 = .int 0 := (get_ne eF17 (by decide) n58)
  have n60 : F17 10 = .int 0 := (get_ne eF17 (by decide) (get_eq eF16))
  refine mloop (α := (Nat → Value) × (Int32) × (Int32) × (Int32) × (Int64) × (Int32) × (Int32) × (Int32) × (Int32) × (Nat → Value) × (Int32) × (Int32) × (Int32) × (Int32) × (Int32) × (Int32) × (Int32) × (Int32) × (Nat → Int32) × (Nat → Int32) × (Nat → Int32)) (nL := 3) (D := D) (A := A) (H0 := s.heap) (fun a => (400 - a.2.2.2.2.2.2.2.2.2.2.2.2.2.2.1.toInt).toNat) (fun a => SAME [2, 3, 4, 5, 6, 7, 8, 10] F_p0_ a.1 ∧ a.1 2 = .int a.2.1 ∧ a.1 3 = .int a.2.2.1 ∧ a.1 4 = .int a.2.2.2.1 ∧ a.1 5 = .long a.2.2.2.2.1 ∧ a.1 6 = .int a.2.2.2.2.2.1 ∧ a.1 7 = .int a.2.2.2.2.2.2.1 ∧ a.1 8 = .int a.2.2.2.2.2.2.2.1 ∧ a.1 10 = .int a.2.2.2.2.2.2.2.2.1 ∧ IR 0 940 a.2.2.2.2.2.2.2.2.1 ∧ SAME [3, 4, 5, 6, 7, 8, 9, 10] F17 a.2.2.2.2.2.2.2.2.2.1 ∧ a.2.2.2.2.2.2.2.2.2.1 3 = .int a.2.2.2.2.2.2.2.2.2.2.1 ∧ a.2.2.2.2.2.2.2.2.2.1 4 = .int a.2.2.2.2.2.2.2.2.2.2.2.1 ∧ a.2.2.2.2.2.2.2.2.2.1 5 = .int a.2.2.2.2.2.2.2.2.2.2.2.2.1 ∧ a.2.2.2.2.2.2.2.2.2.1 6 = .int a.2.2.2.2.2.2.2.2.2.2.2.2.2.1 ∧ a.2.2.2.2.2.2.2.2.2.1 7 = .int a.2.2.2.2.2.2.2.2.2.2.2.2.2.2.1 ∧ a.2.2.2.2.2.2.2.2.2.1 8 = .int a.2.2.2.2.2.2.2.2.2.2.2.2.2.2.2.1 ∧ a.2.2.2.2.2.2.2.2.2.1 9 = .int a.2.2.2.2.2.2.2.2.2.2.2.2.2.2.2.2.1 ∧ a.2.2.2.2.2.2.2.2.2.1 10 = .int a.2.2.2.2.2.2.2.2.2.2.2.2.2.2.2.2.2.1 ∧ IR 0 1 a.2.2.2.2.2.2.2.2.2.2.1 ∧ IR 0 400 a.2.2.2.2.2.2.2.2.2.2.2.2.2.2.1 ∧ SG 0 3 0 11 a.2.2.2.2.2.2.2.2.2.2.2.2.2.2.2.2.2.2.1) (fun a => [(p0, .inr (6, vL 12 a.1)), (h_p0_bytes, .inl (cB, 940, .inl f_p0_bytes)), (h_p0_wordNames, .inl (cJ, 23, .inr (.inl f_p0_wordNames))), (h_p1_manName, .inl (cJ, 12, .inr (.inl f_p1_manName))), (h_p1_runnerName, .inl (cJ, 6, .inr (.inl f_p1_runnerName))), (h0, .inr (5, vL 11 a.2.2.2.2.2.2.2.2.2.1)), (h_crew, .inl (cI, 4, .inl a.2.2.2.2.2.2.2.2.2.2.2.2.2.2.2.2.2.2.1)), (h_yard, .inl (cI, 4, .inl a.2.2.2.2.2.2.2.2.2.2.2.2.2.2.2.2.2.2.2.1)), (h_high, .inl (cI, 12, .inl a.2.2.2.2.2.2.2.2.2.2.2.2.2.2.2.2.2.2.2.2)), (p1, .inr (1, vL 18 F_p1_)), (h_p1_settings, .inl (cI, 5, .inl f_p1_settings)), (h_p1_ideal, .inl (cI, 12, .inl f_p1_ideal))]) (fun a => [(0, .ref h0), (1, .ref p0), (2, .ref p1)]) (fun H locs ls => W p l e ({ frames := 5, cells := 0, slots := 0, locals := 112 } : Room) s m [.ref h0, .ref p0, .ref p1].toArray below meth c H locs 0 0 (MQ below (va_Qi (fun (r : Int32) (u : va_W) => ∃ (Gh : Nat → Value) (y_crewed : Int32) (y_lead : Int32) (y_runner : Int32) (y_number : Int32) (y_lines : Int32) (y_linesTold : Int32) (y_jumpsTold : Int32) (y_heightsTold : Int32) (G_p0_ : Nat → Value) (y_p0_kind : Int32) (y_p0_place : Int32) (y_p0_value : Int32) (y_p0_name : Int64) (y_p0_number : Int32) (y_p0_faultKind : Int32) (y_p0_faultPlace : Int32) (y_p0_at : Int32) (g_crew : Nat → Int32) (g_yard : Nat → Int32) (g_high : Nat → Int32), SAME [3, 4, 5, 6, 7, 8, 9, 10] Fh Gh ∧ Gh 3 = .int y_crewed ∧ IR 0 1 y_crewed ∧ Gh 4 = .int y_lead ∧ Gh 5 = .int y_runner ∧ Gh 6 = .int y_number ∧ Gh 7 = .int y_lines ∧ IR 0 400 y_lines ∧ Gh 8 = .int y_linesTold ∧ Gh 9 = .int y_jumpsTold ∧ Gh 10 = .int y_heightsTold ∧ SAME [2, 3, 4, 5, 6, 7, 8, 10] F_p0_ G_p0_ ∧ G_p0_ 2 = .int y_p0_kind ∧ G_p0_ 3 = .int y_p0_place ∧ G_p0_ 4 = .int y_p0_value ∧ G_p0_ 5 = .long y_p0_name ∧ G_p0_ 6 = .int y_p0_number ∧ G_p0_ 7 = .int y_p0_faultKind ∧ G_p0_ 8 = .int y_p0_faultPlace ∧ G_p0_ 10 = .int y_p0_at ∧ IR 0 940 y_p0_at ∧ SG 0 3 0 11 g_crew ∧ IR 0 1 r ∧ u = [(h0, .inr (5, vL 11 Gh)), (h_crew, .inl (cI, 4, .inl g_crew)), (h_yard, .inl (cI, 4, .inl g_yard)), (h_high, .inl (cI, 12, .inl g_high)), (p0, .inr (6, vL 12 G_p0_)), (h_p0_bytes, .inl (cB, 940, .inl f_p0_bytes)), (h_p0_wordNames, .inl (cJ, 23, .inr (.inl f_p0_wordNames))), (p1, .inr (1, vL 18 F_p1_)), (h_p1_settings, .inl (cI, 5, .inl f_p1_settings)), (h_p1_manName, .inl (cJ, 12, .inr (.inl f_p1_manName))), (h_p1_ideal, .inl (cI, 12, .inl f_p1_ideal)), (h_p1_runnerName, .inl (cJ, 6, .inr (.inl f_p1_runnerName)))]) (PO D A) A) [.ref h0, .ref p0, .ref p1].toArray s 0 0 A) (F0 m 25 ls [])) ?_ (F_p0_, x_p0_kind, x_p0_place, x_p0_value, x_p0_name, x_p0_number, x_p0_faultKind, x_p0_faultPlace, x_p0_at, F17, 0, 0, y3, 1, 0, 0, 0, 0, g4, g5, g6) ⟨SAME.rf, e_p0_kind, e_p0_place, e_p0_value, e_p0_name, e_p0_number, e_p0_faultKind, e_p0_faultPlace, e_p0_at, i_x_p0_at, SAME.rf, n42, n46, n50, n54, (get_eq eF17), n57, n59, n60, ⟨by decide, by decide⟩, ⟨by decide, by decide⟩, t13⟩ _ _ _ hP hD hS hl
  rintro ⟨G18, u19, u20, u21, u22, u23, u24, u25, u26, G27, u28, u29, u30, u31, u32, u33, u34, u35, w36, w37, w38⟩ ⟨i61, i62, i63, i64, i65, i66, i67, i68, i69, i70, i71, i72, i73, i74, i75, i76, i77, i78, i79, i80, i81, i82⟩ ih H locs ls hP hD hS hl
  have i70 : 0 ≤ u26.toInt ∧ u26.toInt ≤ 940 := i70
  have i80 : 0 ≤ u28.toInt ∧ u28.toInt ≤ 1 := i80
  have i81 : 0 ≤ u32.toInt ∧ u32.toInt ≤ 400 := i81
  have hP : va_P D vwCl [(p0, .inr (6, vL 12 G18)), (h_p0_bytes, .inl (cB, 940, .inl f_p0_bytes)), (h_p0_wordNames, .inl (cJ, 23, .inr (.inl f_p0_wordNames))), (h_p1_manName, .inl (cJ, 12, .inr (.inl f_p1_manName))), (h_p1_runnerName, .inl (cJ, 6, .inr (.inl f_p1_runnerName))), (h0, .inr (5, vL 11 G27)), (h_crew, .inl (cI, 4, .inl w36)), (h_yard, .inl (cI, 4, .inl w37)), (h_high, .inl (cI, 12, .inl w38)), (p1, .inr (1, vL 18 F_p1_)), (h_p1_settings, .inl (cI, 5, .inl f_p1_settings)), (h_p1_ideal, .inl (cI, 12, .inl f_p1_ideal))] H := hP
  have hD : va_D A [(p0, .inr (6, vL 12 G18)), (h_p0_bytes, .inl (cB, 940, .inl f_p0_bytes)), (h_p0_wordNames, .inl (cJ, 23, .inr (.inl f_p0_wordNames))), (h_p1_manName, .inl (cJ, 12, .inr (.inl f_p1_manName))), (h_p1_runnerName, .inl (cJ, 6, .inr (.inl f_p1_runnerName))), (h0, .inr (5, vL 11 G27)), (h_crew, .inl (cI, 4, .inl w36)), (h_yard, .inl (cI, 4, .inl w37)), (h_high, .inl (cI, 12, .inl w38)), (p1, .inr (1, vL 18 F_p1_)), (h_p1_settings, .inl (cI, 5, .inl f_p1_settings)), (h_p1_ideal, .inl (cI, 12, .inl f_p1_ideal))] := hD
  have hl : lv_has ls 3 [(0, .ref h0), (1, .ref p0), (2, .ref p1)] := hl
  refine lv_aload_n hx hb dX5_readFrom_25 rfl (lv_at hl 0 rfl) ?_
  refine get_f (D := D) (ci := 5) (v := .int u32) (C := RX5) (T := TX5) (N := 11) hx hb hw inAX5 hown hK hP 5 rfl rfl 7 (by decide) (hw _ q_170) (fun _ h9 => h9) i76 dX5_readFrom_26 ?_
  refine lv_sipush (v := 400) hx hb dX5_readFrom_29 (by decide) ?_
  refine lv_icmp_ge (tgt := 75) hx hb dX5_readFrom_32 (by decide) (fun c83 => ?_) (fun c83 => ?_)
  · have dc83 : 400 ≤ u32.toInt := le_i (a := 400) (b := u32.toInt) rfl rfl c83
    have k84 : 400 ≤ u32.toInt ∧ u32.toInt ≤ 400 := ⟨Int.le_trans (Int.le_refl _) dc83, i81.2⟩
    refine lv_iconst (v := 1) hx hb dX5_readFrom_75 (by decide) ?_
    exact ret_i (v := 1) hx hb hr hlocks hS (hP.sub (ws' := [(h0, .inr (5, vL 11 G27)), (h_crew, .inl (cI, 4, .inl w36)), (h_yard, .inl (cI, 4, .inl w37)), (h_high, .inl (cI, 12, .inl w38)), (p0, .inr (6, vL 12 G18)), (h_p0_bytes, .inl (cB, 940, .inl f_p0_bytes)), (h_p0_wordNames, .inl (cJ, 23, .inr (.inl f_p0_wordNames))), (p1, .inr (1, vL 18 F_p1_)), (h_p1_settings, .inl (cI, 5, .inl f_p1_settings)), (h_p1_manName, .inl (cJ, 12, .inr (.inl f_p1_manName))), (h_p1_ideal, .inl (cI, 12, .inl f_p1_ideal)), (h_p1_runnerName, .inl (cJ, 6, .inr (.inl f_p1_runnerName)))]) [5, 6, 7, 8, 0, 1, 2, 9, 10, 3, 11, 4] rfl) (hD.sub (ws' := [(h0, .inr (5, vL 11 G27)), (h_crew, .inl (cI, 4, .inl w36)), (h_yard, .inl (cI, 4, .inl w37)), (h_high, .inl (cI, 12, .inl w38)), (p0, .inr (6, vL 12 G18)), (h_p0_bytes, .inl (cB, 940, .inl f_p0_bytes)), (h_p0_wordNames, .inl (cJ, 23, .inr (.inl f_p0_wordNames))), (p1, .inr (1, vL 18 F_p1_)), (h_p1_settings, .inl (cI, 5, .inl f_p1_settings)), (h_p1_manName, .inl (cJ, 12, .inr (.inl f_p1_manName))), (h_p1_ideal, .inl (cI, 12, .inl f_p1_ideal)), (h_p1_runnerName, .inl (cJ, 6, .inr (.inl f_p1_runnerName)))]) [5, 6, 7, 8, 0, 1, 2, 9, 10, 3, 11, 4] (by decide) rfl) dX5_readFrom_76 rfl (Nat.le_of_ble_eq_true rfl) (Nat.le_of_ble_eq_true rfl) ⟨G27, u28, u29, u30, u31, u32, u33, u34, u35, G18, u19, u20, u21, u22, u23, u24, u25, u26, w36, w37, w38, (SAME.tr (SAME.up eF17 (SAME.up eF16 (SAME.up eF15 (SAME.up eF14 (SAME.tr SAME.rf t7 (by decide)) (by decide)) (by decide)) (by decide)) (by decide)) i71 (by decide)), i72, i80, i73, i74, i75, i76, (ir_wk k84 (by decide) (by decide)), i77, i78, i79, (SAME.tr SAME.rf i61 (by decide)), i62, i63, i64, i65, i66, i67, i68, i69, i70, i82, ⟨by decide, by decide⟩, rfl⟩
  · have dc83 : u32.toInt < 400 := nle_i (a := 400) (b := u32.toInt) rfl rfl c83
    have k85 : 0 ≤ u32.toInt ∧ u32.toInt ≤ 399 := ⟨i81.1, up_lt dc83 (Int.le_refl _) (by decide)⟩
    refine lv_aload_n hx hb dX5_readFrom_35 rfl (lv_at hl 1 rfl) ?_
    refine get_f (D := D) (ci := 6) (v := .int u19) (C := RX6) (T := TX6) (N := 12) hx hb hw inAX6 hown hK hP 0 rfl rfl 2 (by decide) (hw _ q_94) (fun _ h9 => h9) i62 dX5_readFrom_36 ?_
    refine lv_if_eq (tgt := 75) hx hb dX5_readFrom_39 (by decide) (fun c86 => ?_) (fun c86 => ?_)
    · have dc86 : u19.toInt = 0 := eq_i (a := u19.toInt) (b := 0) rfl rfl c86
      have k87 : 0 ≤ u19.toInt ∧ u19.toInt ≤ 0 := ⟨Int.le_trans (Int.le_refl _) (Int.le_of_eq dc86.symm), Int.le_trans (Int.le_of_eq dc86) (Int.le_refl _)⟩
      refine lv_iconst (v := 1) hx hb dX5_readFrom_75 (by decide) ?_
      exact ret_i (v := 1) hx hb hr hlocks hS (hP.sub (ws' := [(h0, .inr (5, vL 11 G27)), (h_crew, .inl (cI, 4, .inl w36)), (h_yard, .inl (cI, 4, .inl w37)), (h_high, .inl (cI, 12, .inl w38)), (p0, .inr (6, vL 12 G18)), (h_p0_bytes, .inl (cB, 940, .inl f_p0_bytes)), (h_p0_wordNames, .inl (cJ, 23, .inr (.inl f_p0_wordNames))), (p1, .inr (1, vL 18 F_p1_)), (h_p1_settings, .inl (cI, 5, .inl f_p1_settings)), (h_p1_manName, .inl (cJ, 12, .inr (.inl f_p1_manName))), (h_p1_ideal, .inl (cI, 12, .inl f_p1_ideal)), (h_p1_runnerName, .inl (cJ, 6, .inr (.inl f_p1_runnerName)))]) [5, 6, 7, 8, 0, 1, 2, 9, 10, 3, 11, 4] rfl) (hD.sub (ws' := [(h0, .inr (5, vL 11 G27)), (h_crew, .inl (cI, 4, .inl w36)), (h_yard, .inl (cI, 4, .inl w37)), (h_high, .inl (cI, 12, .inl w38)), (p0, .inr (6, vL 12 G18)), (h_p0_bytes, .inl (cB, 940, .inl f_p0_bytes)), (h_p0_wordNames, .inl (cJ, 23, .inr (.inl f_p0_wordNames))), (p1, .inr (1, vL 18 F_p1_)), (h_p1_settings, .inl (cI, 5, .inl f_p1_settings)), (h_p1_manName, .inl (cJ, 12, .inr (.inl f_p1_manName))), (h_p1_ideal, .inl (cI, 12, .inl f_p1_ideal)), (h_p1_runnerName, .inl (cJ, 6, .inr (.inl f_p1_runnerName)))]) [5, 6, 7, 8, 0, 1, 2, 9, 10, 3, 11, 4] (by decide) rfl) dX5_readFrom_76 rfl (Nat.le_of_ble_eq_true rfl) (Nat.le_of_ble_eq_true rfl) ⟨G27, u28, u29, u30, u31, u32, u33, u34, u35, G18, u19, u20, u21, u22, u23, u24, u25, u26, w36, w37, w38, (SAME.tr (SAME.up eF17 (SAME.up eF16 (SAME.up eF15 (SAME.up eF14 (SAME.tr SAME.rf t7 (by decide)) (by decide)) (by decide)) (by decide)) (by decide)) i71 (by decide)), i72, i80, i73, i74, i75, i76, (ir_wk k85 (by decide) (by decide)), i77, i78, i79, (SAME.tr SAME.rf i61 (by decide)), i62, i63, i64, i65, i66, i67, i68, i69, i70, i82, ⟨by decide, by decide⟩, rfl⟩
    · have dc86 : u19.toInt ≠ 0 := ne_i (a := u19.toInt) (b := 0) rfl rfl c86
      refine lv_aload_n hx hb dX5_readFrom_42 rfl (lv_at hl 0 rfl) ?_
      refine lv_aload_n hx hb dX5_readFrom_43 rfl (lv_at hl 1 rfl) ?_
      refine lv_aload_n hx hb dX5_readFrom_44 rfl (lv_at hl 2 rfl) ?_
      have n88 : F2 0 = .ref h_crew := (SAME.at t7 (by decide) e_crew)
      have n89 : F14 0 = .ref h_crew := (get_ne eF14 (by decide) n88)
      have n90 : F15 0 = .ref h_crew := (get_ne eF15 (by decide) n89)
      have n91 : F16 0 = .ref h_crew := (get_ne eF16 (by decide) n90)
      have n92 : F17 0 = .ref h_crew := (get_ne eF17 (by decide) n91)
      have n93 : G27 0 = .ref h_crew := (SAME.at i71 (by decide) n92)
      have n94 : F2 1 = .ref h_yard := (SAME.at t7 (by decide) e_yard)
      have n95 : F14 1 = .ref h_yard := (get_ne eF14 (by decide) n94)
      have n96 : F15 1 = .ref h_yard := (get_ne eF15 (by decide) n95)
      have n97 : F16 1 = .ref h_yard := (get_ne eF16 (by decide) n96)
      have n98 : F17 1 = .ref h_yard := (get_ne eF17 (by decide) n97)
      have n99 : G27 1 = .ref h_yard := (SAME.at i71 (by decide) n98)
      have n100 : F2 2 = .ref h_high := (SAME.at t7 (by decide) e_high)
      have n101 : F14 2 = .ref h_high := (get_ne eF14 (by decide) n100)
      have n102 : F15 2 = .ref h_high := (get_ne eF15 (by decide) n101)
      have n103 : F16 2 = .ref h_high := (get_ne eF16 (by decide) n102)
      have n104 : F17 2 = .ref h_high := (get_ne eF17 (by decide) n103)
      have n105 : G27 2 = .ref h_high := (SAME.at i71 (by decide) n104)
      have n106 : G18 0 = .ref h_p0_bytes := (SAME.at i61 (by decide) e_p0_bytes)
      have n107 : G18 1 = .int x_p0_length := (SAME.at i61 (by decide) e_p0_length)
      have n108 : G18 9 = .ref h_p0_wordNames := (SAME.at i61 (by decide) e_p0_wordNames)
      have n109 : G18 11 = .int x_p0_mostBytes := (SAME.at i61 (by decide) e_p0_mostBytes)
      refine call_Vi (wr := [(h_p1_ideal, .inl (cI, 12, .inl f_p1_ideal))]) (As := [.ref p0, .ref p1]) (rest := []) hx hb hml hown hw (m_X5_readLine l D cI cJ cB cP cM cZ h0 h_crew h_yard h_high p0 h_p0_bytes h_p0_wordNames p1 h_p1_settings h_p1_manName h_p1_runnerName G27 u28 u29 u30 u31 u33 u34 u35 w36 w37 w38 G18 x_p0_length u19 u20 u21 u22 u23 u24 u25 u26 x_p0_mostBytes f_p0_bytes f_p0_wordNames F_p1_ x_p1_men x_p1_bends x_p1_runners f_p1_settings f_p1_manName f_p1_runnerName _ n93 n99 n105 i72 i80 i73 i74 i75 i77 i78 i79 i82 n106 n107 i_x_p0_length i62 i63 i64 i65 i66 i67 i68 n108 i69 i70 n109 e_p1_settings e_p1_manName e_p1_runnerName e_p1_men i_x_p1_men e_p1_bends i_x_p1_bends e_p1_runners i_x_p1_runners) wV_X5_83_X5_readLine dX5_readFrom_45 hK hP hD hS hA [5, 6, 7, 8, 0, 1, 2, 9, 10, 3, 4] [11] rfl rfl (by decide) (by decide) (by decide) 0 5 rfl rfl GG.fb hG.at hl.1 rfl (Nat.le_of_ble_eq_true rfl) ⟨(Nat.le_of_ble_eq_true rfl), (Nat.le_of_ble_eq_true rfl)⟩ ⟨(Nat.le_of_ble_eq_true rfl), (Nat.le_of_ble_eq_true rfl)⟩ (fun r110 u H locs hp hP hD hS => ?_)
      obtain ⟨F111, y112, y113, y114, y115, y116, y117, y118, F119, y120, y121, y122, y123, y124, y125, y126, y127, g128, g129, g130, t131, t132, t133, t134, t135, t136, t137, t138, t139, t140, t141, t142, t143, t144, t145, t146, t147, t148, t149, t150, t151, rfl⟩ := hp
      have hP : va_P D vwCl [(h_p1_ideal, .inl (cI, 12, .inl f_p1_ideal)), (h0, .inr (5, vL 11 F111)), (h_crew, .inl (cI, 4, .inl g128)), (h_yard, .inl (cI, 4, .inl g129)), (h_high, .inl (cI, 12, .inl g130)), (p0, .inr (6, vL 12 F119)), (h_p0_bytes, .inl (cB, 940, .inl f_p0_bytes)), (h_p0_wordNames, .inl (cJ, 23, .inr (.inl f_p0_wordNames))), (p1, .inr (1, vL 18 F_p1_)), (h_p1_settings, .inl (cI, 5, .inl f_p1_settings)), (h_p1_manName, .inl (cJ, 12, .inr (.inl f_p1_manName))), (h_p1_runnerName, .inl (cJ, 6, .inr (.inl f_p1_runnerName)))] H := hP
      have hD : va_D A [(h_p1_ideal, .inl (cI, 12, .inl f_p1_ideal)), (h0, .inr (5, vL 11 F111)), (h_crew, .inl (cI, 4, .inl g128)), (h_yard, .inl (cI, 4, .inl g129)), (h_high, .inl (cI, 12, .inl g130)), (p0, .inr (6, vL 12 F119)), (h_p0_bytes, .inl (cB, 940, .inl f_p0_bytes)), (h_p0_wordNames, .inl (cJ, 23, .inr (.inl f_p0_wordNames))), (p1, .inr (1, vL 18 F_p1_)), (h_p1_settings, .inl (cI, 5, .inl f_p1_settings)), (h_p1_manName, .inl (cJ, 12, .inr (.inl f_p1_manName))), (h_p1_runnerName, .inl (cJ, 6, .inr (.inl f_p1_runnerName)))] := hD
      refine W.widen (k := 0) (n := 0) (Nat.le_of_ble_eq_true rfl) (Nat.le_of_ble_eq_true rfl) ?_
      refine lv_if_eq (tgt := 60) hx hb dX5_readFrom_48 (by decide) (fun c152 => ?_) (fun c152 => ?_)
      · have dc152 : r110.toInt = 0 := eq_i (a := r110.toInt) (b := 0) rfl rfl c152
        have k153 : 0 ≤ r110.toInt ∧ r110.toInt ≤ 0 := ⟨t151.1, Int.le_trans (Int.le_of_eq dc152) (Int.le_refl _)⟩
        refine lv_iconst (v := 0) hx hb dX5_readFrom_60 (by decide) ?_
        exact ret_i (v := 0) hx hb hr hlocks hS (hP.sub (ws' := [(h0, .inr (5, vL 11 F111)), (h_crew, .inl (cI, 4, .inl g128)), (h_yard, .inl (cI, 4, .inl g129)), (h_high, .inl (cI, 12, .inl g130)), (p0, .inr (6, vL 12 F119)), (h_p0_bytes, .inl (cB, 940, .inl f_p0_bytes)), (h_p0_wordNames, .inl (cJ, 23, .inr (.inl f_p0_wordNames))), (p1, .inr (1, vL 18 F_p1_)), (h_p1_settings, .inl (cI, 5, .inl f_p1_settings)), (h_p1_manName, .inl (cJ, 12, .inr (.inl f_p1_manName))), (h_p1_ideal, .inl (cI, 12, .inl f_p1_ideal)), (h_p1_runnerName, .inl (cJ, 6, .inr (.inl f_p1_runnerName)))]) [1, 2, 3, 4, 5, 6, 7, 8, 9, 10, 0, 11] rfl) (hD.sub (ws' := [(h0, .inr (5, vL 11 F111)), (h_crew, .inl (cI, 4, .inl g128)), (h_yard, .inl (cI, 4, .inl g129)), (h_high, .inl (cI, 12, .inl g130)), (p0, .inr (6, vL 12 F119)), (h_p0_bytes, .inl (cB, 940, .inl f_p0_bytes)), (h_p0_wordNames, .inl (cJ, 23, .inr (.inl f_p0_wordNames))), (p1, .inr (1, vL 18 F_p1_)), (h_p1_settings, .inl (cI, 5, .inl f_p1_settings)), (h_p1_manName, .inl (cJ, 12, .inr (.inl f_p1_manName))), (h_p1_ideal, .inl (cI, 12, .inl f_p1_ideal)), (h_p1_runnerName, .inl (cJ, 6, .inr (.inl f_p1_runnerName)))]) [1, 2, 3, 4, 5, 6, 7, 8, 9, 10, 0, 11] (by decide) rfl) dX5_readFrom_61 rfl (Nat.le_of_ble_eq_true rfl) (Nat.le_of_ble_eq_true rfl) ⟨F111, y112, y113, y114, y115, u32, y116, y117, y118, F119, y120, y121, y122, y123, y124, y125, y126, y127, g128, g129, g130, (SAME.tr (SAME.tr (SAME.up eF17 (SAME.up eF16 (SAME.up eF15 (SAME.up eF14 (SAME.tr SAME.rf t7 (by decide)) (by decide)) (by decide)) (by decide)) (by decide)) i71 (by decide)) t131 (by decide)), t132, t133, t134, t135, t136, (SAME.at t131 (by decide) i76), (ir_wk k85 (by decide) (by decide)), t137, t138, t139, (SAME.tr (SAME.tr SAME.rf i61 (by decide)) t140 (by decide)), t141, t142, t143, t144, t145, t146, t147, t148, t149, t150, ⟨by decide, by decide⟩, rfl⟩
      · have dc152 : r110.toInt ≠ 0 := ne_i (a := r110.toInt) (b := 0) rfl rfl c152
        have k154 : 1 ≤ r110.toInt ∧ r110.toInt ≤ 1 := ⟨ne_lo dc152 t151.1 ⟨Int.le_refl _, Int.le_refl _⟩ (by decide), t151.2⟩
        refine lv_aload_n hx hb dX5_readFrom_51 rfl (lv_at hl 1 rfl) ?_
        refine lv_bipush (v := 59) hx hb dX5_readFrom_52 (by decide) ?_
        have n155 : F119 0 = .ref h_p0_bytes := (SAME.at t140 (by decide) n106)
        have n156 : F119 1 = .int x_p0_length := (SAME.at t140 (by decide) n107)
        have n157 : F119 9 = .ref h_p0_wordNames := (SAME.at t140 (by decide) n108)
        have n158 : F119 11 = .int x_p0_mostBytes := (SAME.at t140 (by decide) n109)
        refine call_Vi (wr := [(h_p1_ideal, .inl (cI, 12, .inl f_p1_ideal)), (h0, .inr (5, vL 11 F111)), (h_crew, .inl (cI, 4, .inl g128)), (h_yard, .inl (cI, 4, .inl g129)), (h_high, .inl (cI, 12, .inl g130)), (p1, .inr (1, vL 18 F_p1_)), (h_p1_settings, .inl (cI, 5, .inl f_p1_settings)), (h_p1_manName, .inl (cJ, 12, .inr (.inl f_p1_manName))), (h_p1_runnerName, .inl (cJ, 6, .inr (.inl f_p1_runnerName)))]) (As := [.int 59]) (rest := []) hx hb hml hown hw (m_X6_takeSign l D cI cJ cB cP cM cZ p0 h_p0_bytes h_p0_wordNames F119 x_p0_length y120 y121 y122 y123 y125 y126 y127 x_p0_mostBytes f_p0_bytes f_p0_wordNames 59 _ n155 n156 i_x_p0_length t141 t142 t143 t144 t146 t147 n157 t148 t149 n158) wV_X5_87_X6_takeSign dX5_readFrom_54 hK hP hD hS hA [5, 6, 7] [0, 1, 2, 3, 4, 8, 9, 10, 11] rfl rfl (by decide) (by decide) (by decide) 0 6 rfl rfl GG.fb hG.at hl.1 rfl (Nat.le_of_ble_eq_true rfl) ⟨(Nat.le_of_ble_eq_true rfl), (Nat.le_of_ble_eq_true rfl)⟩ ⟨(Nat.le_of_ble_eq_true rfl), (Nat.le_of_ble_eq_true rfl)⟩ (fun r159 u H locs hp hP hD hS => ?_)
        obtain ⟨F160, y161, y162, y163, y164, y165, y166, y167, t168, t169, t170, t171, t172, t173, t174, t175, t176, t177, rfl⟩ := hp
        have hP : va_P D vwCl [(h_p1_ideal, .inl (cI, 12, .inl f_p1_ideal)), (h0, .inr (5, vL 11 F111)), (h_crew, .inl (cI, 4, .inl g128)), (h_yard, .inl (cI, 4, .inl g129)), (h_high, .inl (cI, 12, .inl g130)), (p1, .inr (1, vL 18 F_p1_)), (h_p1_settings, .inl (cI, 5, .inl f_p1_settings)), (h_p1_manName, .inl (cJ, 12, .inr (.inl f_p1_manName))), (h_p1_runnerName, .inl (cJ, 6, .inr (.inl f_p1_runnerName))), (p0, .inr (6, vL 12 F160)), (h_p0_bytes, .inl (cB, 940, .inl f_p0_bytes)), (h_p0_wordNames, .inl (cJ, 23, .inr (.inl f_p0_wordNames)))] H := hP
        have hD : va_D A [(h_p1_ideal, .inl (cI, 12, .inl f_p1_ideal)), (h0, .inr (5, vL 11 F111)), (h_crew, .inl (cI, 4, .inl g128)), (h_yard, .inl (cI, 4, .inl g129)), (h_high, .inl (cI, 12, .inl g130)), (p1, .inr (1, vL 18 F_p1_)), (h_p1_settings, .inl (cI, 5, .inl f_p1_settings)), (h_p1_manName, .inl (cJ, 12, .inr (.inl f_p1_manName))), (h_p1_runnerName, .inl (cJ, 6, .inr (.inl f_p1_runnerName))), (p0, .inr (6, vL 12 F160)), (h_p0_bytes, .inl (cB, 940, .inl f_p0_bytes)), (h_p0_wordNames, .inl (cJ, 23, .inr (.inl f_p0_wordNames)))] := hD
        refine W.widen (k := 0) (n := 0) (Nat.le_of_ble_eq_true rfl) (Nat.le_of_ble_eq_true rfl) ?_
        refine lv_if_ne (tgt := 62) hx hb dX5_readFrom_57 (by decide) (fun c178 => ?_) (fun c178 => ?_)
        · have dc178 : r159.toInt ≠ 0 := ne_i (a := r159.toInt) (b := 0) rfl rfl c178
          have k179 : 1 ≤ r159.toInt ∧ r159.toInt ≤ 1 := ⟨ne_lo dc178 t177.1 ⟨Int.le_refl _, Int.le_refl _⟩ (by decide), t177.2⟩
          refine lv_aload_n hx hb dX5_readFrom_62 rfl (lv_at hl 0 rfl) ?_
          refine lv_dup hx hb dX5_readFrom_63 rfl ?_
          have n180 : F111 7 = .int u32 := (SAME.at t131 (by decide) i76)
          refine get_f (D := D) (ci := 5) (v := .int u32) (C := RX5) (T := TX5) (N := 11) hx hb hw inAX5 hown hK hP 1 rfl rfl 7 (by decide) (hw _ q_170) (fun _ h9 => h9) n180 dX5_readFrom_64 ?_
          refine lv_iconst (v := 1) hx hb dX5_readFrom_67 (by decide) ?_
          refine lv_iadd hx hb dX5_readFrom_68 ?_
          refine lv_topi (fun v181 ev181 => ?_)
          have bv181 : v181.toInt = u32.toInt + 1 := by rw [ev181]; exact add_k rfl rfl k85 ⟨Int.le_refl _, Int.le_refl _⟩ (by decide)
          have k182 : 1 ≤ v181.toInt ∧ v181.toInt ≤ 400 := add_r bv181 k85 ⟨Int.le_refl _, Int.le_refl _⟩ (by decide)
          refine put_f (D := D) (ci := 5) (v := .int v181) (ty := .int) (C := RX5) (T := TX5) (N := 11) hx hb hw inAX5 tyX5 tyX5_ok nmX5 hown hK hP hD hS 1 rfl rfl 7 (by decide) (hw _ q_170) (fun _ h9 => h9) rfl (by decide +kernel) rfl rfl dX5_readFrom_69 (fun H locs F183 eF183 hP hD hS => ?_)
          have hP : va_P D vwCl [(h_p1_ideal, .inl (cI, 12, .inl f_p1_ideal)), (h0, .inr (5, vL 11 F183)), (h_crew, .inl (cI, 4, .inl g128)), (h_yard, .inl (cI, 4, .inl g129)), (h_high, .inl (cI, 12, .inl g130)), (p1, .inr (1, vL 18 F_p1_)), (h_p1_settings, .inl (cI, 5, .inl f_p1_settings)), (h_p1_manName, .inl (cJ, 12, .inr (.inl f_p1_manName))), (h_p1_runnerName, .inl (cJ, 6, .inr (.inl f_p1_runnerName))), (p0, .inr (6, vL 12 F160)), (h_p0_bytes, .inl (cB, 940, .inl f_p0_bytes)), (h_p0_wordNames, .inl (cJ, 23, .inr (.inl f_p0_wordNames)))] H := hP
          have hD : va_D A [(h_p1_ideal, .inl (cI, 12, .inl f_p1_ideal)), (h0, .inr (5, vL 11 F183)), (h_crew, .inl (cI, 4, .inl g128)), (h_yard, .inl (cI, 4, .inl g129)), (h_high, .inl (cI, 12, .inl g130)), (p1, .inr (1, vL 18 F_p1_)), (h_p1_settings, .inl (cI, 5, .inl f_p1_settings)), (h_p1_manName, .inl (cJ, 12, .inr (.inl f_p1_manName))), (h_p1_runnerName, .inl (cJ, 6, .inr (.inl f_p1_runnerName))), (p0, .inr (6, vL 12 F160)), (h_p0_bytes, .inl (cB, 940, .inl f_p0_bytes)), (h_p0_wordNames, .inl (cJ, 23, .inr (.inl f_p0_wordNames)))] := hD
          refine lv_goto (tgt := 25) hx hb dX5_readFrom_72 (by decide) ?_
          have n184 : F160 6 = .int y124 := (SAME.at t168 (by decide) t145)
          have n185 : F183 3 = .int y112 := (get_ne eF183 (by decide) t132)
          have n186 : F183 4 = .int y113 := (get_ne eF183 (by decide) t134)
          have n187 : F183 5 = .int y114 := (get_ne eF183 (by decide) t135)
          have n188 : F183 6 = .int y115 := (get_ne eF183 (by decide) t136)
          have n189 : F183 8 = .int y116 := (get_ne eF183 (by decide) t137)
          have n190 : F183 9 = .int y117 := (get_ne eF183 (by decide) t138)
          have n191 : F183 10 = .int y118 := (get_ne eF183 (by decide) t139)
          exact ih (F160, y161, y162, y163, y164, y124, y165, y166, y167, F183, y112, y113, y114, y115, v181, y116, y117, y118, g128, g129, g130) ⟨(SAME.tr (SAME.tr (SAME.tr SAME.rf i61 (by decide)) t140 (by decide)) t168 (by decide)), t169, t170, t171, t172, n184, t173, t174, t175, t176, (SAME.up eF183 (SAME.tr (SAME.tr SAME.rf i71 (by decide)) t131 (by decide)) (by decide)), n185, n186, n187, n188, (get_eq eF183), n189, n190, n191, t133, (ir_wk k182 (by decide) (by decide)), t150⟩ (by show (400 - v181.toInt).toNat < (400 - u32.toInt).toNat; omega) _ _ _ (hP.sub [9, 10, 11, 7, 8, 1, 2, 3, 4, 5, 6, 0] rfl) (hD.sub [9, 10, 11, 7, 8, 1, 2, 3, 4, 5, 6, 0] (by decide) rfl) hS (lv_sub hl [0, 1, 2] rfl)
        · have dc178 : r159.toInt = 0 := eq_i (a := r159.toInt) (b := 0) rfl rfl c178
          have k192 : 0 ≤ r159.toInt ∧ r159.toInt ≤ 0 := ⟨t177.1, Int.le_trans (Int.le_of_eq dc178) (Int.le_refl _)⟩
          refine lv_iconst (v := 0) hx hb dX5_readFrom_60 (by decide) ?_
          exact ret_i (v := 0) hx hb hr hlocks hS (hP.sub (ws' := [(h0, .inr (5, vL 11 F111)), (h_crew, .inl (cI, 4, .inl g128)), (h_yard, .inl (cI, 4, .inl g129)), (h_high, .inl (cI, 12, .inl g130)), (p0, .inr (6, vL 12 F160)), (h_p0_bytes, .inl (cB, 940, .inl f_p0_bytes)), (h_p0_wordNames, .inl (cJ, 23, .inr (.inl f_p0_wordNames))), (p1, .inr (1, vL 18 F_p1_)), (h_p1_settings, .inl (cI, 5, .inl f_p1_settings)), (h_p1_manName, .inl (cJ, 12, .inr (.inl f_p1_manName))), (h_p1_ideal, .inl (cI, 12, .inl f_p1_ideal)), (h_p1_runnerName, .inl (cJ, 6, .inr (.inl f_p1_runnerName)))]) [1, 2, 3, 4, 9, 10, 11, 5, 6, 7, 0, 8] rfl) (hD.sub (ws' := [(h0, .inr (5, vL 11 F111)), (h_crew, .inl (cI, 4, .inl g128)), (h_yard, .inl (cI, 4, .inl g129)), (h_high, .inl (cI, 12, .inl g130)), (p0, .inr (6, vL 12 F160)), (h_p0_bytes, .inl (cB, 940, .inl f_p0_bytes)), (h_p0_wordNames, .inl (cJ, 23, .inr (.inl f_p0_wordNames))), (p1, .inr (1, vL 18 F_p1_)), (h_p1_settings, .inl (cI, 5, .inl f_p1_settings)), (h_p1_manName, .inl (cJ, 12, .inr (.inl f_p1_manName))), (h_p1_ideal, .inl (cI, 12, .inl f_p1_ideal)), (h_p1_runnerName, .inl (cJ, 6, .inr (.inl f_p1_runnerName)))]) [1, 2, 3, 4, 9, 10, 11, 5, 6, 7, 0, 8] (by decide) rfl) dX5_readFrom_61 rfl (Nat.le_of_ble_eq_true rfl) (Nat.le_of_ble_eq_true rfl) ⟨F111, y112, y113, y114, y115, u32, y116, y117, y118, F160, y161, y162, y163, y164, y124, y165, y166, y167, g128, g129, g130, (SAME.tr (SAME.tr (SAME.up eF17 (SAME.up eF16 (SAME.up eF15 (SAME.up eF14 (SAME.tr SAME.rf t7 (by decide)) (by decide)) (by decide)) (by decide)) (by decide)) i71 (by decide)) t131 (by decide)), t132, t133, t134, t135, t136, (SAME.at t131 (by decide) i76), (ir_wk k85 (by decide) (by decide)), t137, t138, t139, (SAME.tr (SAME.tr (SAME.tr SAME.rf i61 (by decide)) t140 (by decide)) t168 (by decide)), t169, t170, t171, t172, (SAME.at t168 (by decide) t145), t173, t174, t175, t176, t150, ⟨by decide, by decide⟩, rfl⟩
set_option maxHeartbeats 4000000 in
set_option maxRecDepth 100000 in
theorem m_X6_hasRoom (l : Launch) (D : va_G) (cI cJ cB cP cM cZ : ClassId) (h0 : Nat) (Fh : Nat → Value) (x_length : Int32) (sz : Nat) (e_length : Fh 1 = .int x_length) (i_x_length : IR 0 940 x_length) : CI l yX6_hasRoom cX6_hasRoom 1 (some .boolean) { frames := 0, cells := 0, slots := 0, locals := 0 } (GG D cI cJ cB cP cM cZ) D [(h0, .inr (6, vL 12 Fh))] sz [.ref h0] (fun (r : Int32) (u : va_W) => IR 0 1 r ∧ u = [(h0, .inr (6, vL 12 Fh))]) := by
  refine CI_mk (by decide) (Nat.le_of_ble_eq_true rfl) ?_
  intro p e s m below meth c A ls E hAe hG hsz hP hD hA hS hl
  obtain ⟨hx, hb, hr, hw, hown, hlocks, hml, hnm⟩ := E
  have hK := hG.1
  have i_x_length : 0 ≤ x_length.toInt ∧ x_length.toInt ≤ 940 := i_x_length
  have hl : lv_has ls 1 [(0, .ref h0)] := hl
  refine lv_aload_n hx hb dX6_hasRoom_0 rfl (lv_at hl 0 rfl) ?_
  refine get_f (D := D) (ci := 6) (v := .int x_length) (C := RX6) (T := TX6) (N := 12) hx hb hw inAX6 hown hK hP 0 rfl rfl 1 (by decide) (hw _ q_90) (fun _ h9 => h9) e_length dX6_hasRoom_1 ?_
  refine lv_bipush (v := 20) hx hb dX6_hasRoom_4 (by decide) ?_
  refine lv_iadd hx hb dX6_hasRoom_6 ?_
  refine lv_topi (fun v1 ev1 => ?_)
  have bv1 : v1.toInt = x_length.toInt + 20 := by rw [ev1]; exact add_k rfl rfl i_x_length ⟨Int.le_refl _, Int.le_refl _⟩ (by decide)
  have k2 : 20 ≤ v1.toInt ∧ v1.toInt ≤ 960 := add_r bv1 i_x_length ⟨Int.le_refl _, Int.le_refl _⟩ (by decide)
  refine lv_sipush (v := 940) hx hb dX6_hasRoom_7 (by decide) ?_
  refine lv_icmp_gt (tgt := 17) hx hb dX6_hasRoom_10 (by decide) (fun c3 => ?_) (fun c3 => ?_)
  · have dc3 : 940 < v1.toInt := lt_i (a := 940) (b := v1.toInt) rfl rfl c3
    have k4 : 941 ≤ v1.toInt ∧ v1.toInt ≤ 960 := ⟨lo_lt dc3 (Int.le_refl _) (by decide), k2.2⟩
    have k5 : 921 ≤ x_length.toInt ∧ x_length.toInt ≤ 940 := ⟨lin_lo bv1 k4.1 (by decide), i_x_length.2⟩
    refine lv_iconst (v := 0) hx hb dX6_hasRoom_17 (by decide) ?_
    exact ret_i (v := 0) hx hb hr hlocks hS hP hD dX6_hasRoom_18 rfl (Nat.le_of_ble_eq_true rfl) (Nat.le_of_ble_eq_true rfl) ⟨⟨by decide, by decide⟩, rfl⟩
  · have dc3 : v1.toInt ≤ 940 := nlt_i (a := 940) (b := v1.toInt) rfl rfl c3
    have k6 : 20 ≤ v1.toInt ∧ v1.toInt ≤ 940 := ⟨k2.1, Int.le_trans dc3 (Int.le_refl _)⟩
    have k7 : 0 ≤ x_length.toInt ∧ x_length.toInt ≤ 920 := ⟨i_x_length.1, lin_hi bv1 k6.2 (by decide)⟩
    refine lv_iconst (v := 1) hx hb dX6_hasRoom_13 (by decide) ?_
    refine lv_goto (tgt := 18) hx hb dX6_hasRoom_14 (by decide) ?_
    exact ret_i (v := 1) hx hb hr hlocks hS hP hD dX6_hasRoom_18 rfl (Nat.le_of_ble_eq_true rfl) (Nat.le_of_ble_eq_true rfl) ⟨⟨by decide, by decide⟩, rfl⟩
set_option maxHeartbeats 4000000 in
set_option maxRecDepth 100000 in
theorem m_X6_append (l : Launch) (D : va_G) (cI cJ cB cP cM cZ : ClassId) (h0 : Nat) (h_bytes : Nat) (Fh : Nat → Value) (x_length : Int32) (f_bytes : Nat → Int32) (p0 : Int32) (sz : Nat) (e_bytes : Fh 0 = .ref h_bytes) (e_length : Fh 1 = .int x_length) (i_x_length : IR 0 940 x_length) : CV l yX6_append cX6_append 3 none { frames := 0, cells := 0, slots := 0, locals := 0 } (GG D cI cJ cB cP cM cZ) D [(h0, .inr (6, vL 12 Fh)), (h_bytes, .inl (cB, 940, .inl f_bytes))] sz [.ref h0, .int p0] (fun (u : va_W) => ∃ (Gh : Nat → Value) (y_length : Int32) (g_bytes : Nat → Int32), SAME [1] Fh Gh ∧ Gh 1 = .int y_length ∧ IR 0 940 y_length ∧ u = [(h0, .inr (6, vL 12 Gh)), (h_bytes, .inl (cB, 940, .inl g_bytes))]) := by
  refine CV_mk (by decide) (Nat.le_of_ble_eq_true rfl) ?_
  intro p e s m below meth c A ls E hAe hG hsz hP hD hA hS hl
  obtain ⟨hx, hb, hr, hw, hown, hlocks, hml, hnm⟩ := E
  have hK := hG.1
  have i_x_length : 0 ≤ x_length.toInt ∧ x_length.toInt ≤ 940 := i_x_length
  have hl : lv_has ls 3 [(0, .ref h0), (1, .int p0)] := hl
  refine lv_bipush (v := 24) hx hb dX6_append_0 (by decide) ?_
  refine lv_istore_n (lv' := [(2, .int 24), (0, .ref h0), (1, .int p0)]) hx hb dX6_append_2 rfl hl (by decide) rfl (fun ls hl => ?_)
  refine mloop (α := (Int32) × (Nat → Value) × (Int32) × (Nat → Int32)) (nL := 3) (D := D) (A := A) (H0 := s.heap) (fun a => (a.1.toInt + 8).toNat) (fun a => IR (-8) 24 a.1 ∧ SAME [1] Fh a.2.1 ∧ a.2.1 1 = .int a.2.2.1 ∧ IR 0 940 a.2.2.1) (fun a => [(h0, .inr (6, vL 12 a.2.1)), (h_bytes, .inl (cB, 940, .inl a.2.2.2))]) (fun a => [(2, .int a.1), (0, .ref h0), (1, .int p0)]) (fun H locs ls => W p l e ({ frames := 0, cells := 0, slots := 0, locals := 0 } : Room) s m [.ref h0, .int p0].toArray below meth c H locs 0 0 (MQ below (va_Qv (fun (u : va_W) => ∃ (Gh : Nat → Value) (y_length : Int32) (g_bytes : Nat → Int32), SAME [1] Fh Gh ∧ Gh 1 = .int y_length ∧ IR 0 940 y_length ∧ u = [(h0, .inr (6, vL 12 Gh)), (h_bytes, .inl (cB, 940, .inl g_bytes))]) (PO D A) A) [.ref h0, .int p0].toArray s 0 0 A) (F0 m 3 ls [])) ?_ (24, Fh, x_length, f_bytes) ⟨⟨by decide, by decide⟩, SAME.rf, e_length, i_x_length⟩ _ _ _ hP hD hS hl
  rintro ⟨u1, G2, u3, w4⟩ ⟨i5, i6, i7, i8⟩ ih H locs ls hP hD hS hl
  have i5 : (-8) ≤ u1.toInt ∧ u1.toInt ≤ 24 := i5
  have i8 : 0 ≤ u3.toInt ∧ u3.toInt ≤ 940 := i8
  have hP : va_P D vwCl [(h0, .inr (6, vL 12 G2)), (h_bytes, .inl (cB, 940, .inl w4))] H := hP
  have hD : va_D A [(h0, .inr (6, vL 12 G2)), (h_bytes, .inl (cB, 940, .inl w4))] := hD
  have hl : lv_has ls 3 [(2, .int u1), (0, .ref h0), (1, .int p0)] := hl
  refine lv_iload_n hx hb dX6_append_3 rfl (lv_at hl 0 rfl) ?_
  refine lv_if_lt (tgt := 46) hx hb dX6_append_4 (by decide) (fun c9 => ?_) (fun c9 => ?_)
  · have dc9 : u1.toInt < 0 := lt_i (a := u1.toInt) (b := 0) rfl rfl c9
    have k10 : (-8) ≤ u1.toInt ∧ u1.toInt ≤ (-1) := ⟨i5.1, up_lt dc9 (Int.le_refl _) (by decide)⟩
    exact ret_v hx hb hr hlocks hS hP hD dX6_append_46 (Nat.le_of_ble_eq_true rfl) (Nat.le_of_ble_eq_true rfl) ⟨G2, u3, w4, (SAME.tr SAME.rf i6 (by decide)), i7, i8, rfl⟩
  · have dc9 : 0 ≤ u1.toInt := nlt_i (a := u1.toInt) (b := 0) rfl rfl c9
    have k11 : 0 ≤ u1.toInt ∧ u1.toInt ≤ 24 := ⟨Int.le_trans (Int.le_refl _) dc9, i5.2⟩
    refine lv_aload_n hx hb dX6_append_7 rfl (lv_at hl 1 rfl) ?_
    refine get_f (D := D) (ci := 6) (v := .int u3) (C := RX6) (T := TX6) (N := 12) hx hb hw inAX6 hown hK hP 0 rfl rfl 1 (by decide) (hw _ q_90) (fun _ h9 => h9) i7 dX6_append_8 ?_
    refine lv_sipush (v := 940) hx hb dX6_append_11 (by decide) ?_
    refine lv_icmp_ge (tgt := 46) hx hb dX6_append_14 (by decide) (fun c12 => ?_) (fun c12 => ?_)
    · have dc12 : 940 ≤ u3.toInt := le_i (a := 940) (b := u3.toInt) rfl rfl c12
      have k13 : 940 ≤ u3.toInt ∧ u3.toInt ≤ 940 := ⟨Int.le_trans (Int.le_refl _) dc12, i8.2⟩
      exact ret_v hx hb hr hlocks hS hP hD dX6_append_46 (Nat.le_of_ble_eq_true rfl) (Nat.le_of_ble_eq_true rfl) ⟨G2, u3, w4, (SAME.tr SAME.rf i6 (by decide)), i7, (ir_wk k13 (by decide) (by decide)), rfl⟩
    · have dc12 : u3.toInt < 940 := nle_i (a := 940) (b := u3.toInt) rfl rfl c12
      have k14 : 0 ≤ u3.toInt ∧ u3.toInt ≤ 939 := ⟨i8.1, up_lt dc12 (Int.le_refl _) (by decide)⟩
      refine lv_aload_n hx hb dX6_append_17 rfl (lv_at hl 1 rfl) ?_
      have n15 : G2 0 = .ref h_bytes := (SAME.at i6 (by decide) e_bytes)
      refine get_f (D := D) (ci := 6) (v := .ref h_bytes) (C := RX6) (T := TX6) (N := 12) hx hb hw inAX6 hown hK hP 0 rfl rfl 0 (by decide) (hw _ q_89) (fun _ h9 => h9) n15 dX6_append_18 ?_
      refine lv_aload_n hx hb dX6_append_21 rfl (lv_at hl 1 rfl) ?_
      refine get_f (D := D) (ci := 6) (v := .int u3) (C := RX6) (T := TX6) (N := 12) hx hb hw inAX6 hown hK hP 0 rfl rfl 1 (by decide) (hw _ q_90) (fun _ h9 => h9) i7 dX6_append_22 ?_
      refine lv_iload_n hx hb dX6_append_25 rfl (lv_at hl 2 rfl) ?_
      refine lv_iload_n hx hb dX6_append_26 rfl (lv_at hl 0 rfl) ?_
      obtain ⟨v16, ev16⟩ : ∃ z : Int32, ((p0 : Int32).toUInt32 >>> ((u1 : Int32).toUInt32 &&& Int32.toUInt32 31)).toInt32 = z := ⟨_, rfl⟩
      refine lv_iushr (v := v16) hx hb dX6_append_27 ev16 ?_
      obtain ⟨v17, ev17⟩ : ∃ z : Int32, (v16 : Int32).toInt8.toInt32 = z := ⟨_, rfl⟩
      refine lv_i2b (v := v17) hx hb dX6_append_28 ev17 ?_
      obtain ⟨g18, eg18⟩ : ∃ z : Nat → Int32, upd w4 u3.toNatClampNeg (vp_nar .byte v17) = z := ⟨_, rfl⟩
      refine bast_g hx hb hK hP hD hS 1 2 rfl rfl (ix_k k14 (by decide) (by decide)) eg18 dX6_append_29 (fun H locs hP hD hS => ?_)
      have hP : va_P D vwCl [(h0, .inr (6, vL 12 G2)), (h_bytes, .inl (cB, 940, .inl g18))] H := hP
      have hD : va_D A [(h0, .inr (6, vL 12 G2)), (h_bytes, .inl (cB, 940, .inl g18))] := hD
      refine lv_aload_n hx hb dX6_append_30 rfl (lv_at hl 1 rfl) ?_
      refine lv_dup hx hb dX6_append_31 rfl ?_
      refine get_f (D := D) (ci := 6) (v := .int u3) (C := RX6) (T := TX6) (N := 12) hx hb hw inAX6 hown hK hP 0 rfl rfl 1 (by decide) (hw _ q_90) (fun _ h9 => h9) i7 dX6_append_32 ?_
      refine lv_iconst (v := 1) hx hb dX6_append_35 (by decide) ?_
      refine lv_iadd hx hb dX6_append_36 ?_
      refine lv_topi (fun v19 ev19 => ?_)
      have bv19 : v19.toInt = u3.toInt + 1 := by rw [ev19]; exact add_k rfl rfl k14 ⟨Int.le_refl _, Int.le_refl _⟩ (by decide)
      have k20 : 1 ≤ v19.toInt ∧ v19.toInt ≤ 940 := add_r bv19 k14 ⟨Int.le_refl _, Int.le_refl _⟩ (by decide)
      refine put_f (D := D) (ci := 6) (v := .int v19) (ty := .int) (C := RX6) (T := TX6) (N := 12) hx hb hw inAX6 tyX6 tyX6_ok nmX6 hown hK hP hD hS 0 rfl rfl 1 (by decide) (hw _ q_90) (fun _ h9 => h9) rfl (by decide +kernel) rfl rfl dX6_append_37 (fun H locs F21 eF21 hP hD hS => ?_)
      have hP : va_P D vwCl [(h0, .inr (6, vL 12 F21)), (h_bytes, .inl (cB, 940, .inl g18))] H := hP
      have hD : va_D A [(h0, .inr (6, vL 12 F21)), (h_bytes, .inl (cB, 940, .inl g18))] := hD
      obtain ⟨v22, ev22⟩ : ∃ z : Int32, z = u1 + (-8) := ⟨_, rfl⟩
      have bv22 : v22.toInt = u1.toInt + (-8) := by rw [ev22]; exact add_k rfl rfl k11 ⟨Int.le_refl _, Int.le_refl _⟩ (by decide)
      have k23 : (-8) ≤ v22.toInt ∧ v22.toInt ≤ 16 := add_r bv22 k11 ⟨Int.le_refl _, Int.le_refl _⟩ (by decide)
      refine lv_iinc (v := v22) (lv' := [(2, .int v22), (0, .ref h0), (1, .int p0)]) hx hb dX6_append_40 hl (k := 0) rfl (by rw [ev22]; rfl) (by decide) rfl (fun ls hl => ?_)
      refine lv_goto (tgt := 3) hx hb dX6_append_43 (by decide) ?_
      exact ih (v22, F21, v19, g18) ⟨(ir_wk k23 (by decide) (by decide)), (SAME.up eF21 (SAME.tr SAME.rf i6 (by decide)) (by decide)), (get_eq eF21), (ir_wk k20 (by decide) (by decide))⟩ (by show (v22.toInt + 8).toNat < (u1.toInt + 8).toNat; omega) _ _ _ hP hD hS (lv_sub hl [0, 1, 2] rfl)
set_option maxHeartbeats 4000000 in
set_option maxRecDepth 100000 in
theorem m_X6_byteAt (l : Launch) (D : va_G) (cI cJ cB cP cM cZ : ClassId) (h0 : Nat) (h_bytes : Nat) (Fh : Nat → Value) (f_bytes : Nat → Int32) (p0 : Int32) (sz : Nat) (e_bytes : Fh 0 = .ref h_bytes) : CI l yX6_byteAt cX6_byteAt 2 (some .int) { frames := 0, cells := 0, slots := 0, locals := 0 } (GG D cI cJ cB cP cM cZ) D [(h0, .inr (6, vL 12 Fh)), (h_bytes, .inl (cB, 940, .inl f_bytes))] sz [.ref h0, .int p0] (fun (r : Int32) (u : va_W) => IR 0 255 r ∧ u = [(h0, .inr (6, vL 12 Fh)), (h_bytes, .inl (cB, 940, .inl f_bytes))]) := by
  refine CI_mk (by decide) (Nat.le_of_ble_eq_true rfl) ?_
  intro p e s m below meth c A ls E hAe hG hsz hP hD hA hS hl
  obtain ⟨hx, hb, hr, hw, hown, hlocks, hml, hnm⟩ := E
  have hK := hG.1
  have hl : lv_has ls 2 [(0, .ref h0), (1, .int p0)] := hl
  refine lv_iload_n hx hb dX6_byteAt_0 rfl (lv_at hl 1 rfl) ?_
  refine lv_if_lt (tgt := 24) hx hb dX6_byteAt_1 (by decide) (fun c1 => ?_) (fun c1 => ?_)
  · have dc1 : p0.toInt < 0 := lt_i (a := p0.toInt) (b := 0) rfl rfl c1
    have k2 : (-2147483648) ≤ p0.toInt ∧ p0.toInt ≤ (-1) := ⟨(ir_any _).1, up_lt dc1 (Int.le_refl _) (by decide)⟩
    refine lv_iconst (v := 0) hx hb dX6_byteAt_24 (by decide) ?_
    exact ret_i (v := 0) hx hb hr hlocks hS hP hD dX6_byteAt_25 rfl (Nat.le_of_ble_eq_true rfl) (Nat.le_of_ble_eq_true rfl) ⟨⟨by decide, by decide⟩, rfl⟩
  · have dc1 : 0 ≤ p0.toInt := nlt_i (a := p0.toInt) (b := 0) rfl rfl c1
    have k3 : 0 ≤ p0.toInt ∧ p0.toInt ≤ 2147483647 := ⟨Int.le_trans (Int.le_refl _) dc1, (ir_any _).2⟩
    refine lv_iload_n hx hb dX6_byteAt_4 rfl (lv_at hl 1 rfl) ?_
    refine lv_sipush (v := 940) hx hb dX6_byteAt_5 (by decide) ?_
    refine lv_icmp_ge (tgt := 24) hx hb dX6_byteAt_8 (by decide) (fun c4 => ?_) (fun c4 => ?_)
    · have dc4 : 940 ≤ p0.toInt := le_i (a := 940) (b := p0.toInt) rfl rfl c4
      have k5 : 940 ≤ p0.toInt ∧ p0.toInt ≤ 2147483647 := ⟨Int.le_trans (Int.le_refl _) dc4, k3.2⟩
      refine lv_iconst (v := 0) hx hb dX6_byteAt_24 (by decide) ?_
      exact ret_i (v := 0) hx hb hr hlocks hS hP hD dX6_byteAt_25 rfl (Nat.le_of_ble_eq_true rfl) (Nat.le_of_ble_eq_true rfl) ⟨⟨by decide, by decide⟩, rfl⟩
    · have dc4 : p0.toInt < 940 := nle_i (a := 940) (b := p0.toInt) rfl rfl c4
      have k6 : 0 ≤ p0.toInt ∧ p0.toInt ≤ 939 := ⟨k3.1, up_lt dc4 (Int.le_refl _) (by decide)⟩
      refine lv_aload_n hx hb dX6_byteAt_11 rfl (lv_at hl 0 rfl) ?_
      refine get_f (D := D) (ci := 6) (v := .ref h_bytes) (C := RX6) (T := TX6) (N := 12) hx hb hw inAX6 hown hK hP 0 rfl rfl 0 (by decide) (hw _ q_89) (fun _ h9 => h9) e_bytes dX6_byteAt_12 ?_
      refine lv_iload_n hx hb dX6_byteAt_15 rfl (lv_at hl 1 rfl) ?_
      refine va_bald hx hb hK hP 1 2 rfl rfl (ix_k k6 (by decide) (by decide)) dX6_byteAt_16 ?_
      refine lv_topi (fun v7 ev7 => ?_)
      refine lv_sipush (v := 255) hx hb dX6_byteAt_17 (by decide) ?_
      refine lv_iand hx hb dX6_byteAt_20 ?_
      refine lv_topi (fun v8 ev8 => ?_)
      have k9 : 0 ≤ v8.toInt ∧ v8.toInt ≤ 255 := by rw [ev8]; exact and_i v7 8 (by decide)
      refine lv_goto (tgt := 25) hx hb dX6_byteAt_21 (by decide) ?_
      exact ret_i (v := v8) hx hb hr hlocks hS hP hD dX6_byteAt_25 rfl (Nat.le_of_ble_eq_true rfl) (Nat.le_of_ble_eq_true rfl) ⟨k9, rfl⟩
set_option maxHeartbeats 4000000 in
set_option maxRecDepth 100000 in
theorem m_X6_open (l : Launch) (D : va_G) (cI cJ cB cP cM cZ : ClassId) (h0 : Nat) (h_bytes : Nat) (h_wordNames : Nat) (Fh : Nat → Value) (x_length : Int32) (x_value : Int32) (x_name : Int64) (f_bytes : Nat → Int32) (f_wordNames : Nat → Int64) (p0 : Int32) (sz : Nat) (e_bytes : Fh 0 = .ref h_bytes) (e_length : Fh 1 = .int x_length) (i_x_length : IR 0 940 x_length) (e_value : Fh 4 = .int x_value) (e_name : Fh 5 = .long x_name) (e_wordNames : Fh 9 = .ref h_wordNames) : CV l yX6_open cX6_open 2 none { frames := 2, cells := 0, slots := 0, locals := 43 } (GG D cI cJ cB cP cM cZ) D [(h0, .inr (6, vL 12 Fh)), (h_bytes, .inl (cB, 940, .inl f_bytes)), (h_wordNames, .inl (cJ, 23, .inr (.inl f_wordNames)))] sz [.ref h0, .int p0] (fun (u : va_W) => ∃ (Gh : Nat → Value) (y_kind : Int32) (y_place : Int32) (y_value : Int32) (y_name : Int64) (y_at : Int32), SAME [2, 3, 4, 5, 10, 11] Fh Gh ∧ Gh 2 = .int y_kind ∧ Gh 3 = .int y_place ∧ IR (-2147483648) 940 y_place ∧ Gh 4 = .int y_value ∧ Gh 5 = .long y_name ∧ Gh 10 = .int y_at ∧ IR 0 940 y_at ∧ Gh 11 = .int p0 ∧ u = [(h0, .inr (6, vL 12 Gh)), (h_bytes, .inl (cB, 940, .inl f_bytes)), (h_wordNames, .inl (cJ, 23, .inr (.inl f_wordNames)))]) := by
  refine CV_mk (by decide) (Nat.le_of_ble_eq_true rfl) ?_
  intro p e s m below meth c A ls E hAe hG hsz hP hD hA hS hl
  obtain ⟨hx, hb, hr, hw, hown, hlocks, hml, hnm⟩ := E
  have hK := hG.1
  have i_x_length : 0 ≤ x_length.toInt ∧ x_length.toInt ≤ 940 := i_x_length
  have hl : lv_has ls 2 [(0, .ref h0), (1, .int p0)] := hl
  refine lv_aload_n hx hb dX6_open_0 rfl (lv_at hl 0 rfl) ?_
  refine lv_iload_n hx hb dX6_open_1 rfl (lv_at hl 1 rfl) ?_
  refine put_f (D := D) (ci := 6) (v := .int p0) (ty := .int) (C := RX6) (T := TX6) (N := 12) hx hb hw inAX6 tyX6 tyX6_ok nmX6 hown hK hP hD hS 0 rfl rfl 11 (by decide) (hw _ q_111) (fun _ h9 => h9) rfl (by decide +kernel) rfl rfl dX6_open_2 (fun H locs F1 eF1 hP hD hS => ?_)
  have hP : va_P D vwCl [(h0, .inr (6, vL 12 F1)), (h_bytes, .inl (cB, 940, .inl f_bytes)), (h_wordNames, .inl (cJ, 23, .inr (.inl f_wordNames)))] H := hP
  have hD : va_D A [(h0, .inr (6, vL 12 F1)), (h_bytes, .inl (cB, 940, .inl f_bytes)), (h_wordNames, .inl (cJ, 23, .inr (.inl f_wordNames)))] := hD
  refine lv_aload_n hx hb dX6_open_5 rfl (lv_at hl 0 rfl) ?_
  refine lv_iconst (v := 0) hx hb dX6_open_6 (by decide) ?_
  refine put_f (D := D) (ci := 6) (v := .int 0) (ty := .int) (C := RX6) (T := TX6) (N := 12) hx hb hw inAX6 tyX6 tyX6_ok nmX6 hown hK hP hD hS 0 rfl rfl 10 (by decide) (hw _ q_110) (fun _ h9 => h9) rfl (by decide +kernel) rfl rfl dX6_open_7 (fun H locs F2 eF2 hP hD hS => ?_)
  have hP : va_P D vwCl [(h0, .inr (6, vL 12 F2)), (h_bytes, .inl (cB, 940, .inl f_bytes)), (h_wordNames, .inl (cJ, 23, .inr (.inl f_wordNames)))] H := hP
  have hD : va_D A [(h0, .inr (6, vL 12 F2)), (h_bytes, .inl (cB, 940, .inl f_bytes)), (h_wordNames, .inl (cJ, 23, .inr (.inl f_wordNames)))] := hD
  refine lv_aload_n hx hb dX6_open_10 rfl (lv_at hl 0 rfl) ?_
  have n3 : F1 0 = .ref h_bytes := (get_ne eF1 (by decide) e_bytes)
  have n4 : F2 0 = .ref h_bytes := (get_ne eF2 (by decide) n3)
  have n5 : F1 1 = .int x_length := (get_ne eF1 (by decide) e_length)
  have n6 : F2 1 = .int x_length := (get_ne eF2 (by decide) n5)
  have n7 : F1 4 = .int x_value := (get_ne eF1 (by decide) e_value)
  have n8 : F2 4 = .int x_value := (get_ne eF2 (by decide) n7)
  have n9 : F1 5 = .long x_name := (get_ne eF1 (by decide) e_name)
  have n10 : F2 5 = .long x_name := (get_ne eF2 (by decide) n9)
  have n11 : F1 9 = .ref h_wordNames := (get_ne eF1 (by decide) e_wordNames)
  have n12 : F2 9 = .ref h_wordNames := (get_ne eF2 (by decide) n11)
  have n13 : F2 11 = .int p0 := (get_ne eF2 (by decide) (get_eq eF1))
  refine call_Vv (wr := []) (As := []) (rest := []) hx hb hml hown hw (m_X6_advance l D cI cJ cB cP cM cZ h0 h_bytes h_wordNames F2 x_length x_value x_name 0 p0 f_bytes f_wordNames _ n4 n6 i_x_length n8 n10 n12 (get_eq eF2) ⟨by decide, by decide⟩ n13) wV_X6_66_X6_advance dX6_open_11 hK hP hD hS hA [0, 1, 2] [] rfl rfl (by decide) (by decide) (by decide) 0 6 rfl rfl GG.fb hG.at hl.1 rfl (Nat.le_of_ble_eq_true rfl) ⟨(Nat.le_of_ble_eq_true rfl), (Nat.le_of_ble_eq_true rfl)⟩ ⟨(Nat.le_of_ble_eq_true rfl), (Nat.le_of_ble_eq_true rfl)⟩ (fun u H locs hp hP hD hS => ?_)
  obtain ⟨F15, y16, y17, y18, y19, y20, t21, t22, t23, t24, t25, t26, t27, t28, rfl⟩ := hp
  have hP : va_P D vwCl [(h0, .inr (6, vL 12 F15)), (h_bytes, .inl (cB, 940, .inl f_bytes)), (h_wordNames, .inl (cJ, 23, .inr (.inl f_wordNames)))] H := hP
  have hD : va_D A [(h0, .inr (6, vL 12 F15)), (h_bytes, .inl (cB, 940, .inl f_bytes)), (h_wordNames, .inl (cJ, 23, .inr (.inl f_wordNames)))] := hD
  refine W.widen (k := 0) (n := 0) (Nat.le_of_ble_eq_true rfl) (Nat.le_of_ble_eq_true rfl) ?_
  exact ret_v hx hb hr hlocks hS hP hD dX6_open_14 (Nat.le_of_ble_eq_true rfl) (Nat.le_of_ble_eq_true rfl) ⟨F15, y16, y17, y18, y19, y20, (SAME.tr (SAME.up eF2 (SAME.up eF1 SAME.rf (by decide)) (by decide)) t21 (by decide)), t22, t23, t24, t25, t26, t27, t28, (SAME.at t21 (by decide) n13), rfl⟩
set_option maxHeartbeats 4000000 in
set_option maxRecDepth 100000 in
theorem m_X7_pushed (l : Launch) (D : va_G) (cI cJ cB cP cM cZ : ClassId) (h0 : Nat) (p0 : Nat) (h_p0_push : Nat) (h_p0_feet : Nat) (p1 : Nat) (h_p1_crew : Nat) (Fh : Nat → Value) (x_in : Int32) (x_late : Int32) (F_p0_ : Nat → Value) (f_p0_push : Nat → Int32) (f_p0_feet : Nat → Int32) (F_p1_ : Nat → Value) (f_p1_crew : Nat → Int32) (p2 : Int32) (sz : Nat) (e_in : Fh 5 = .int x_in) (e_late : Fh 6 = .int x_late) (e_p0_push : F_p0_ 3 = .ref h_p0_push) (e_p0_feet : F_p0_ 4 = .ref h_p0_feet) (e_p1_crew : F_p1_ 0 = .ref h_p1_crew) (s_p1_crew_0 : SG 0 3 0 11 f_p1_crew) : CI l yX7_pushed cX7_pushed 7 (some .int) { frames := 0, cells := 0, slots := 0, locals := 0 } (GG D cI cJ cB cP cM cZ) D [(h0, .inr (7, vL 18 Fh)), (p0, .inr (1, vL 18 F_p0_)), (h_p0_push, .inl (cI, 12, .inl f_p0_push)), (h_p0_feet, .inl (cI, 12, .inl f_p0_feet)), (p1, .inr (5, vL 11 F_p1_)), (h_p1_crew, .inl (cI, 4, .inl f_p1_crew))] sz [.ref h0, .ref p0, .ref p1, .int p2] (fun (r : Int32) (u : va_W) => u = [(h0, .inr (7, vL 18 Fh)), (p0, .inr (1, vL 18 F_p0_)), (h_p0_push, .inl (cI, 12, .inl f_p0_push)), (h_p0_feet, .inl (cI, 12, .inl f_p0_feet)), (p1, .inr (5, vL 11 F_p1_)), (h_p1_crew, .inl (cI, 4, .inl f_p1_crew))]) := by
  refine CI_mk (by decide) (Nat.le_of_ble_eq_true rfl) ?_
  intro p e s m below meth c A ls E hAe hG hsz hP hD hA hS hl
  obtain ⟨hx, hb, hr, hw, hown, hlocks, hml, hnm⟩ := E
  have hK := hG.1
  have hl : lv_has ls 7 [(0, .ref h0), (1, .ref p0), (2, .ref p1), (3, .int p2)] := hl
  refine lv_iconst (v := 0) hx hb dX7_pushed_0 (by decide) ?_
  refine lv_istore (lv' := [(4, .int 0), (0, .ref h0), (1, .ref p0), (2, .ref p1), (3, .int p2)]) hx hb dX7_pushed_1 hl (by decide) rfl (fun ls hl => ?_)
  refine lv_iconst (v := 0) hx hb dX7_pushed_3 (by decide) ?_
  refine lv_istore (lv' := [(5, .int 0), (4, .int 0), (0, .ref h0), (1, .ref p0), (2, .ref p1), (3, .int p2)]) hx hb dX7_pushed_4 hl (by decide) rfl (fun ls hl => ?_)
  refine mloop (α := (Int32) × (Int32)) (nL := 7) (D := D) (A := A) (H0 := s.heap) (fun a => (4 - a.1.toInt).toNat) (fun a => IR 0 4 a.1) (fun a => [(h0, .inr (7, vL 18 Fh)), (p0, .inr (1, vL 18 F_p0_)), (h_p0_push, .inl (cI, 12, .inl f_p0_push)), (h_p0_feet, .inl (cI, 12, .inl f_p0_feet)), (p1, .inr (5, vL 11 F_p1_)), (h_p1_crew, .inl (cI, 4, .inl f_p1_crew))]) (fun a => [(5, .int a.1), (4, .int a.2), (0, .ref h0), (1, .ref p0), (2, .ref p1), (3, .int p2)]) (fun H locs ls => W p l e ({ frames := 0, cells := 0, slots := 0, locals := 0 } : Room) s m [.ref h0, .ref p0, .ref p1, .int p2].toArray below meth c H locs 0 0 (MQ below (va_Qi (fun (r : Int32) (u : va_W) => u = [(h0, .inr (7, vL 18 Fh)), (p0, .inr (1, vL 18 F_p0_)), (h_p0_push, .inl (cI, 12, .inl f_p0_push)), (h_p0_feet, .inl (cI, 12, .inl f_p0_feet)), (p1, .inr (5, vL 11 F_p1_)), (h_p1_crew, .inl (cI, 4, .inl f_p1_crew))]) (PO D A) A) [.ref h0, .ref p0, .ref p1, .int p2].toArray s 0 0 A) (F0 m 6 ls [])) ?_ (0, 0) ⟨by decide, by decide⟩ _ _ _ hP hD hS hl
  rintro ⟨u1, u2⟩ i3 ih H locs ls hP hD hS hl
  have i3 : 0 ≤ u1.toInt ∧ u1.toInt ≤ 4 := i3
  have hP : va_P D vwCl [(h0, .inr (7, vL 18 Fh)), (p0, .inr (1, vL 18 F_p0_)), (h_p0_push, .inl (cI, 12, .inl f_p0_push)), (h_p0_feet, .inl (cI, 12, .inl f_p0_feet)), (p1, .inr (5, vL 11 F_p1_)), (h_p1_crew, .inl (cI, 4, .inl f_p1_crew))] H := hP
  have hD : va_D A [(h0, .inr (7, vL 18 Fh)), (p0, .inr (1, vL 18 F_p0_)), (h_p0_push, .inl (cI, 12, .inl f_p0_push)), (h_p0_feet, .inl (cI, 12, .inl f_p0_feet)), (p1, .inr (5, vL 11 F_p1_)), (h_p1_crew, .inl (cI, 4, .inl f_p1_crew))] := hD
  have hl : lv_has ls 7 [(5, .int u1), (4, .int u2), (0, .ref h0), (1, .ref p0), (2, .ref p1), (3, .int p2)] := hl
  refine lv_iload hx hb dX7_pushed_6 (lv_at hl 0 rfl) ?_
  refine lv_iconst (v := 4) hx hb dX7_pushed_8 (by decide) ?_
  refine lv_icmp_ge (tgt := 70) hx hb dX7_pushed_9 (by decide) (fun c4 => ?_) (fun c4 => ?_)
  · have dc4 : 4 ≤ u1.toInt := le_i (a := 4) (b := u1.toInt) rfl rfl c4
    have k5 : 4 ≤ u1.toInt ∧ u1.toInt ≤ 4 := ⟨Int.le_trans (Int.le_refl _) dc4, i3.2⟩
    refine lv_iload hx hb dX7_pushed_70 (lv_at hl 1 rfl) ?_
    exact ret_i (v := u2) hx hb hr hlocks hS hP hD dX7_pushed_72 rfl (Nat.le_of_ble_eq_true rfl) (Nat.le_of_ble_eq_true rfl) rfl
  · have dc4 : u1.toInt < 4 := nle_i (a := 4) (b := u1.toInt) rfl rfl c4
    have k6 : 0 ≤ u1.toInt ∧ u1.toInt ≤ 3 := ⟨i3.1, up_lt dc4 (Int.le_refl _) (by decide)⟩
    refine lv_aload_n hx hb dX7_pushed_12 rfl (lv_at hl 4 rfl) ?_
    refine get_f (D := D) (ci := 5) (v := .ref h_p1_crew) (C := RX5) (T := TX5) (N := 11) hx hb hw inAX5 hown hK hP 4 rfl rfl 0 (by decide) (hw _ q_148) (fun _ h9 => h9) e_p1_crew dX7_pushed_13 ?_
    refine lv_iload hx hb dX7_pushed_16 (lv_at hl 0 rfl) ?_
    refine va_iald hx hb hK hP 5 0 rfl rfl (ix_k k6 (by decide) (by decide)) dX7_pushed_18 ?_
    refine lv_topi (fun v7 ev7 => ?_)
    have k8 : 0 ≤ v7.toInt ∧ v7.toInt ≤ 11 := by rw [ev7]; exact s_p1_crew_0.at _ (Int.le_trans (by decide) k6.1) (Int.le_trans k6.2 (by decide))
    refine lv_istore (lv' := [(6, .int v7), (5, .int u1), (4, .int u2), (0, .ref h0), (1, .ref p0), (2, .ref p1), (3, .int p2)]) hx hb dX7_pushed_19 hl (by decide) rfl (fun ls hl => ?_)
    refine lv_aload_n hx hb dX7_pushed_21 rfl (lv_at hl 3 rfl) ?_
    refine get_f (D := D) (ci := 7) (v := .int x_in) (C := RX7) (T := TX7) (N := 18) hx hb hw inAX7 hown hK hP 0 rfl rfl 5 (by decide) (hw _ q_215) (fun _ h9 => h9) e_in dX7_pushed_22 ?_
    refine lv_aload_n hx hb dX7_pushed_25 rfl (lv_at hl 3 rfl) ?_
    refine get_f (D := D) (ci := 7) (v := .int x_late) (C := RX7) (T := TX7) (N := 18) hx hb hw inAX7 hown hK hP 0 rfl rfl 6 (by decide) (hw _ q_217) (fun _ h9 => h9) e_late dX7_pushed_26 ?_
    refine lv_ior hx hb dX7_pushed_29 ?_
    refine lv_topi (fun v9 ev9 => ?_)
    refine lv_iload hx hb dX7_pushed_30 (lv_at hl 1 rfl) ?_
    refine lv_ishr hx hb dX7_pushed_32 ?_
    refine lv_topi (fun v10 ev10 => ?_)
    refine lv_iconst (v := 1) hx hb dX7_pushed_33 (by decide) ?_
    refine lv_iand hx hb dX7_pushed_34 ?_
    refine lv_topi (fun v11 ev11 => ?_)
    have k12 : 0 ≤ v11.toInt ∧ v11.toInt ≤ 1 := by rw [ev11]; exact and_i v10 1 (by decide)
    refine lv_if_ne (tgt := 64) hx hb dX7_pushed_35 (by decide) (fun c13 => ?_) (fun c13 => ?_)
    · have dc13 : v11.toInt ≠ 0 := ne_i (a := v11.toInt) (b := 0) rfl rfl c13
      have k14 : 1 ≤ v11.toInt ∧ v11.toInt ≤ 1 := ⟨ne_lo dc13 k12.1 ⟨Int.le_refl _, Int.le_refl _⟩ (by decide), k12.2⟩
      obtain ⟨v15, ev15⟩ : ∃ z : Int32, z = u1 + 1 := ⟨_, rfl⟩
      have bv15 : v15.toInt = u1.toInt + 1 := by rw [ev15]; exact add_k rfl rfl k6 ⟨Int.le_refl _, Int.le_refl _⟩ (by decide)
      have k16 : 1 ≤ v15.toInt ∧ v15.toInt ≤ 4 := add_r bv15 k6 ⟨Int.le_refl _, Int.le_refl _⟩ (by decide)
      refine lv_iinc (v := v15) (lv' := [(5, .int v15), (6, .int v7), (4, .int u2), (0, .ref h0), (1, .ref p0), (2, .ref p1), (3, .int p2)]) hx hb dX7_pushed_64 hl (k := 1) rfl (by rw [ev15]; rfl) (by decide) rfl (fun ls hl => ?_)
      refine lv_goto (tgt := 6) hx hb dX7_pushed_67 (by decide) ?_
      exact ih (v15, u2) (ir_wk k16 (by decide) (by decide)) (by show (4 - v15.toInt).toNat < (4 - u1.toInt).toNat; omega) _ _ _ hP hD hS (lv_sub hl [0, 2, 3, 4, 5, 6] rfl)
    · have dc13 : v11.toInt = 0 := eq_i (a := v11.toInt) (b := 0) rfl rfl c13
      have k17 : 0 ≤ v11.toInt ∧ v11.toInt ≤ 0 := ⟨k12.1, Int.le_trans (Int.le_of_eq dc13) (Int.le_refl _)⟩
      refine lv_iload_n hx hb dX7_pushed_38 rfl (lv_at hl 6 rfl) ?_
      refine lv_bipush (v := 12) hx hb dX7_pushed_39 (by decide) ?_
      refine lv_aload_n hx hb dX7_pushed_41 rfl (lv_at hl 4 rfl) ?_
      refine get_f (D := D) (ci := 1) (v := .ref h_p0_feet) (C := RX1) (T := TX1) (N := 18) hx hb hw inAX1 hown hK hP 1 rfl rfl 4 (by decide) (hw _ q_328) (fun _ h9 => h9) e_p0_feet dX7_pushed_42 ?_
      refine lv_iload hx hb dX7_pushed_45 (lv_at hl 0 rfl) ?_
      refine va_iald hx hb hK hP 3 0 rfl rfl (ix_k k8 (by decide) (by decide)) dX7_pushed_47 ?_
      refine lv_topi (fun v18 ev18 => ?_)
      refine lv_imul hx hb dX7_pushed_48 ?_
      refine lv_topi (fun v19 ev19 => ?_)
      refine lv_icmp_ge (tgt := 64) hx hb dX7_pushed_49 (by decide) (fun c20 => ?_) (fun c20 => ?_)
      · have dc20 : v19.toInt ≤ p2.toInt := le_i (a := v19.toInt) (b := p2.toInt) rfl rfl c20
        obtain ⟨v21, ev21⟩ : ∃ z : Int32, z = u1 + 1 := ⟨_, rfl⟩
        have bv21 : v21.toInt = u1.toInt + 1 := by rw [ev21]; exact add_k rfl rfl k6 ⟨Int.le_refl _, Int.le_refl _⟩ (by decide)
        have k22 : 1 ≤ v21.toInt ∧ v21.toInt ≤ 4 := add_r bv21 k6 ⟨Int.le_refl _, Int.le_refl _⟩ (by decide)
        refine lv_iinc (v := v21) (lv' := [(5, .int v21), (6, .int v7), (4, .int u2), (0, .ref h0), (1, .ref p0), (2, .ref p1), (3, .int p2)]) hx hb dX7_pushed_64 hl (k := 1) rfl (by rw [ev21]; rfl) (by decide) rfl (fun ls hl => ?_)
        refine lv_goto (tgt := 6) hx hb dX7_pushed_67 (by decide) ?_
        exact ih (v21, u2) (ir_wk k22 (by decide) (by decide)) (by show (4 - v21.toInt).toNat < (4 - u1.toInt).toNat; omega) _ _ _ hP hD hS (lv_sub hl [0, 2, 3, 4, 5, 6] rfl)
      · have dc20 : p2.toInt < v19.toInt := nle_i (a := v19.toInt) (b := p2.toInt) rfl rfl c20
        have k23 : (-2147483648) ≤ p2.toInt ∧ p2.toInt ≤ 2147483646 := ⟨(ir_any _).1, up_lt dc20 (ir_any _).2 (by decide)⟩
        have k24 : (-2147483647) ≤ v19.toInt ∧ v19.toInt ≤ 2147483647 := ⟨lo_lt dc20 (ir_any _).1 (by decide), (ir_any _).2⟩
        refine lv_iload hx hb dX7_pushed_52 (lv_at hl 2 rfl) ?_
        refine lv_aload_n hx hb dX7_pushed_54 rfl (lv_at hl 4 rfl) ?_
        refine get_f (D := D) (ci := 1) (v := .ref h_p0_push) (C := RX1) (T := TX1) (N := 18) hx hb hw inAX1 hown hK hP 1 rfl rfl 3 (by decide) (hw _ q_323) (fun _ h9 => h9) e_p0_push dX7_pushed_55 ?_
        refine lv_iload hx hb dX7_pushed_58 (lv_at hl 0 rfl) ?_
        refine va_iald hx hb hK hP 2 0 rfl rfl (ix_k k8 (by decide) (by decide)) dX7_pushed_60 ?_
        refine lv_topi (fun v25 ev25 => ?_)
        refine lv_iadd hx hb dX7_pushed_61 ?_
        refine lv_topi (fun v26 ev26 => ?_)
        refine lv_istore (lv' := [(4, .int v26), (6, .int v7), (5, .int u1), (0, .ref h0), (1, .ref p0), (2, .ref p1), (3, .int p2)]) hx hb dX7_pushed_62 hl (by decide) rfl (fun ls hl => ?_)
        obtain ⟨v27, ev27⟩ : ∃ z : Int32, z = u1 + 1 := ⟨_, rfl⟩
        have bv27 : v27.toInt = u1.toInt + 1 := by rw [ev27]; exact add_k rfl rfl k6 ⟨Int.le_refl _, Int.le_refl _⟩ (by decide)
        have k28 : 1 ≤ v27.toInt ∧ v27.toInt ≤ 4 := add_r bv27 k6 ⟨Int.le_refl _, Int.le_refl _⟩ (by decide)
        refine lv_iinc (v := v27) (lv' := [(5, .int v27), (4, .int v26), (6, .int v7), (0, .ref h0), (1, .ref p0), (2, .ref p1), (3, .int p2)]) hx hb dX7_pushed_64 hl (k := 2) rfl (by rw [ev27]; rfl) (by decide) rfl (fun ls hl => ?_)
        refine lv_goto (tgt := 6) hx hb dX7_pushed_67 (by decide) ?_
        exact ih (v27, v26) (ir_wk k28 (by decide) (by decide)) (by show (4 - v27.toInt).toNat < (4 - u1.toInt).toNat; omega) _ _ _ hP hD hS (lv_sub hl [0, 1, 3, 4, 5, 6] rfl)
set_option maxHeartbeats 4000000 in
set_option maxRecDepth 100000 in
theorem m_X7_drawsKick (l : Launch) (D : va_G) (cI cJ cB cP cM cZ : ClassId) (h0 : Nat) (Fh : Nat → Value) (x_kicks : Int32) (x_seed : Int32) (sz : Nat) (e_kicks : Fh 14 = .int x_kicks) (i_x_kicks : IR 0 1 x_kicks) (e_seed : Fh 15 = .int x_seed) : CI l yX7_drawsKick cX7_drawsKick 1 (some .boolean) { frames := 0, cells := 0, slots := 0, locals := 0 } (GG D cI cJ cB cP cM cZ) D [(h0, .inr (7, vL 18 Fh))] sz [.ref h0] (fun (r : Int32) (u : va_W) => ∃ (Gh : Nat → Value) (y_seed : Int32), SAME [15] Fh Gh ∧ Gh 15 = .int y_seed ∧ IR 0 1 r ∧ u = [(h0, .inr (7, vL 18 Gh))]) := by
  refine CI_mk (by decide) (Nat.le_of_ble_eq_true rfl) ?_
  intro p e s m below meth c A ls E hAe hG hsz hP hD hA hS hl
  obtain ⟨hx, hb, hr, hw, hown, hlocks, hml, hnm⟩ := E
  have hK := hG.1
  have i_x_kicks : 0 ≤ x_kicks.toInt ∧ x_kicks.toInt ≤ 1 := i_x_kicks
  have hl : lv_has ls 1 [(0, .ref h0)] := hl
  refine lv_aload_n hx hb dX7_drawsKick_0 rfl (lv_at hl 0 rfl) ?_
  refine get_f (D := D) (ci := 7) (v := .int x_kicks) (C := RX7) (T := TX7) (N := 18) hx hb hw inAX7 hown hK hP 0 rfl rfl 14 (by decide) (hw _ q_231) (fun _ h9 => h9) e_kicks dX7_drawsKick_1 ?_
  refine lv_if_ne (tgt := 9) hx hb dX7_drawsKick_4 (by decide) (fun c1 => ?_) (fun c1 => ?_)
  · have dc1 : x_kicks.toInt ≠ 0 := ne_i (a := x_kicks.toInt) (b := 0) rfl rfl c1
    have k2 : 1 ≤ x_kicks.toInt ∧ x_kicks.toInt ≤ 1 := ⟨ne_lo dc1 i_x_kicks.1 ⟨Int.le_refl _, Int.le_refl _⟩ (by decide), i_x_kicks.2⟩
    refine lv_aload_n hx hb dX7_drawsKick_9 rfl (lv_at hl 0 rfl) ?_
    refine lv_aload_n hx hb dX7_drawsKick_10 rfl (lv_at hl 0 rfl) ?_
    refine get_f (D := D) (ci := 7) (v := .int x_seed) (C := RX7) (T := TX7) (N := 18) hx hb hw inAX7 hown hK hP 0 rfl rfl 15 (by decide) (hw _ q_232) (fun _ h9 => h9) e_seed dX7_drawsKick_11 ?_
    refine lv_ldc hx hb hown (hw _ q_796) dX7_drawsKick_14 ?_
    refine lv_imul hx hb dX7_drawsKick_16 ?_
    refine lv_topi (fun v3 ev3 => ?_)
    refine lv_sipush (v := 12345) hx hb dX7_drawsKick_17 (by decide) ?_
    refine lv_iadd hx hb dX7_drawsKick_20 ?_
    refine lv_topi (fun v4 ev4 => ?_)
    refine put_f (D := D) (ci := 7) (v := .int v4) (ty := .int) (C := RX7) (T := TX7) (N := 18) hx hb hw inAX7 tyX7 tyX7_ok nmX7 hown hK hP hD hS 0 rfl rfl 15 (by decide) (hw _ q_232) (fun _ h9 => h9) rfl (by decide +kernel) rfl rfl dX7_drawsKick_21 (fun H locs F5 eF5 hP hD hS => ?_)
    have hP : va_P D vwCl [(h0, .inr (7, vL 18 F5))] H := hP
    have hD : va_D A [(h0, .inr (7, vL 18 F5))] := hD
    refine lv_aload_n hx hb dX7_drawsKick_24 rfl (lv_at hl 0 rfl) ?_
    refine get_f (D := D) (ci := 7) (v := .int v4) (C := RX7) (T := TX7) (N := 18) hx hb hw inAX7 hown hK hP 0 rfl rfl 15 (by decide) (hw _ q_232) (fun _ h9 => h9) (get_eq eF5) dX7_drawsKick_25 ?_
    refine lv_bipush (v := 8) hx hb dX7_drawsKick_28 (by decide) ?_
    obtain ⟨v6, ev6⟩ : ∃ z : Int32, ((v4 : Int32).toUInt32 >>> ((8 : Int32).toUInt32 &&& Int32.toUInt32 31)).toInt32 = z := ⟨_, rfl⟩
    refine lv_iushr (v := v6) hx hb dX7_drawsKick_30 ev6 ?_
    have k7 : 0 ≤ v6.toInt ∧ v6.toInt ≤ 16777215 := by rw [← ev6]; exact ushr8_i _
    refine lv_bipush (v := 8) hx hb dX7_drawsKick_31 (by decide) ?_
    refine lv_irem hx hb dX7_drawsKick_33 (by decide) ?_
    refine lv_topi (fun v8 ev8 => ?_)
    have bv8 : v8.toInt = v6.toInt % 8 := by rw [ev8]; exact rem_i rfl rfl (Int.le_trans (by decide) k7.1) (by decide)
    have k9 : 0 ≤ v8.toInt ∧ v8.toInt ≤ 7 := rem_r bv8 (by decide)
    refine lv_if_ne (tgt := 41) hx hb dX7_drawsKick_34 (by decide) (fun c10 => ?_) (fun c10 => ?_)
    · have dc10 : v8.toInt ≠ 0 := ne_i (a := v8.toInt) (b := 0) rfl rfl c10
      have k11 : 1 ≤ v8.toInt ∧ v8.toInt ≤ 7 := ⟨ne_lo dc10 k9.1 ⟨Int.le_refl _, Int.le_refl _⟩ (by decide), k9.2⟩
      refine lv_iconst (v := 0) hx hb dX7_drawsKick_41 (by decide) ?_
      exact ret_i (v := 0) hx hb hr hlocks hS hP hD dX7_drawsKick_42 rfl (Nat.le_of_ble_eq_true rfl) (Nat.le_of_ble_eq_true rfl) ⟨F5, v4, (SAME.up eF5 SAME.rf (by decide)), (get_eq eF5), ⟨by decide, by decide⟩, rfl⟩
    · have dc10 : v8.toInt = 0 := eq_i (a := v8.toInt) (b := 0) rfl rfl c10
      have k12 : 0 ≤ v8.toInt ∧ v8.toInt ≤ 0 := ⟨k9.1, Int.le_trans (Int.le_of_eq dc10) (Int.le_refl _)⟩
      refine lv_iconst (v := 1) hx hb dX7_drawsKick_37 (by decide) ?_
      refine lv_goto (tgt := 42) hx hb dX7_drawsKick_38 (by decide) ?_
      exact ret_i (v := 1) hx hb hr hlocks hS hP hD dX7_drawsKick_42 rfl (Nat.le_of_ble_eq_true rfl) (Nat.le_of_ble_eq_true rfl) ⟨F5, v4, (SAME.up eF5 SAME.rf (by decide)), (get_eq eF5), ⟨by decide, by decide⟩, rfl⟩
  · have dc1 : x_kicks.toInt = 0 := eq_i (a := x_kicks.toInt) (b := 0) rfl rfl c1
    have k13 : 0 ≤ x_kicks.toInt ∧ x_kicks.toInt ≤ 0 := ⟨i_x_kicks.1, Int.le_trans (Int.le_of_eq dc1) (Int.le_refl _)⟩
    refine lv_iconst (v := 0) hx hb dX7_drawsKick_7 (by decide) ?_
    exact ret_i (v := 0) hx hb hr hlocks hS hP hD dX7_drawsKick_8 rfl (Nat.le_of_ble_eq_true rfl) (Nat.le_of_ble_eq_true rfl) ⟨Fh, x_seed, SAME.rf, e_seed, ⟨by decide, by decide⟩, rfl⟩
set_option maxHeartbeats 4000000 in
set_option maxRecDepth 100000 in
theorem m_X7_behindJumps (l : Launch) (D : va_G) (cI cJ cB cP cM cZ : ClassId) (h0 : Nat) (h_manner : Nat) (p0 : Nat) (h_p0_feet : Nat) (h_p0_weight : Nat) (p1 : Nat) (h_p1_crew : Nat) (h_p1_yard : Nat) (Fh : Nat → Value) (x_in : Int32) (x_late : Int32) (x_weightIn : Int32) (x_latestYardIn : Int32) (x_kicks : Int32) (x_seed : Int32) (f_manner : Nat → Int32) (F_p0_ : Nat → Value) (f_p0_feet : Nat → Int32) (f_p0_weight : Nat → Int32) (F_p1_ : Nat → Value) (f_p1_crew : Nat → Int32) (f_p1_yard : Nat → Int32) (p2 : Int32) (p3 : Int32) (sz : Nat) (e_manner : Fh 1 = .ref h_manner) (e_in : Fh 5 = .int x_in) (e_late : Fh 6 = .int x_late) (e_weightIn : Fh 12 = .int x_weightIn) (e_latestYardIn : Fh 13 = .int x_latestYardIn) (e_kicks : Fh 14 = .int x_kicks) (i_x_kicks : IR 0 1 x_kicks) (e_seed : Fh 15 = .int x_seed) (e_p0_feet : F_p0_ 4 = .ref h_p0_feet) (e_p0_weight : F_p0_ 5 = .ref h_p0_weight) (e_p1_crew : F_p1_ 0 = .ref h_p1_crew) (e_p1_yard : F_p1_ 1 = .ref h_p1_yard) (s_p1_crew_0 : SG 0 3 0 11 f_p1_crew) (i_p3 : IR 10 250 p3) : CI l yX7_behindJumps cX7_behindJumps 9 (some .int) { frames := 2, cells := 0, slots := 0, locals := 60 } (GG D cI cJ cB cP cM cZ) D [(h0, .inr (7, vL 18 Fh)), (h_manner, .inl (cI, 4, .inl f_manner)), (p0, .inr (1, vL 18 F_p0_)), (h_p0_feet, .inl (cI, 12, .inl f_p0_feet)), (h_p0_weight, .inl (cI, 12, .inl f_p0_weight)), (p1, .inr (5, vL 11 F_p1_)), (h_p1_crew, .inl (cI, 4, .inl f_p1_crew)), (h_p1_yard, .inl (cI, 4, .inl f_p1_yard))] sz [.ref h0, .ref p0, .ref p1, .int p2, .int p3] (fun (r : Int32) (u : va_W) => ∃ (Gh : Nat → Value) (y_in : Int32) (y_late : Int32) (y_weightIn : Int32) (y_latestYardIn : Int32) (y_seed : Int32) (g_manner : Nat → Int32), SAME [5, 6, 12, 13, 15] Fh Gh ∧ Gh 5 = .int y_in ∧ Gh 6 = .int y_late ∧ Gh 12 = .int y_weightIn ∧ Gh 13 = .int y_latestYardIn ∧ Gh 15 = .int y_seed ∧ IR 10 250 r ∧ u = [(h0, .inr (7, vL 18 Gh)), (h_manner, .inl (cI, 4, .inl g_manner)), (p0, .inr (1, vL 18 F_p0_)), (h_p0_feet, .inl (cI, 12, .inl f_p0_feet)), (h_p0_weight, .inl (cI, 12, .inl f_p0_weight)), (p1, .inr (5, vL 11 F_p1_)), (h_p1_crew, .inl (cI, 4, .inl f_p1_crew)), (h_p1_yard, .inl (cI, 4, .inl f_p1_yard))]) := by
  refine CI_mk (by decide) (Nat.le_of_ble_eq_true rfl) ?_
  intro p e s m below meth c A ls E hAe hG hsz hP hD hA hS hl
  obtain ⟨hx, hb, hr, hw, hown, hlocks, hml, hnm⟩ := E
  have hK := hG.1
  have i_x_kicks : 0 ≤ x_kicks.toInt ∧ x_kicks.toInt ≤ 1 := i_x_kicks
  have i_p3 : 10 ≤ p3.toInt ∧ p3.toInt ≤ 250 := i_p3
  have hl : lv_has ls 9 [(0, .ref h0), (1, .ref p0), (2, .ref p1), (3, .int p2), (4, .int p3)] := hl
  refine lv_iload hx hb dX7_behindJumps_0 (lv_at hl 4 rfl) ?_
  refine lv_istore (lv' := [(5, .int p3), (0, .ref h0), (1, .ref p0), (2, .ref p1), (3, .int p2), (4, .int p3)]) hx hb dX7_behindJumps_2 hl (by decide) rfl (fun ls hl => ?_)
  refine lv_iconst (v := 0) hx hb dX7_behindJumps_4 (by decide) ?_
  refine lv_istore (lv' := [(6, .int 0), (5, .int p3), (0, .ref h0), (1, .ref p0), (2, .ref p1), (3, .int p2), (4, .int p3)]) hx hb dX7_behindJumps_5 hl (by decide) rfl (fun ls hl => ?_)
  refine mloop (α := (Int32) × (Int32) × (Nat → Value) × (Int32) × (Int32) × (Int32) × (Int32) × (Int32) × (Nat → Int32)) (nL := 9) (D := D) (A := A) (H0 := s.heap) (fun a => (4 - a.1.toInt).toNat) (fun a => IR 0 4 a.1 ∧ IR 10 250 a.2.1 ∧ SAME [5, 6, 12, 13, 15] Fh a.2.2.1 ∧ a.2.2.1 5 = .int a.2.2.2.1 ∧ a.2.2.1 6 = .int a.2.2.2.2.1 ∧ a.2.2.1 12 = .int a.2.2.2.2.2.1 ∧ a.2.2.1 13 = .int a.2.2.2.2.2.2.1 ∧ a.2.2.1 15 = .int a.2.2.2.2.2.2.2.1) (fun a => [(h0, .inr (7, vL 18 a.2.2.1)), (h_manner, .inl (cI, 4, .inl a.2.2.2.2.2.2.2.2)), (p0, .inr (1, vL 18 F_p0_)), (h_p0_feet, .inl (cI, 12, .inl f_p0_feet)), (h_p0_weight, .inl (cI, 12, .inl f_p0_weight)), (p1, .inr (5, vL 11 F_p1_)), (h_p1_crew, .inl (cI, 4, .inl f_p1_crew)), (h_p1_yard, .inl (cI, 4, .inl f_p1_yard))]) (fun a => [(6, .int a.1), (5, .int a.2.1), (0, .ref h0), (1, .ref p0), (2, .ref p1), (3, .int p2), (4, .int p3)]) (fun H locs ls => W p l e ({ frames := 2, cells := 0, slots := 0, locals := 60 } : Room) s m [.ref h0, .ref p0, .ref p1, .int p2, .int p3].toArray below meth c H locs 0 0 (MQ below (va_Qi (fun (r : Int32) (u : va_W) => ∃ (Gh : Nat → Value) (y_in : Int32) (y_late : Int32) (y_weightIn : Int32) (y_latestYardIn : Int32) (y_seed : Int32) (g_manner : Nat → Int32), SAME [5, 6, 12, 13, 15] Fh Gh ∧ Gh 5 = .int y_in ∧ Gh 6 = .int y_late ∧ Gh 12 = .int y_weightIn ∧ Gh 13 = .int y_latestYardIn ∧ Gh 15 = .int y_seed ∧ IR 10 250 r ∧ u = [(h0, .inr (7, vL 18 Gh)), (h_manner, .inl (cI, 4, .inl g_manner)), (p0, .inr (1, vL 18 F_p0_)), (h_p0_feet, .inl (cI, 12, .inl f_p0_feet)), (h_p0_weight, .inl (cI, 12, .inl f_p0_weight)), (p1, .inr (5, vL 11 F_p1_)), (h_p1_crew, .inl (cI, 4, .inl f_p1_crew)), (h_p1_yard, .inl (cI, 4, .inl f_p1_yard))]) (PO D A) A) [.ref h0, .ref p0, .ref p1, .int p2, .int p3].toArray s 0 0 A) (F0 m 7 ls [])) ?_ (0, p3, Fh, x_in, x_late, x_weightIn, x_latestYardIn, x_seed, f_manner) ⟨⟨by decide, by decide⟩, i_p3, SAME.rf, e_in, e_late, e_weightIn, e_latestYardIn, e_seed⟩ _ _ _ hP hD hS hl
  rintro ⟨u1, u2, G3, u4, u5, u6, u7, u8, w9⟩ ⟨i10, i11, i12, i13, i14, i15, i16, i17⟩ ih H locs ls hP hD hS hl
  have i10 : 0 ≤ u1.toInt ∧ u1.toInt ≤ 4 := i10
  have i11 : 10 ≤ u2.toInt ∧ u2.toInt ≤ 250 := i11
  have hP : va_P D vwCl [(h0, .inr (7, vL 18 G3)), (h_manner, .inl (cI, 4, .inl w9)), (p0, .inr (1, vL 18 F_p0_)), (h_p0_feet, .inl (cI, 12, .inl f_p0_feet)), (h_p0_weight, .inl (cI, 12, .inl f_p0_weight)), (p1, .inr (5, vL 11 F_p1_)), (h_p1_crew, .inl (cI, 4, .inl f_p1_crew)), (h_p1_yard, .inl (cI, 4, .inl f_p1_yard))] H := hP
  have hD : va_D A [(h0, .inr (7, vL 18 G3)), (h_manner, .inl (cI, 4, .inl w9)), (p0, .inr (1, vL 18 F_p0_)), (h_p0_feet, .inl (cI, 12, .inl f_p0_feet)), (h_p0_weight, .inl (cI, 12, .inl f_p0_weight)), (p1, .inr (5, vL 11 F_p1_)), (h_p1_crew, .inl (cI, 4, .inl f_p1_crew)), (h_p1_yard, .inl (cI, 4, .inl f_p1_yard))] := hD
  have hl : lv_has ls 9 [(6, .int u1), (5, .int u2), (0, .ref h0), (1, .ref p0), (2, .ref p1), (3, .int p2), (4, .int p3)] := hl
  refine lv_iload hx hb dX7_behindJumps_7 (lv_at hl 0 rfl) ?_
  refine lv_iconst (v := 4) hx hb dX7_behindJumps_9 (by decide) ?_
  refine lv_icmp_ge (tgt := 185) hx hb dX7_behindJumps_10 (by decide) (fun c18 => ?_) (fun c18 => ?_)
  · have dc18 : 4 ≤ u1.toInt := le_i (a := 4) (b := u1.toInt) rfl rfl c18
    have k19 : 4 ≤ u1.toInt ∧ u1.toInt ≤ 4 := ⟨Int.le_trans (Int.le_refl _) dc18, i10.2⟩
    refine lv_iload hx hb dX7_behindJumps_185 (lv_at hl 1 rfl) ?_
    exact ret_i (v := u2) hx hb hr hlocks hS hP hD dX7_behindJumps_187 rfl (Nat.le_of_ble_eq_true rfl) (Nat.le_of_ble_eq_true rfl) ⟨G3, u4, u5, u6, u7, u8, w9, (SAME.tr SAME.rf i12 (by decide)), i13, i14, i15, i16, i17, i11, rfl⟩
  · have dc18 : u1.toInt < 4 := nle_i (a := 4) (b := u1.toInt) rfl rfl c18
    have k20 : 0 ≤ u1.toInt ∧ u1.toInt ≤ 3 := ⟨i10.1, up_lt dc18 (Int.le_refl _) (by decide)⟩
    refine lv_aload_n hx hb dX7_behindJumps_13 rfl (lv_at hl 4 rfl) ?_
    refine get_f (D := D) (ci := 5) (v := .ref h_p1_yard) (C := RX5) (T := TX5) (N := 11) hx hb hw inAX5 hown hK hP 5 rfl rfl 1 (by decide) (hw _ q_151) (fun _ h9 => h9) e_p1_yard dX7_behindJumps_14 ?_
    refine lv_iload hx hb dX7_behindJumps_17 (lv_at hl 0 rfl) ?_
    refine va_iald hx hb hK hP 7 0 rfl rfl (ix_k k20 (by decide) (by decide)) dX7_behindJumps_19 ?_
    refine lv_topi (fun v21 ev21 => ?_)
    refine lv_iload_n hx hb dX7_behindJumps_20 rfl (lv_at hl 5 rfl) ?_
    refine lv_icmp_eq (tgt := 27) hx hb dX7_behindJumps_21 (by decide) (fun c22 => ?_) (fun c22 => ?_)
    · have dc22 : v21.toInt = p2.toInt := eq_i (a := v21.toInt) (b := p2.toInt) rfl rfl c22
      refine lv_aload_n hx hb dX7_behindJumps_27 rfl (lv_at hl 4 rfl) ?_
      refine get_f (D := D) (ci := 5) (v := .ref h_p1_crew) (C := RX5) (T := TX5) (N := 11) hx hb hw inAX5 hown hK hP 5 rfl rfl 0 (by decide) (hw _ q_148) (fun _ h9 => h9) e_p1_crew dX7_behindJumps_28 ?_
      refine lv_iload hx hb dX7_behindJumps_31 (lv_at hl 0 rfl) ?_
      refine va_iald hx hb hK hP 6 0 rfl rfl (ix_k k20 (by decide) (by decide)) dX7_behindJumps_33 ?_
      refine lv_topi (fun v23 ev23 => ?_)
      have k24 : 0 ≤ v23.toInt ∧ v23.toInt ≤ 11 := by rw [ev23]; exact s_p1_crew_0.at _ (Int.le_trans (by decide) k20.1) (Int.le_trans k20.2 (by decide))
      refine lv_istore (lv' := [(7, .int v23), (6, .int u1), (5, .int u2), (0, .ref h0), (1, .ref p0), (2, .ref p1), (3, .int p2), (4, .int p3)]) hx hb dX7_behindJumps_34 hl (by decide) rfl (fun ls hl => ?_)
      refine lv_bipush (v := 12) hx hb dX7_behindJumps_36 (by decide) ?_
      refine lv_aload_n hx hb dX7_behindJumps_38 rfl (lv_at hl 4 rfl) ?_
      refine get_f (D := D) (ci := 1) (v := .ref h_p0_feet) (C := RX1) (T := TX1) (N := 18) hx hb hw inAX1 hown hK hP 2 rfl rfl 4 (by decide) (hw _ q_328) (fun _ h9 => h9) e_p0_feet dX7_behindJumps_39 ?_
      refine lv_iload hx hb dX7_behindJumps_42 (lv_at hl 0 rfl) ?_
      refine va_iald hx hb hK hP 3 0 rfl rfl (ix_k k24 (by decide) (by decide)) dX7_behindJumps_44 ?_
      refine lv_topi (fun v25 ev25 => ?_)
      refine lv_imul hx hb dX7_behindJumps_45 ?_
      refine lv_topi (fun v26 ev26 => ?_)
      refine lv_bipush (v := 20) hx hb dX7_behindJumps_46 (by decide) ?_
      refine lv_iadd hx hb dX7_behindJumps_48 ?_
      refine lv_topi (fun v27 ev27 => ?_)
      refine lv_iload hx hb dX7_behindJumps_49 (lv_at hl 2 rfl) ?_
      refine lv_icmp_ge (tgt := 78) hx hb dX7_behindJumps_51 (by decide) (fun c28 => ?_) (fun c28 => ?_)
      · have dc28 : u2.toInt ≤ v27.toInt := le_i (a := u2.toInt) (b := v27.toInt) rfl rfl c28
        have k29 : 10 ≤ v27.toInt ∧ v27.toInt ≤ 2147483647 := ⟨Int.le_trans i11.1 dc28, (ir_any _).2⟩
        refine lv_aload_n hx hb dX7_behindJumps_78 rfl (lv_at hl 3 rfl) ?_
        refine get_f (D := D) (ci := 7) (v := .int u7) (C := RX7) (T := TX7) (N := 18) hx hb hw inAX7 hown hK hP 0 rfl rfl 13 (by decide) (hw _ q_230) (fun _ h9 => h9) i16 dX7_behindJumps_79 ?_
        refine lv_iload_n hx hb dX7_behindJumps_82 rfl (lv_at hl 6 rfl) ?_
        refine lv_iconst (v := 1) hx hb dX7_behindJumps_83 (by decide) ?_
        refine lv_isub hx hb dX7_behindJumps_84 ?_
        refine lv_topi (fun v30 ev30 => ?_)
        refine lv_icmp_lt (tgt := 92) hx hb dX7_behindJumps_85 (by decide) (fun c31 => ?_) (fun c31 => ?_)
        · have dc31 : u7.toInt < v30.toInt := lt_i (a := u7.toInt) (b := v30.toInt) rfl rfl c31
          have k32 : (-2147483648) ≤ u7.toInt ∧ u7.toInt ≤ 2147483646 := ⟨(ir_any _).1, up_lt dc31 (ir_any _).2 (by decide)⟩
          have k33 : (-2147483647) ≤ v30.toInt ∧ v30.toInt ≤ 2147483647 := ⟨lo_lt dc31 (ir_any _).1 (by decide), (ir_any _).2⟩
          refine lv_iconst (v := 0) hx hb dX7_behindJumps_92 (by decide) ?_
          refine lv_istore (lv' := [(8, .int 0), (7, .int v23), (6, .int u1), (5, .int u2), (0, .ref h0), (1, .ref p0), (2, .ref p1), (3, .int p2), (4, .int p3)]) hx hb dX7_behindJumps_93 hl (by decide) rfl (fun ls hl => ?_)
          refine lv_aload_n hx hb dX7_behindJumps_95 rfl (lv_at hl 4 rfl) ?_
          have n34 : G3 1 = .ref h_manner := (SAME.at i12 (by decide) e_manner)
          refine get_f (D := D) (ci := 7) (v := .ref h_manner) (C := RX7) (T := TX7) (N := 18) hx hb hw inAX7 hown hK hP 0 rfl rfl 1 (by decide) (hw _ q_207) (fun _ h9 => h9) n34 dX7_behindJumps_96 ?_
          refine lv_iload hx hb dX7_behindJumps_99 (lv_at hl 2 rfl) ?_
          refine lv_iload hx hb dX7_behindJumps_101 (lv_at hl 0 rfl) ?_
          refine lv_if_eq (tgt := 110) hx hb dX7_behindJumps_103 (by decide) (fun _ => ?_) (fun g => absurd (by decide) g)
          refine lv_iconst (v := 0) hx hb dX7_behindJumps_110 (by decide) ?_
          obtain ⟨g35, eg35⟩ : ∃ z : Nat → Int32, upd w9 u1.toNatClampNeg 0 = z := ⟨_, rfl⟩
          refine iast_g hx hb hK hP hD hS 1 0 rfl rfl (ix_k k20 (by decide) (by decide)) eg35 dX7_behindJumps_111 (fun H locs hP hD hS => ?_)
          have hP : va_P D vwCl [(h0, .inr (7, vL 18 G3)), (h_manner, .inl (cI, 4, .inl g35)), (p0, .inr (1, vL 18 F_p0_)), (h_p0_feet, .inl (cI, 12, .inl f_p0_feet)), (h_p0_weight, .inl (cI, 12, .inl f_p0_weight)), (p1, .inr (5, vL 11 F_p1_)), (h_p1_crew, .inl (cI, 4, .inl f_p1_crew)), (h_p1_yard, .inl (cI, 4, .inl f_p1_yard))] H := hP
          have hD : va_D A [(h0, .inr (7, vL 18 G3)), (h_manner, .inl (cI, 4, .inl g35)), (p0, .inr (1, vL 18 F_p0_)), (h_p0_feet, .inl (cI, 12, .inl f_p0_feet)), (h_p0_weight, .inl (cI, 12, .inl f_p0_weight)), (p1, .inr (5, vL 11 F_p1_)), (h_p1_crew, .inl (cI, 4, .inl f_p1_crew)), (h_p1_yard, .inl (cI, 4, .inl f_p1_yard))] := hD
          refine lv_iload hx hb dX7_behindJumps_112 (lv_at hl 3 rfl) ?_
          refine lv_iload hx hb dX7_behindJumps_114 (lv_at hl 0 rfl) ?_
          refine lv_if_eq (tgt := 124) hx hb dX7_behindJumps_116 (by decide) (fun _ => ?_) (fun g => absurd (by decide) g)
          refine lv_iconst (v := 2) hx hb dX7_behindJumps_124 (by decide) ?_
          refine lv_isub hx hb dX7_behindJumps_125 ?_
          refine lv_topi (fun v36 ev36 => ?_)
          have bv36 : v36.toInt = u2.toInt - 2 := by rw [ev36]; exact sub_k rfl rfl i11 ⟨Int.le_refl _, Int.le_refl _⟩ (by decide)
          have k37 : 8 ≤ v36.toInt ∧ v36.toInt ≤ 248 := sub_r bv36 i11 ⟨Int.le_refl _, Int.le_refl _⟩ (by decide)
          refine lv_aload_n hx hb dX7_behindJumps_126 rfl (lv_at hl 4 rfl) ?_
          have n38 : G3 14 = .int x_kicks := (SAME.at i12 (by decide) e_kicks)
          refine call_Vi (wr := [(h_manner, .inl (cI, 4, .inl g35)), (p0, .inr (1, vL 18 F_p0_)), (h_p0_feet, .inl (cI, 12, .inl f_p0_feet)), (h_p0_weight, .inl (cI, 12, .inl f_p0_weight)), (p1, .inr (5, vL 11 F_p1_)), (h_p1_crew, .inl (cI, 4, .inl f_p1_crew)), (h_p1_yard, .inl (cI, 4, .inl f_p1_yard))]) (As := []) (rest := [.int v36]) hx hb hml hown hw (m_X7_drawsKick l D cI cJ cB cP cM cZ h0 G3 x_kicks u8 _ n38 i_x_kicks i17) wV_X7_121_X7_drawsKick dX7_behindJumps_127 hK hP hD hS hA [0] [1, 2, 3, 4, 5, 6, 7] rfl rfl (by decide) (by decide) (by decide) 0 7 rfl rfl GG.fb hG.at hl.1 rfl (Nat.le_of_ble_eq_true rfl) ⟨(Nat.le_of_ble_eq_true rfl), (Nat.le_of_ble_eq_true rfl)⟩ ⟨(Nat.le_of_ble_eq_true rfl), (Nat.le_of_ble_eq_true rfl)⟩ (fun r39 u H locs hp hP hD hS => ?_)
          obtain ⟨F40, y41, t42, t43, t44, rfl⟩ := hp
          have hP : va_P D vwCl [(h_manner, .inl (cI, 4, .inl g35)), (p0, .inr (1, vL 18 F_p0_)), (h_p0_feet, .inl (cI, 12, .inl f_p0_feet)), (h_p0_weight, .inl (cI, 12, .inl f_p0_weight)), (p1, .inr (5, vL 11 F_p1_)), (h_p1_crew, .inl (cI, 4, .inl f_p1_crew)), (h_p1_yard, .inl (cI, 4, .inl f_p1_yard)), (h0, .inr (7, vL 18 F40))] H := hP
          have hD : va_D A [(h_manner, .inl (cI, 4, .inl g35)), (p0, .inr (1, vL 18 F_p0_)), (h_p0_feet, .inl (cI, 12, .inl f_p0_feet)), (h_p0_weight, .inl (cI, 12, .inl f_p0_weight)), (p1, .inr (5, vL 11 F_p1_)), (h_p1_crew, .inl (cI, 4, .inl f_p1_crew)), (h_p1_yard, .inl (cI, 4, .inl f_p1_yard)), (h0, .inr (7, vL 18 F40))] := hD
          refine W.widen (k := 0) (n := 0) (Nat.le_of_ble_eq_true rfl) (Nat.le_of_ble_eq_true rfl) ?_
          refine lv_if_eq (tgt := 138) hx hb dX7_behindJumps_130 (by decide) (fun c45 => ?_) (fun c45 => ?_)
          · have dc45 : r39.toInt = 0 := eq_i (a := r39.toInt) (b := 0) rfl rfl c45
            have k46 : 0 ≤ r39.toInt ∧ r39.toInt ≤ 0 := ⟨t44.1, Int.le_trans (Int.le_of_eq dc45) (Int.le_refl _)⟩
            refine lv_iconst (v := 0) hx hb dX7_behindJumps_138 (by decide) ?_
            refine lv_isub hx hb dX7_behindJumps_139 ?_
            refine lv_topi (fun v47 ev47 => ?_)
            have bv47 : v47.toInt = v36.toInt - 0 := by rw [ev47]; exact sub_k rfl rfl k37 ⟨Int.le_refl _, Int.le_refl _⟩ (by decide)
            have k48 : 8 ≤ v47.toInt ∧ v47.toInt ≤ 248 := sub_r bv47 k37 ⟨Int.le_refl _, Int.le_refl _⟩ (by decide)
            refine call_Ti (wr := [(h_manner, .inl (cI, 4, .inl g35)), (p0, .inr (1, vL 18 F_p0_)), (h_p0_feet, .inl (cI, 12, .inl f_p0_feet)), (h_p0_weight, .inl (cI, 12, .inl f_p0_weight)), (p1, .inr (5, vL 11 F_p1_)), (h_p1_crew, .inl (cI, 4, .inl f_p1_crew)), (h_p1_yard, .inl (cI, 4, .inl f_p1_yard)), (h0, .inr (7, vL 18 F40))]) (As := [.int v47]) (rest := []) hx hb hml hown hw (m_X9_bounded l D cI cJ cB cP cM cZ v47 _ ) wT_X9_bounded (hG.2.1 (.methodLinkNest "FourSledge$Ride" 93 ⟨"FourSledge", "bounded", "(I)I"⟩ "FourSledge") (by decide +kernel)) dX7_behindJumps_140 hP hD hS hA [] [0, 1, 2, 3, 4, 5, 6, 7] rfl rfl (by decide) (by decide) (by decide) GG.fb hG.at hl.1 rfl (Nat.le_of_ble_eq_true rfl) ⟨(Nat.le_of_ble_eq_true rfl), (Nat.le_of_ble_eq_true rfl)⟩ ⟨(Nat.le_of_ble_eq_true rfl), (Nat.le_of_ble_eq_true rfl)⟩ (fun r49 u H locs hp hP hD hS => ?_)
            obtain ⟨t50, rfl⟩ := hp
            have hP : va_P D vwCl [(h_manner, .inl (cI, 4, .inl g35)), (p0, .inr (1, vL 18 F_p0_)), (h_p0_feet, .inl (cI, 12, .inl f_p0_feet)), (h_p0_weight, .inl (cI, 12, .inl f_p0_weight)), (p1, .inr (5, vL 11 F_p1_)), (h_p1_crew, .inl (cI, 4, .inl f_p1_crew)), (h_p1_yard, .inl (cI, 4, .inl f_p1_yard)), (h0, .inr (7, vL 18 F40))] H := hP
            have hD : va_D A [(h_manner, .inl (cI, 4, .inl g35)), (p0, .inr (1, vL 18 F_p0_)), (h_p0_feet, .inl (cI, 12, .inl f_p0_feet)), (h_p0_weight, .inl (cI, 12, .inl f_p0_weight)), (p1, .inr (5, vL 11 F_p1_)), (h_p1_crew, .inl (cI, 4, .inl f_p1_crew)), (h_p1_yard, .inl (cI, 4, .inl f_p1_yard)), (h0, .inr (7, vL 18 F40))] := hD
            refine W.widen (k := 0) (n := 0) (Nat.le_of_ble_eq_true rfl) (Nat.le_of_ble_eq_true rfl) ?_
            refine lv_istore (lv' := [(5, .int r49), (8, .int 0), (7, .int v23), (6, .int u1), (0, .ref h0), (1, .ref p0), (2, .ref p1), (3, .int p2), (4, .int p3)]) hx hb dX7_behindJumps_143 hl (by decide) rfl (fun ls hl => ?_)
            refine lv_aload_n hx hb dX7_behindJumps_145 rfl (lv_at hl 4 rfl) ?_
            refine lv_dup hx hb dX7_behindJumps_146 rfl ?_
            have n51 : F40 5 = .int u4 := (SAME.at t42 (by decide) i13)
            refine get_f (D := D) (ci := 7) (v := .int u4) (C := RX7) (T := TX7) (N := 18) hx hb hw inAX7 hown hK hP 7 rfl rfl 5 (by decide) (hw _ q_215) (fun _ h9 => h9) n51 dX7_behindJumps_147 ?_
            refine lv_iconst (v := 1) hx hb dX7_behindJumps_150 (by decide) ?_
            refine lv_iload hx hb dX7_behindJumps_151 (lv_at hl 3 rfl) ?_
            refine lv_ishl hx hb dX7_behindJumps_153 ?_
            refine lv_topi (fun v52 ev52 => ?_)
            have k53 : 1 ≤ v52.toInt ∧ v52.toInt ≤ 8 := by rw [ev52]; exact shl1_i (Int.le_trans (by decide) k20.1) (Int.le_trans k20.2 (by decide))
            refine lv_ior hx hb dX7_behindJumps_154 ?_
            refine lv_topi (fun v54 ev54 => ?_)
            refine put_f (D := D) (ci := 7) (v := .int v54) (ty := .int) (C := RX7) (T := TX7) (N := 18) hx hb hw inAX7 tyX7 tyX7_ok nmX7 hown hK hP hD hS 7 rfl rfl 5 (by decide) (hw _ q_215) (fun _ h9 => h9) rfl (by decide +kernel) rfl rfl dX7_behindJumps_155 (fun H locs F55 eF55 hP hD hS => ?_)
            have hP : va_P D vwCl [(h_manner, .inl (cI, 4, .inl g35)), (p0, .inr (1, vL 18 F_p0_)), (h_p0_feet, .inl (cI, 12, .inl f_p0_feet)), (h_p0_weight, .inl (cI, 12, .inl f_p0_weight)), (p1, .inr (5, vL 11 F_p1_)), (h_p1_crew, .inl (cI, 4, .inl f_p1_crew)), (h_p1_yard, .inl (cI, 4, .inl f_p1_yard)), (h0, .inr (7, vL 18 F55))] H := hP
            have hD : va_D A [(h_manner, .inl (cI, 4, .inl g35)), (p0, .inr (1, vL 18 F_p0_)), (h_p0_feet, .inl (cI, 12, .inl f_p0_feet)), (h_p0_weight, .inl (cI, 12, .inl f_p0_weight)), (p1, .inr (5, vL 11 F_p1_)), (h_p1_crew, .inl (cI, 4, .inl f_p1_crew)), (h_p1_yard, .inl (cI, 4, .inl f_p1_yard)), (h0, .inr (7, vL 18 F55))] := hD
            refine lv_aload_n hx hb dX7_behindJumps_158 rfl (lv_at hl 4 rfl) ?_
            refine lv_dup hx hb dX7_behindJumps_159 rfl ?_
            have n56 : F40 12 = .int u6 := (SAME.at t42 (by decide) i15)
            have n57 : F55 12 = .int u6 := (get_ne eF55 (by decide) n56)
            refine get_f (D := D) (ci := 7) (v := .int u6) (C := RX7) (T := TX7) (N := 18) hx hb hw inAX7 hown hK hP 7 rfl rfl 12 (by decide) (hw _ q_229) (fun _ h9 => h9) n57 dX7_behindJumps_160 ?_
            refine lv_aload_n hx hb dX7_behindJumps_163 rfl (lv_at hl 5 rfl) ?_
            refine get_f (D := D) (ci := 1) (v := .ref h_p0_weight) (C := RX1) (T := TX1) (N := 18) hx hb hw inAX1 hown hK hP 1 rfl rfl 5 (by decide) (hw _ q_333) (fun _ h9 => h9) e_p0_weight dX7_behindJumps_164 ?_
            refine lv_iload hx hb dX7_behindJumps_167 (lv_at hl 2 rfl) ?_
            refine va_iald hx hb hK hP 3 0 rfl rfl (ix_k k24 (by decide) (by decide)) dX7_behindJumps_169 ?_
            refine lv_topi (fun v58 ev58 => ?_)
            refine lv_iadd hx hb dX7_behindJumps_170 ?_
            refine lv_topi (fun v59 ev59 => ?_)
            refine put_f (D := D) (ci := 7) (v := .int v59) (ty := .int) (C := RX7) (T := TX7) (N := 18) hx hb hw inAX7 tyX7 tyX7_ok nmX7 hown hK hP hD hS 7 rfl rfl 12 (by decide) (hw _ q_229) (fun _ h9 => h9) rfl (by decide +kernel) rfl rfl dX7_behindJumps_171 (fun H locs F60 eF60 hP hD hS => ?_)
            have hP : va_P D vwCl [(h_manner, .inl (cI, 4, .inl g35)), (p0, .inr (1, vL 18 F_p0_)), (h_p0_feet, .inl (cI, 12, .inl f_p0_feet)), (h_p0_weight, .inl (cI, 12, .inl f_p0_weight)), (p1, .inr (5, vL 11 F_p1_)), (h_p1_crew, .inl (cI, 4, .inl f_p1_crew)), (h_p1_yard, .inl (cI, 4, .inl f_p1_yard)), (h0, .inr (7, vL 18 F60))] H := hP
            have hD : va_D A [(h_manner, .inl (cI, 4, .inl g35)), (p0, .inr (1, vL 18 F_p0_)), (h_p0_feet, .inl (cI, 12, .inl f_p0_feet)), (h_p0_weight, .inl (cI, 12, .inl f_p0_weight)), (p1, .inr (5, vL 11 F_p1_)), (h_p1_crew, .inl (cI, 4, .inl f_p1_crew)), (h_p1_yard, .inl (cI, 4, .inl f_p1_yard)), (h0, .inr (7, vL 18 F60))] := hD
            refine lv_aload_n hx hb dX7_behindJumps_174 rfl (lv_at hl 4 rfl) ?_
            refine lv_iload_n hx hb dX7_behindJumps_175 rfl (lv_at hl 7 rfl) ?_
            refine put_f (D := D) (ci := 7) (v := .int p2) (ty := .int) (C := RX7) (T := TX7) (N := 18) hx hb hw inAX7 tyX7 tyX7_ok nmX7 hown hK hP hD hS 7 rfl rfl 13 (by decide) (hw _ q_230) (fun _ h9 => h9) rfl (by decide +kernel) rfl rfl dX7_behindJumps_176 (fun H locs F61 eF61 hP hD hS => ?_)
            have hP : va_P D vwCl [(h_manner, .inl (cI, 4, .inl g35)), (p0, .inr (1, vL 18 F_p0_)), (h_p0_feet, .inl (cI, 12, .inl f_p0_feet)), (h_p0_weight, .inl (cI, 12, .inl f_p0_weight)), (p1, .inr (5, vL 11 F_p1_)), (h_p1_crew, .inl (cI, 4, .inl f_p1_crew)), (h_p1_yard, .inl (cI, 4, .inl f_p1_yard)), (h0, .inr (7, vL 18 F61))] H := hP
            have hD : va_D A [(h_manner, .inl (cI, 4, .inl g35)), (p0, .inr (1, vL 18 F_p0_)), (h_p0_feet, .inl (cI, 12, .inl f_p0_feet)), (h_p0_weight, .inl (cI, 12, .inl f_p0_weight)), (p1, .inr (5, vL 11 F_p1_)), (h_p1_crew, .inl (cI, 4, .inl f_p1_crew)), (h_p1_yard, .inl (cI, 4, .inl f_p1_yard)), (h0, .inr (7, vL 18 F61))] := hD
            obtain ⟨v62, ev62⟩ : ∃ z : Int32, z = u1 + 1 := ⟨_, rfl⟩
            have bv62 : v62.toInt = u1.toInt + 1 := by rw [ev62]; exact add_k rfl rfl k20 ⟨Int.le_refl _, Int.le_refl _⟩ (by decide)
            have k63 : 1 ≤ v62.toInt ∧ v62.toInt ≤ 4 := add_r bv62 k20 ⟨Int.le_refl _, Int.le_refl _⟩ (by decide)
            refine lv_iinc (v := v62) (lv' := [(6, .int v62), (5, .int r49), (8, .int 0), (7, .int v23), (0, .ref h0), (1, .ref p0), (2, .ref p1), (3, .int p2), (4, .int p3)]) hx hb dX7_behindJumps_179 hl (k := 3) rfl (by rw [ev62]; rfl) (by decide) rfl (fun ls hl => ?_)
            refine lv_goto (tgt := 7) hx hb dX7_behindJumps_182 (by decide) ?_
            have n64 : F60 5 = .int v54 := (get_ne eF60 (by decide) (get_eq eF55))
            have n65 : F61 5 = .int v54 := (get_ne eF61 (by decide) n64)
            have n66 : F40 6 = .int u5 := (SAME.at t42 (by decide) i14)
            have n67 : F55 6 = .int u5 := (get_ne eF55 (by decide) n66)
            have n68 : F60 6 = .int u5 := (get_ne eF60 (by decide) n67)
            have n69 : F61 6 = .int u5 := (get_ne eF61 (by decide) n68)
            have n70 : F61 12 = .int v59 := (get_ne eF61 (by decide) (get_eq eF60))
            have n71 : F55 15 = .int y41 := (get_ne eF55 (by decide) t43)
            have n72 : F60 15 = .int y41 := (get_ne eF60 (by decide) n71)
            have n73 : F61 15 = .int y41 := (get_ne eF61 (by decide) n72)
            exact ih (v62, r49, F61, v54, u5, v59, p2, y41, g35) ⟨(ir_wk k63 (by decide) (by decide)), t50, (SAME.up eF61 (SAME.up eF60 (SAME.up eF55 (SAME.tr (SAME.tr SAME.rf i12 (by decide)) t42 (by decide)) (by decide)) (by decide)) (by decide)), n65, n69, n70, (get_eq eF61), n73⟩ (by show (4 - v62.toInt).toNat < (4 - u1.toInt).toNat; omega) _ _ _ (hP.sub [7, 0, 1, 2, 3, 4, 5, 6] rfl) (hD.sub [7, 0, 1, 2, 3, 4, 5, 6] (by decide) rfl) hS (lv_sub hl [0, 1, 4, 5, 6, 7, 8] rfl)
          · have dc45 : r39.toInt ≠ 0 := ne_i (a := r39.toInt) (b := 0) rfl rfl c45
            have k74 : 1 ≤ r39.toInt ∧ r39.toInt ≤ 1 := ⟨ne_lo dc45 t44.1 ⟨Int.le_refl _, Int.le_refl _⟩ (by decide), t44.2⟩
            refine lv_bipush (v := 10) hx hb dX7_behindJumps_133 (by decide) ?_
            refine lv_goto (tgt := 139) hx hb dX7_behindJumps_135 (by decide) ?_
            refine lv_isub hx hb dX7_behindJumps_139 ?_
            refine lv_topi (fun v75 ev75 => ?_)
            have bv75 : v75.toInt = v36.toInt - 10 := by rw [ev75]; exact sub_k rfl rfl k37 ⟨Int.le_refl _, Int.le_refl _⟩ (by decide)
            have k76 : (-2) ≤ v75.toInt ∧ v75.toInt ≤ 238 := sub_r bv75 k37 ⟨Int.le_refl _, Int.le_refl _⟩ (by decide)
            refine call_Ti (wr := [(h_manner, .inl (cI, 4, .inl g35)), (p0, .inr (1, vL 18 F_p0_)), (h_p0_feet, .inl (cI, 12, .inl f_p0_feet)), (h_p0_weight, .inl (cI, 12, .inl f_p0_weight)), (p1, .inr (5, vL 11 F_p1_)), (h_p1_crew, .inl (cI, 4, .inl f_p1_crew)), (h_p1_yard, .inl (cI, 4, .inl f_p1_yard)), (h0, .inr (7, vL 18 F40))]) (As := [.int v75]) (rest := []) hx hb hml hown hw (m_X9_bounded l D cI cJ cB cP cM cZ v75 _ ) wT_X9_bounded (hG.2.1 (.methodLinkNest "FourSledge$Ride" 93 ⟨"FourSledge", "bounded", "(I)I"⟩ "FourSledge") (by decide +kernel)) dX7_behindJumps_140 hP hD hS hA [] [0, 1, 2, 3, 4, 5, 6, 7] rfl rfl (by decide) (by decide) (by decide) GG.fb hG.at hl.1 rfl (Nat.le_of_ble_eq_true rfl) ⟨(Nat.le_of_ble_eq_true rfl), (Nat.le_of_ble_eq_true rfl)⟩ ⟨(Nat.le_of_ble_eq_true rfl), (Nat.le_of_ble_eq_true rfl)⟩ (fun r77 u H locs hp hP hD hS => ?_)
            obtain ⟨t78, rfl⟩ := hp
            have hP : va_P D vwCl [(h_manner, .inl (cI, 4, .inl g35)), (p0, .inr (1, vL 18 F_p0_)), (h_p0_feet, .inl (cI, 12, .inl f_p0_feet)), (h_p0_weight, .inl (cI, 12, .inl f_p0_weight)), (p1, .inr (5, vL 11 F_p1_)), (h_p1_crew, .inl (cI, 4, .inl f_p1_crew)), (h_p1_yard, .inl (cI, 4, .inl f_p1_yard)), (h0, .inr (7, vL 18 F40))] H := hP
            have hD : va_D A [(h_manner, .inl (cI, 4, .inl g35)), (p0, .inr (1, vL 18 F_p0_)), (h_p0_feet, .inl (cI, 12, .inl f_p0_feet)), (h_p0_weight, .inl (cI, 12, .inl f_p0_weight)), (p1, .inr (5, vL 11 F_p1_)), (h_p1_crew, .inl (cI, 4, .inl f_p1_crew)), (h_p1_yard, .inl (cI, 4, .inl f_p1_yard)), (h0, .inr (7, vL 18 F40))] := hD
            refine W.widen (k := 0) (n := 0) (Nat.le_of_ble_eq_true rfl) (Nat.le_of_ble_eq_true rfl) ?_
            refine lv_istore (lv' := [(5, .int r77), (8, .int 0), (7, .int v23), (6, .int u1), (0, .ref h0), (1, .ref p0), (2, .ref p1), (3, .int p2), (4, .int p3)]) hx hb dX7_behindJumps_143 hl (by decide) rfl (fun ls hl => ?_)
            refine lv_aload_n hx hb dX7_behindJumps_145 rfl (lv_at hl 4 rfl) ?_
            refine lv_dup hx hb dX7_behindJumps_146 rfl ?_
            have n79 : F40 5 = .int u4 := (SAME.at t42 (by decide) i13)
            refine get_f (D := D) (ci := 7) (v := .int u4) (C := RX7) (T := TX7) (N := 18) hx hb hw inAX7 hown hK hP 7 rfl rfl 5 (by decide) (hw _ q_215) (fun _ h9 => h9) n79 dX7_behindJumps_147 ?_
            refine lv_iconst (v := 1) hx hb dX7_behindJumps_150 (by decide) ?_
            refine lv_iload hx hb dX7_behindJumps_151 (lv_at hl 3 rfl) ?_
            refine lv_ishl hx hb dX7_behindJumps_153 ?_
            refine lv_topi (fun v80 ev80 => ?_)
            have k81 : 1 ≤ v80.toInt ∧ v80.toInt ≤ 8 := by rw [ev80]; exact shl1_i (Int.le_trans (by decide) k20.1) (Int.le_trans k20.2 (by decide))
            refine lv_ior hx hb dX7_behindJumps_154 ?_
            refine lv_topi (fun v82 ev82 => ?_)
            refine put_f (D := D) (ci := 7) (v := .int v82) (ty := .int) (C := RX7) (T := TX7) (N := 18) hx hb hw inAX7 tyX7 tyX7_ok nmX7 hown hK hP hD hS 7 rfl rfl 5 (by decide) (hw _ q_215) (fun _ h9 => h9) rfl (by decide +kernel) rfl rfl dX7_behindJumps_155 (fun H locs F83 eF83 hP hD hS => ?_)
            have hP : va_P D vwCl [(h_manner, .inl (cI, 4, .inl g35)), (p0, .inr (1, vL 18 F_p0_)), (h_p0_feet, .inl (cI, 12, .inl f_p0_feet)), (h_p0_weight, .inl (cI, 12, .inl f_p0_weight)), (p1, .inr (5, vL 11 F_p1_)), (h_p1_crew, .inl (cI, 4, .inl f_p1_crew)), (h_p1_yard, .inl (cI, 4, .inl f_p1_yard)), (h0, .inr (7, vL 18 F83))] H := hP
            have hD : va_D A [(h_manner, .inl (cI, 4, .inl g35)), (p0, .inr (1, vL 18 F_p0_)), (h_p0_feet, .inl (cI, 12, .inl f_p0_feet)), (h_p0_weight, .inl (cI, 12, .inl f_p0_weight)), (p1, .inr (5, vL 11 F_p1_)), (h_p1_crew, .inl (cI, 4, .inl f_p1_crew)), (h_p1_yard, .inl (cI, 4, .inl f_p1_yard)), (h0, .inr (7, vL 18 F83))] := hD
            refine lv_aload_n hx hb dX7_behindJumps_158 rfl (lv_at hl 4 rfl) ?_
            refine lv_dup hx hb dX7_behindJumps_159 rfl ?_
            have n84 : F40 12 = .int u6 := (SAME.at t42 (by decide) i15)
            have n85 : F83 12 = .int u6 := (get_ne eF83 (by decide) n84)
            refine get_f (D := D) (ci := 7) (v := .int u6) (C := RX7) (T := TX7) (N := 18) hx hb hw inAX7 hown hK hP 7 rfl rfl 12 (by decide) (hw _ q_229) (fun _ h9 => h9) n85 dX7_behindJumps_160 ?_
            refine lv_aload_n hx hb dX7_behindJumps_163 rfl (lv_at hl 5 rfl) ?_
            refine get_f (D := D) (ci := 1) (v := .ref h_p0_weight) (C := RX1) (T := TX1) (N := 18) hx hb hw inAX1 hown hK hP 1 rfl rfl 5 (by decide) (hw _ q_333) (fun _ h9 => h9) e_p0_weight dX7_behindJumps_164 ?_
            refine lv_iload hx hb dX7_behindJumps_167 (lv_at hl 2 rfl) ?_
            refine va_iald hx hb hK hP 3 0 rfl rfl (ix_k k24 (by decide) (by decide)) dX7_behindJumps_169 ?_
            refine lv_topi (fun v86 ev86 => ?_)
            refine lv_iadd hx hb dX7_behindJumps_170 ?_
            refine lv_topi (fun v87 ev87 => ?_)
            refine put_f (D := D) (ci := 7) (v := .int v87) (ty := .int) (C := RX7) (T := TX7) (N := 18) hx hb hw inAX7 tyX7 tyX7_ok nmX7 hown hK hP hD hS 7 rfl rfl 12 (by decide) (hw _ q_229) (fun _ h9 => h9) rfl (by decide +kernel) rfl rfl dX7_behindJumps_171 (fun H locs F88 eF88 hP hD hS => ?_)
            have hP : va_P D vwCl [(h_manner, .inl (cI, 4, .inl g35)), (p0, .inr (1, vL 18 F_p0_)), (h_p0_feet, .inl (cI, 12, .inl f_p0_feet)), (h_p0_weight, .inl (cI, 12, .inl f_p0_weight)), (p1, .inr (5, vL 11 F_p1_)), (h_p1_crew, .inl (cI, 4, .inl f_p1_crew)), (h_p1_yard, .inl (cI, 4, .inl f_p1_yard)), (h0, .inr (7, vL 18 F88))] H := hP
            have hD : va_D A [(h_manner, .inl (cI, 4, .inl g35)), (p0, .inr (1, vL 18 F_p0_)), (h_p0_feet, .inl (cI, 12, .inl f_p0_feet)), (h_p0_weight, .inl (cI, 12, .inl f_p0_weight)), (p1, .inr (5, vL 11 F_p1_)), (h_p1_crew, .inl (cI, 4, .inl f_p1_crew)), (h_p1_yard, .inl (cI, 4, .inl f_p1_yard)), (h0, .inr (7, vL 18 F88))] := hD
            refine lv_aload_n hx hb dX7_behindJumps_174 rfl (lv_at hl 4 rfl) ?_
            refine lv_iload_n hx hb dX7_behindJumps_175 rfl (lv_at hl 7 rfl) ?_
            refine put_f (D := D) (ci := 7) (v := .int p2) (ty := .int) (C := RX7) (T := TX7) (N := 18) hx hb hw inAX7 tyX7 tyX7_ok nmX7 hown hK hP hD hS 7 rfl rfl 13 (by decide) (hw _ q_230) (fun _ h9 => h9) rfl (by decide +kernel) rfl rfl dX7_behindJumps_176 (fun H locs F89 eF89 hP hD hS => ?_)
            have hP : va_P D vwCl [(h_manner, .inl (cI, 4, .inl g35)), (p0, .inr (1, vL 18 F_p0_)), (h_p0_feet, .inl (cI, 12, .inl f_p0_feet)), (h_p0_weight, .inl (cI, 12, .inl f_p0_weight)), (p1, .inr (5, vL 11 F_p1_)), (h_p1_crew, .inl (cI, 4, .inl f_p1_crew)), (h_p1_yard, .inl (cI, 4, .inl f_p1_yard)), (h0, .inr (7, vL 18 F89))] H := hP
            have hD : va_D A [(h_manner, .inl (cI, 4, .inl g35)), (p0, .inr (1, vL 18 F_p0_)), (h_p0_feet, .inl (cI, 12, .inl f_p0_feet)), (h_p0_weight, .inl (cI, 12, .inl f_p0_weight)), (p1, .inr (5, vL 11 F_p1_)), (h_p1_crew, .inl (cI, 4, .inl f_p1_crew)), (h_p1_yard, .inl (cI, 4, .inl f_p1_yard)), (h0, .inr (7, vL 18 F89))] := hD
            obtain ⟨v90, ev90⟩ : ∃ z : Int32, z = u1 + 1 := ⟨_, rfl⟩
            have bv90 : v90.toInt = u1.toInt + 1 := by rw [ev90]; exact add_k rfl rfl k20 ⟨Int.le_refl _, Int.le_refl _⟩ (by decide)
            have k91 : 1 ≤ v90.toInt ∧ v90.toInt ≤ 4 := add_r bv90 k20 ⟨Int.le_refl _, Int.le_refl _⟩ (by decide)
            refine lv_iinc (v := v90) (lv' := [(6, .int v90), (5, .int r77), (8, .int 0), (7, .int v23), (0, .ref h0), (1, .ref p0), (2, .ref p1), (3, .int p2), (4, .int p3)]) hx hb dX7_behindJumps_179 hl (k := 3) rfl (by rw [ev90]; rfl) (by decide) rfl (fun ls hl => ?_)
            refine lv_goto (tgt := 7) hx hb dX7_behindJumps_182 (by decide) ?_
            have n92 : F88 5 = .int v82 := (get_ne eF88 (by decide) (get_eq eF83))
            have n93 : F89 5 = .int v82 := (get_ne eF89 (by decide) n92)
            have n94 : F40 6 = .int u5 := (SAME.at t42 (by decide) i14)
            have n95 : F83 6 = .int u5 := (get_ne eF83 (by decide) n94)
            have n96 : F88 6 = .int u5 := (get_ne eF88 (by decide) n95)
            have n97 : F89 6 = .int u5 := (get_ne eF89 (by decide) n96)
            have n98 : F89 12 = .int v87 := (get_ne eF89 (by decide) (get_eq eF88))
            have n99 : F83 15 = .int y41 := (get_ne eF83 (by decide) t43)
            have n100 : F88 15 = .int y41 := (get_ne eF88 (by decide) n99)
            have n101 : F89 15 = .int y41 := (get_ne eF89 (by decide) n100)
            exact ih (v90, r77, F89, v82, u5, v87, p2, y41, g35) ⟨(ir_wk k91 (by decide) (by decide)), t78, (SAME.up eF89 (SAME.up eF88 (SAME.up eF83 (SAME.tr (SAME.tr SAME.rf i12 (by decide)) t42 (by decide)) (by decide)) (by decide)) (by decide)), n93, n97, n98, (get_eq eF89), n101⟩ (by show (4 - v90.toInt).toNat < (4 - u1.toInt).toNat; omega) _ _ _ (hP.sub [7, 0, 1, 2, 3, 4, 5, 6] rfl) (hD.sub [7, 0, 1, 2, 3, 4, 5, 6] (by decide) rfl) hS (lv_sub hl [0, 1, 4, 5, 6, 7, 8] rfl)
        · have dc31 : v30.toInt ≤ u7.toInt := nlt_i (a := u7.toInt) (b := v30.toInt) rfl rfl c31
          refine lv_iconst (v := 1) hx hb dX7_behindJumps_88 (by decide) ?_
          refine lv_goto (tgt := 93) hx hb dX7_behindJumps_89 (by decide) ?_
          refine lv_istore (lv' := [(8, .int 1), (7, .int v23), (6, .int u1), (5, .int u2), (0, .ref h0), (1, .ref p0), (2, .ref p1), (3, .int p2), (4, .int p3)]) hx hb dX7_behindJumps_93 hl (by decide) rfl (fun ls hl => ?_)
          refine lv_aload_n hx hb dX7_behindJumps_95 rfl (lv_at hl 4 rfl) ?_
          have n102 : G3 1 = .ref h_manner := (SAME.at i12 (by decide) e_manner)
          refine get_f (D := D) (ci := 7) (v := .ref h_manner) (C := RX7) (T := TX7) (N := 18) hx hb hw inAX7 hown hK hP 0 rfl rfl 1 (by decide) (hw _ q_207) (fun _ h9 => h9) n102 dX7_behindJumps_96 ?_
          refine lv_iload hx hb dX7_behindJumps_99 (lv_at hl 2 rfl) ?_
          refine lv_iload hx hb dX7_behindJumps_101 (lv_at hl 0 rfl) ?_
          refine lv_if_eq (tgt := 110) hx hb dX7_behindJumps_103 (by decide) (fun g => absurd g (by decide)) (fun _ => ?_)
          refine lv_iconst (v := 1) hx hb dX7_behindJumps_106 (by decide) ?_
          refine lv_goto (tgt := 111) hx hb dX7_behindJumps_107 (by decide) ?_
          obtain ⟨g103, eg103⟩ : ∃ z : Nat → Int32, upd w9 u1.toNatClampNeg 1 = z := ⟨_, rfl⟩
          refine iast_g hx hb hK hP hD hS 1 0 rfl rfl (ix_k k20 (by decide) (by decide)) eg103 dX7_behindJumps_111 (fun H locs hP hD hS => ?_)
          have hP : va_P D vwCl [(h0, .inr (7, vL 18 G3)), (h_manner, .inl (cI, 4, .inl g103)), (p0, .inr (1, vL 18 F_p0_)), (h_p0_feet, .inl (cI, 12, .inl f_p0_feet)), (h_p0_weight, .inl (cI, 12, .inl f_p0_weight)), (p1, .inr (5, vL 11 F_p1_)), (h_p1_crew, .inl (cI, 4, .inl f_p1_crew)), (h_p1_yard, .inl (cI, 4, .inl f_p1_yard))] H := hP
          have hD : va_D A [(h0, .inr (7, vL 18 G3)), (h_manner, .inl (cI, 4, .inl g103)), (p0, .inr (1, vL 18 F_p0_)), (h_p0_feet, .inl (cI, 12, .inl f_p0_feet)), (h_p0_weight, .inl (cI, 12, .inl f_p0_weight)), (p1, .inr (5, vL 11 F_p1_)), (h_p1_crew, .inl (cI, 4, .inl f_p1_crew)), (h_p1_yard, .inl (cI, 4, .inl f_p1_yard))] := hD
          refine lv_iload hx hb dX7_behindJumps_112 (lv_at hl 3 rfl) ?_
          refine lv_iload hx hb dX7_behindJumps_114 (lv_at hl 0 rfl) ?_
          refine lv_if_eq (tgt := 124) hx hb dX7_behindJumps_116 (by decide) (fun g => absurd g (by decide)) (fun _ => ?_)
          refine lv_bipush (v := 6) hx hb dX7_behindJumps_119 (by decide) ?_
          refine lv_goto (tgt := 125) hx hb dX7_behindJumps_121 (by decide) ?_
          refine lv_isub hx hb dX7_behindJumps_125 ?_
          refine lv_topi (fun v104 ev104 => ?_)
          have bv104 : v104.toInt = u2.toInt - 6 := by rw [ev104]; exact sub_k rfl rfl i11 ⟨Int.le_refl _, Int.le_refl _⟩ (by decide)
          have k105 : 4 ≤ v104.toInt ∧ v104.toInt ≤ 244 := sub_r bv104 i11 ⟨Int.le_refl _, Int.le_refl _⟩ (by decide)
          refine lv_aload_n hx hb dX7_behindJumps_126 rfl (lv_at hl 4 rfl) ?_
          have n106 : G3 14 = .int x_kicks := (SAME.at i12 (by decide) e_kicks)
          refine call_Vi (wr := [(h_manner, .inl (cI, 4, .inl g103)), (p0, .inr (1, vL 18 F_p0_)), (h_p0_feet, .inl (cI, 12, .inl f_p0_feet)), (h_p0_weight, .inl (cI, 12, .inl f_p0_weight)), (p1, .inr (5, vL 11 F_p1_)), (h_p1_crew, .inl (cI, 4, .inl f_p1_crew)), (h_p1_yard, .inl (cI, 4, .inl f_p1_yard))]) (As := []) (rest := [.int v104]) hx hb hml hown hw (m_X7_drawsKick l D cI cJ cB cP cM cZ h0 G3 x_kicks u8 _ n106 i_x_kicks i17) wV_X7_121_X7_drawsKick dX7_behindJumps_127 hK hP hD hS hA [0] [1, 2, 3, 4, 5, 6, 7] rfl rfl (by decide) (by decide) (by decide) 0 7 rfl rfl GG.fb hG.at hl.1 rfl (Nat.le_of_ble_eq_true rfl) ⟨(Nat.le_of_ble_eq_true rfl), (Nat.le_of_ble_eq_true rfl)⟩ ⟨(Nat.le_of_ble_eq_true rfl), (Nat.le_of_ble_eq_true rfl)⟩ (fun r107 u H locs hp hP hD hS => ?_)
          obtain ⟨F108, y109, t110, t111, t112, rfl⟩ := hp
          have hP : va_P D vwCl [(h_manner, .inl (cI, 4, .inl g103)), (p0, .inr (1, vL 18 F_p0_)), (h_p0_feet, .inl (cI, 12, .inl f_p0_feet)), (h_p0_weight, .inl (cI, 12, .inl f_p0_weight)), (p1, .inr (5, vL 11 F_p1_)), (h_p1_crew, .inl (cI, 4, .inl f_p1_crew)), (h_p1_yard, .inl (cI, 4, .inl f_p1_yard)), (h0, .inr (7, vL 18 F108))] H := hP
          have hD : va_D A [(h_manner, .inl (cI, 4, .inl g103)), (p0, .inr (1, vL 18 F_p0_)), (h_p0_feet, .inl (cI, 12, .inl f_p0_feet)), (h_p0_weight, .inl (cI, 12, .inl f_p0_weight)), (p1, .inr (5, vL 11 F_p1_)), (h_p1_crew, .inl (cI, 4, .inl f_p1_crew)), (h_p1_yard, .inl (cI, 4, .inl f_p1_yard)), (h0, .inr (7, vL 18 F108))] := hD
          refine W.widen (k := 0) (n := 0) (Nat.le_of_ble_eq_true rfl) (Nat.le_of_ble_eq_true rfl) ?_
          refine lv_if_eq (tgt := 138) hx hb dX7_behindJumps_130 (by decide) (fun c113 => ?_) (fun c113 => ?_)
          · have dc113 : r107.toInt = 0 := eq_i (a := r107.toInt) (b := 0) rfl rfl c113
            have k114 : 0 ≤ r107.toInt ∧ r107.toInt ≤ 0 := ⟨t112.1, Int.le_trans (Int.le_of_eq dc113) (Int.le_refl _)⟩
            refine lv_iconst (v := 0) hx hb dX7_behindJumps_138 (by decide) ?_
            refine lv_isub hx hb dX7_behindJumps_139 ?_
            refine lv_topi (fun v115 ev115 => ?_)
            have bv115 : v115.toInt = v104.toInt - 0 := by rw [ev115]; exact sub_k rfl rfl k105 ⟨Int.le_refl _, Int.le_refl _⟩ (by decide)
            have k116 : 4 ≤ v115.toInt ∧ v115.toInt ≤ 244 := sub_r bv115 k105 ⟨Int.le_refl _, Int.le_refl _⟩ (by decide)
            refine call_Ti (wr := [(h_manner, .inl (cI, 4, .inl g103)), (p0, .inr (1, vL 18 F_p0_)), (h_p0_feet, .inl (cI, 12, .inl f_p0_feet)), (h_p0_weight, .inl (cI, 12, .inl f_p0_weight)), (p1, .inr (5, vL 11 F_p1_)), (h_p1_crew, .inl (cI, 4, .inl f_p1_crew)), (h_p1_yard, .inl (cI, 4, .inl f_p1_yard)), (h0, .inr (7, vL 18 F108))]) (As := [.int v115]) (rest := []) hx hb hml hown hw (m_X9_bounded l D cI cJ cB cP cM cZ v115 _ ) wT_X9_bounded (hG.2.1 (.methodLinkNest "FourSledge$Ride" 93 ⟨"FourSledge", "bounded", "(I)I"⟩ "FourSledge") (by decide +kernel)) dX7_behindJumps_140 hP hD hS hA [] [0, 1, 2, 3, 4, 5, 6, 7] rfl rfl (by decide) (by decide) (by decide) GG.fb hG.at hl.1 rfl (Nat.le_of_ble_eq_true rfl) ⟨(Nat.le_of_ble_eq_true rfl), (Nat.le_of_ble_eq_true rfl)⟩ ⟨(Nat.le_of_ble_eq_true rfl), (Nat.le_of_ble_eq_true rfl)⟩ (fun r117 u H locs hp hP hD hS => ?_)
            obtain ⟨t118, rfl⟩ := hp
            have hP : va_P D vwCl [(h_manner, .inl (cI, 4, .inl g103)), (p0, .inr (1, vL 18 F_p0_)), (h_p0_feet, .inl (cI, 12, .inl f_p0_feet)), (h_p0_weight, .inl (cI, 12, .inl f_p0_weight)), (p1, .inr (5, vL 11 F_p1_)), (h_p1_crew, .inl (cI, 4, .inl f_p1_crew)), (h_p1_yard, .inl (cI, 4, .inl f_p1_yard)), (h0, .inr (7, vL 18 F108))] H := hP
            have hD : va_D A [(h_manner, .inl (cI, 4, .inl g103)), (p0, .inr (1, vL 18 F_p0_)), (h_p0_feet, .inl (cI, 12, .inl f_p0_feet)), (h_p0_weight, .inl (cI, 12, .inl f_p0_weight)), (p1, .inr (5, vL 11 F_p1_)), (h_p1_crew, .inl (cI, 4, .inl f_p1_crew)), (h_p1_yard, .inl (cI, 4, .inl f_p1_yard)), (h0, .inr (7, vL 18 F108))] := hD
            refine W.widen (k := 0) (n := 0) (Nat.le_of_ble_eq_true rfl) (Nat.le_of_ble_eq_true rfl) ?_
            refine lv_istore (lv' := [(5, .int r117), (8, .int 1), (7, .int v23), (6, .int u1), (0, .ref h0), (1, .ref p0), (2, .ref p1), (3, .int p2), (4, .int p3)]) hx hb dX7_behindJumps_143 hl (by decide) rfl (fun ls hl => ?_)
            refine lv_aload_n hx hb dX7_behindJumps_145 rfl (lv_at hl 4 rfl) ?_
            refine lv_dup hx hb dX7_behindJumps_146 rfl ?_
            have n119 : F108 5 = .int u4 := (SAME.at t110 (by decide) i13)
            refine get_f (D := D) (ci := 7) (v := .int u4) (C := RX7) (T := TX7) (N := 18) hx hb hw inAX7 hown hK hP 7 rfl rfl 5 (by decide) (hw _ q_215) (fun _ h9 => h9) n119 dX7_behindJumps_147 ?_
            refine lv_iconst (v := 1) hx hb dX7_behindJumps_150 (by decide) ?_
            refine lv_iload hx hb dX7_behindJumps_151 (lv_at hl 3 rfl) ?_
            refine lv_ishl hx hb dX7_behindJumps_153 ?_
            refine lv_topi (fun v120 ev120 => ?_)
            have k121 : 1 ≤ v120.toInt ∧ v120.toInt ≤ 8 := by rw [ev120]; exact shl1_i (Int.le_trans (by decide) k20.1) (Int.le_trans k20.2 (by decide))
            refine lv_ior hx hb dX7_behindJumps_154 ?_
            refine lv_topi (fun v122 ev122 => ?_)
            refine put_f (D := D) (ci := 7) (v := .int v122) (ty := .int) (C := RX7) (T := TX7) (N := 18) hx hb hw inAX7 tyX7 tyX7_ok nmX7 hown hK hP hD hS 7 rfl rfl 5 (by decide) (hw _ q_215) (fun _ h9 => h9) rfl (by decide +kernel) rfl rfl dX7_behindJumps_155 (fun H locs F123 eF123 hP hD hS => ?_)
            have hP : va_P D vwCl [(h_manner, .inl (cI, 4, .inl g103)), (p0, .inr (1, vL 18 F_p0_)), (h_p0_feet, .inl (cI, 12, .inl f_p0_feet)), (h_p0_weight, .inl (cI, 12, .inl f_p0_weight)), (p1, .inr (5, vL 11 F_p1_)), (h_p1_crew, .inl (cI, 4, .inl f_p1_crew)), (h_p1_yard, .inl (cI, 4, .inl f_p1_yard)), (h0, .inr (7, vL 18 F123))] H := hP
            have hD : va_D A [(h_manner, .inl (cI, 4, .inl g103)), (p0, .inr (1, vL 18 F_p0_)), (h_p0_feet, .inl (cI, 12, .inl f_p0_feet)), (h_p0_weight, .inl (cI, 12, .inl f_p0_weight)), (p1, .inr (5, vL 11 F_p1_)), (h_p1_crew, .inl (cI, 4, .inl f_p1_crew)), (h_p1_yard, .inl (cI, 4, .inl f_p1_yard)), (h0, .inr (7, vL 18 F123))] := hD
            refine lv_aload_n hx hb dX7_behindJumps_158 rfl (lv_at hl 4 rfl) ?_
            refine lv_dup hx hb dX7_behindJumps_159 rfl ?_
            have n124 : F108 12 = .int u6 := (SAME.at t110 (by decide) i15)
            have n125 : F123 12 = .int u6 := (get_ne eF123 (by decide) n124)
            refine get_f (D := D) (ci := 7) (v := .int u6) (C := RX7) (T := TX7) (N := 18) hx hb hw inAX7 hown hK hP 7 rfl rfl 12 (by decide) (hw _ q_229) (fun _ h9 => h9) n125 dX7_behindJumps_160 ?_
            refine lv_aload_n hx hb dX7_behindJumps_163 rfl (lv_at hl 5 rfl) ?_
            refine get_f (D := D) (ci := 1) (v := .ref h_p0_weight) (C := RX1) (T := TX1) (N := 18) hx hb hw inAX1 hown hK hP 1 rfl rfl 5 (by decide) (hw _ q_333) (fun _ h9 => h9) e_p0_weight dX7_behindJumps_164 ?_
            refine lv_iload hx hb dX7_behindJumps_167 (lv_at hl 2 rfl) ?_
            refine va_iald hx hb hK hP 3 0 rfl rfl (ix_k k24 (by decide) (by decide)) dX7_behindJumps_169 ?_
            refine lv_topi (fun v126 ev126 => ?_)
            refine lv_iadd hx hb dX7_behindJumps_170 ?_
            refine lv_topi (fun v127 ev127 => ?_)
            refine put_f (D := D) (ci := 7) (v := .int v127) (ty := .int) (C := RX7) (T := TX7) (N := 18) hx hb hw inAX7 tyX7 tyX7_ok nmX7 hown hK hP hD hS 7 rfl rfl 12 (by decide) (hw _ q_229) (fun _ h9 => h9) rfl (by decide +kernel) rfl rfl dX7_behindJumps_171 (fun H locs F128 eF128 hP hD hS => ?_)
            have hP : va_P D vwCl [(h_manner, .inl (cI, 4, .inl g103)), (p0, .inr (1, vL 18 F_p0_)), (h_p0_feet, .inl (cI, 12, .inl f_p0_feet)), (h_p0_weight, .inl (cI, 12, .inl f_p0_weight)), (p1, .inr (5, vL 11 F_p1_)), (h_p1_crew, .inl (cI, 4, .inl f_p1_crew)), (h_p1_yard, .inl (cI, 4, .inl f_p1_yard)), (h0, .inr (7, vL 18 F128))] H := hP
            have hD : va_D A [(h_manner, .inl (cI, 4, .inl g103)), (p0, .inr (1, vL 18 F_p0_)), (h_p0_feet, .inl (cI, 12, .inl f_p0_feet)), (h_p0_weight, .inl (cI, 12, .inl f_p0_weight)), (p1, .inr (5, vL 11 F_p1_)), (h_p1_crew, .inl (cI, 4, .inl f_p1_crew)), (h_p1_yard, .inl (cI, 4, .inl f_p1_yard)), (h0, .inr (7, vL 18 F128))] := hD
            refine lv_aload_n hx hb dX7_behindJumps_174 rfl (lv_at hl 4 rfl) ?_
            refine lv_iload_n hx hb dX7_behindJumps_175 rfl (lv_at hl 7 rfl) ?_
            refine put_f (D := D) (ci := 7) (v := .int p2) (ty := .int) (C := RX7) (T := TX7) (N := 18) hx hb hw inAX7 tyX7 tyX7_ok nmX7 hown hK hP hD hS 7 rfl rfl 13 (by decide) (hw _ q_230) (fun _ h9 => h9) rfl (by decide +kernel) rfl rfl dX7_behindJumps_176 (fun H locs F129 eF129 hP hD hS => ?_)
            have hP : va_P D vwCl [(h_manner, .inl (cI, 4, .inl g103)), (p0, .inr (1, vL 18 F_p0_)), (h_p0_feet, .inl (cI, 12, .inl f_p0_feet)), (h_p0_weight, .inl (cI, 12, .inl f_p0_weight)), (p1, .inr (5, vL 11 F_p1_)), (h_p1_crew, .inl (cI, 4, .inl f_p1_crew)), (h_p1_yard, .inl (cI, 4, .inl f_p1_yard)), (h0, .inr (7, vL 18 F129))] H := hP
            have hD : va_D A [(h_manner, .inl (cI, 4, .inl g103)), (p0, .inr (1, vL 18 F_p0_)), (h_p0_feet, .inl (cI, 12, .inl f_p0_feet)), (h_p0_weight, .inl (cI, 12, .inl f_p0_weight)), (p1, .inr (5, vL 11 F_p1_)), (h_p1_crew, .inl (cI, 4, .inl f_p1_crew)), (h_p1_yard, .inl (cI, 4, .inl f_p1_yard)), (h0, .inr (7, vL 18 F129))] := hD
            obtain ⟨v130, ev130⟩ : ∃ z : Int32, z = u1 + 1 := ⟨_, rfl⟩
            have bv130 : v130.toInt = u1.toInt + 1 := by rw [ev130]; exact add_k rfl rfl k20 ⟨Int.le_refl _, Int.le_refl _⟩ (by decide)
            have k131 : 1 ≤ v130.toInt ∧ v130.toInt ≤ 4 := add_r bv130 k20 ⟨Int.le_refl _, Int.le_refl _⟩ (by decide)
            refine lv_iinc (v := v130) (lv' := [(6, .int v130), (5, .int r117), (8, .int 1), (7, .int v23), (0, .ref h0), (1, .ref p0), (2, .ref p1), (3, .int p2), (4, .int p3)]) hx hb dX7_behindJumps_179 hl (k := 3) rfl (by rw [ev130]; rfl) (by decide) rfl (fun ls hl => ?_)
            refine lv_goto (tgt := 7) hx hb dX7_behindJumps_182 (by decide) ?_
            have n132 : F128 5 = .int v122 := (get_ne eF128 (by decide) (get_eq eF123))
            have n133 : F129 5 = .int v122 := (get_ne eF129 (by decide) n132)
            have n134 : F108 6 = .int u5 := (SAME.at t110 (by decide) i14)
            have n135 : F123 6 = .int u5 := (get_ne eF123 (by decide) n134)
            have n136 : F128 6 = .int u5 := (get_ne eF128 (by decide) n135)
            have n137 : F129 6 = .int u5 := (get_ne eF129 (by decide) n136)
            have n138 : F129 12 = .int v127 := (get_ne eF129 (by decide) (get_eq eF128))
            have n139 : F123 15 = .int y109 := (get_ne eF123 (by decide) t111)
            have n140 : F128 15 = .int y109 := (get_ne eF128 (by decide) n139)
            have n141 : F129 15 = .int y109 := (get_ne eF129 (by decide) n140)
            exact ih (v130, r117, F129, v122, u5, v127, p2, y109, g103) ⟨(ir_wk k131 (by decide) (by decide)), t118, (SAME.up eF129 (SAME.up eF128 (SAME.up eF123 (SAME.tr (SAME.tr SAME.rf i12 (by decide)) t110 (by decide)) (by decide)) (by decide)) (by decide)), n133, n137, n138, (get_eq eF129), n141⟩ (by show (4 - v130.toInt).toNat < (4 - u1.toInt).toNat; omega) _ _ _ (hP.sub [7, 0, 1, 2, 3, 4, 5, 6] rfl) (hD.sub [7, 0, 1, 2, 3, 4, 5, 6] (by decide) rfl) hS (lv_sub hl [0, 1, 4, 5, 6, 7, 8] rfl)
          · have dc113 : r107.toInt ≠ 0 := ne_i (a := r107.toInt) (b := 0) rfl rfl c113
            have k142 : 1 ≤ r107.toInt ∧ r107.toInt ≤ 1 := ⟨ne_lo dc113 t112.1 ⟨Int.le_refl _, Int.le_refl _⟩ (by decide), t112.2⟩
            refine lv_bipush (v := 10) hx hb dX7_behindJumps_133 (by decide) ?_
            refine lv_goto (tgt := 139) hx hb dX7_behindJumps_135 (by decide) ?_
            refine lv_isub hx hb dX7_behindJumps_139 ?_
            refine lv_topi (fun v143 ev143 => ?_)
            have bv143 : v143.toInt = v104.toInt - 10 := by rw [ev143]; exact sub_k rfl rfl k105 ⟨Int.le_refl _, Int.le_refl _⟩ (by decide)
            have k144 : (-6) ≤ v143.toInt ∧ v143.toInt ≤ 234 := sub_r bv143 k105 ⟨Int.le_refl _, Int.le_refl _⟩ (by decide)
            refine call_Ti (wr := [(h_manner, .inl (cI, 4, .inl g103)), (p0, .inr (1, vL 18 F_p0_)), (h_p0_feet, .inl (cI, 12, .inl f_p0_feet)), (h_p0_weight, .inl (cI, 12, .inl f_p0_weight)), (p1, .inr (5, vL 11 F_p1_)), (h_p1_crew, .inl (cI, 4, .inl f_p1_crew)), (h_p1_yard, .inl (cI, 4, .inl f_p1_yard)), (h0, .inr (7, vL 18 F108))]) (As := [.int v143]) (rest := []) hx hb hml hown hw (m_X9_bounded l D cI cJ cB cP cM cZ v143 _ ) wT_X9_bounded (hG.2.1 (.methodLinkNest "FourSledge$Ride" 93 ⟨"FourSledge", "bounded", "(I)I"⟩ "FourSledge") (by decide +kernel)) dX7_behindJumps_140 hP hD hS hA [] [0, 1, 2, 3, 4, 5, 6, 7] rfl rfl (by decide) (by decide) (by decide) GG.fb hG.at hl.1 rfl (Nat.le_of_ble_eq_true rfl) ⟨(Nat.le_of_ble_eq_true rfl), (Nat.le_of_ble_eq_true rfl)⟩ ⟨(Nat.le_of_ble_eq_true rfl), (Nat.le_of_ble_eq_true rfl)⟩ (fun r145 u H locs hp hP hD hS => ?_)
            obtain ⟨t146, rfl⟩ := hp
            have hP : va_P D vwCl [(h_manner, .inl (cI, 4, .inl g103)), (p0, .inr (1, vL 18 F_p0_)), (h_p0_feet, .inl (cI, 12, .inl f_p0_feet)), (h_p0_weight, .inl (cI, 12, .inl f_p0_weight)), (p1, .inr (5, vL 11 F_p1_)), (h_p1_crew, .inl (cI, 4, .inl f_p1_crew)), (h_p1_yard, .inl (cI, 4, .inl f_p1_yard)), (h0, .inr (7, vL 18 F108))] H := hP
            have hD : va_D A [(h_manner, .inl (cI, 4, .inl g103)), (p0, .inr (1, vL 18 F_p0_)), (h_p0_feet, .inl (cI, 12, .inl f_p0_feet)), (h_p0_weight, .inl (cI, 12, .inl f_p0_weight)), (p1, .inr (5, vL 11 F_p1_)), (h_p1_crew, .inl (cI, 4, .inl f_p1_crew)), (h_p1_yard, .inl (cI, 4, .inl f_p1_yard)), (h0, .inr (7, vL 18 F108))] := hD
            refine W.widen (k := 0) (n := 0) (Nat.le_of_ble_eq_true rfl) (Nat.le_of_ble_eq_true rfl) ?_
            refine lv_istore (lv' := [(5, .int r145), (8, .int 1), (7, .int v23), (6, .int u1), (0, .ref h0), (1, .ref p0), (2, .ref p1), (3, .int p2), (4, .int p3)]) hx hb dX7_behindJumps_143 hl (by decide) rfl (fun ls hl => ?_)
            refine lv_aload_n hx hb dX7_behindJumps_145 rfl (lv_at hl 4 rfl) ?_
            refine lv_dup hx hb dX7_behindJumps_146 rfl ?_
            have n147 : F108 5 = .int u4 := (SAME.at t110 (by decide) i13)
            refine get_f (D := D) (ci := 7) (v := .int u4) (C := RX7) (T := TX7) (N := 18) hx hb hw inAX7 hown hK hP 7 rfl rfl 5 (by decide) (hw _ q_215) (fun _ h9 => h9) n147 dX7_behindJumps_147 ?_
            refine lv_iconst (v := 1) hx hb dX7_behindJumps_150 (by decide) ?_
            refine lv_iload hx hb dX7_behindJumps_151 (lv_at hl 3 rfl) ?_
            refine lv_ishl hx hb dX7_behindJumps_153 ?_
            refine lv_topi (fun v148 ev148 => ?_)
            have k149 : 1 ≤ v148.toInt ∧ v148.toInt ≤ 8 := by rw [ev148]; exact shl1_i (Int.le_trans (by decide) k20.1) (Int.le_trans k20.2 (by decide))
            refine lv_ior hx hb dX7_behindJumps_154 ?_
            refine lv_topi (fun v150 ev150 => ?_)
            refine put_f (D := D) (ci := 7) (v := .int v150) (ty := .int) (C := RX7) (T := TX7) (N := 18) hx hb hw inAX7 tyX7 tyX7_ok nmX7 hown hK hP hD hS 7 rfl rfl 5 (by decide) (hw _ q_215) (fun _ h9 => h9) rfl (by decide +kernel) rfl rfl dX7_behindJumps_155 (fun H locs F151 eF151 hP hD hS => ?_)
            have hP : va_P D vwCl [(h_manner, .inl (cI, 4, .inl g103)), (p0, .inr (1, vL 18 F_p0_)), (h_p0_feet, .inl (cI, 12, .inl f_p0_feet)), (h_p0_weight, .inl (cI, 12, .inl f_p0_weight)), (p1, .inr (5, vL 11 F_p1_)), (h_p1_crew, .inl (cI, 4, .inl f_p1_crew)), (h_p1_yard, .inl (cI, 4, .inl f_p1_yard)), (h0, .inr (7, vL 18 F151))] H := hP
            have hD : va_D A [(h_manner, .inl (cI, 4, .inl g103)), (p0, .inr (1, vL 18 F_p0_)), (h_p0_feet, .inl (cI, 12, .inl f_p0_feet)), (h_p0_weight, .inl (cI, 12, .inl f_p0_weight)), (p1, .inr (5, vL 11 F_p1_)), (h_p1_crew, .inl (cI, 4, .inl f_p1_crew)), (h_p1_yard, .inl (cI, 4, .inl f_p1_yard)), (h0, .inr (7, vL 18 F151))] := hD
            refine lv_aload_n hx hb dX7_behindJumps_158 rfl (lv_at hl 4 rfl) ?_
            refine lv_dup hx hb dX7_behindJumps_159 rfl ?_
            have n152 : F108 12 = .int u6 := (SAME.at t110 (by decide) i15)
            have n153 : F151 12 = .int u6 := (get_ne eF151 (by decide) n152)
            refine get_f (D := D) (ci := 7) (v := .int u6) (C := RX7) (T := TX7) (N := 18) hx hb hw inAX7 hown hK hP 7 rfl rfl 12 (by decide) (hw _ q_229) (fun _ h9 => h9) n153 dX7_behindJumps_160 ?_
            refine lv_aload_n hx hb dX7_behindJumps_163 rfl (lv_at hl 5 rfl) ?_
            refine get_f (D := D) (ci := 1) (v := .ref h_p0_weight) (C := RX1) (T := TX1) (N := 18) hx hb hw inAX1 hown hK hP 1 rfl rfl 5 (by decide) (hw _ q_333) (fun _ h9 => h9) e_p0_weight dX7_behindJumps_164 ?_
            refine lv_iload hx hb dX7_behindJumps_167 (lv_at hl 2 rfl) ?_
            refine va_iald hx hb hK hP 3 0 rfl rfl (ix_k k24 (by decide) (by decide)) dX7_behindJumps_169 ?_
            refine lv_topi (fun v154 ev154 => ?_)
            refine lv_iadd hx hb dX7_behindJumps_170 ?_
            refine lv_topi (fun v155 ev155 => ?_)
            refine put_f (D := D) (ci := 7) (v := .int v155) (ty := .int) (C := RX7) (T := TX7) (N := 18) hx hb hw inAX7 tyX7 tyX7_ok nmX7 hown hK hP hD hS 7 rfl rfl 12 (by decide) (hw _ q_229) (fun _ h9 => h9) rfl (by decide +kernel) rfl rfl dX7_behindJumps_171 (fun H locs F156 eF156 hP hD hS => ?_)
            have hP : va_P D vwCl [(h_manner, .inl (cI, 4, .inl g103)), (p0, .inr (1, vL 18 F_p0_)), (h_p0_feet, .inl (cI, 12, .inl f_p0_feet)), (h_p0_weight, .inl (cI, 12, .inl f_p0_weight)), (p1, .inr (5, vL 11 F_p1_)), (h_p1_crew, .inl (cI, 4, .inl f_p1_crew)), (h_p1_yard, .inl (cI, 4, .inl f_p1_yard)), (h0, .inr (7, vL 18 F156))] H := hP
            have hD : va_D A [(h_manner, .inl (cI, 4, .inl g103)), (p0, .inr (1, vL 18 F_p0_)), (h_p0_feet, .inl (cI, 12, .inl f_p0_feet)), (h_p0_weight, .inl (cI, 12, .inl f_p0_weight)), (p1, .inr (5, vL 11 F_p1_)), (h_p1_crew, .inl (cI, 4, .inl f_p1_crew)), (h_p1_yard, .inl (cI, 4, .inl f_p1_yard)), (h0, .inr (7, vL 18 F156))] := hD
            refine lv_aload_n hx hb dX7_behindJumps_174 rfl (lv_at hl 4 rfl) ?_
            refine lv_iload_n hx hb dX7_behindJumps_175 rfl (lv_at hl 7 rfl) ?_
            refine put_f (D := D) (ci := 7) (v := .int p2) (ty := .int) (C := RX7) (T := TX7) (N := 18) hx hb hw inAX7 tyX7 tyX7_ok nmX7 hown hK hP hD hS 7 rfl rfl 13 (by decide) (hw _ q_230) (fun _ h9 => h9) rfl (by decide +kernel) rfl rfl dX7_behindJumps_176 (fun H locs F157 eF157 hP hD hS => ?_)
            have hP : va_P D vwCl [(h_manner, .inl (cI, 4, .inl g103)), (p0, .inr (1, vL 18 F_p0_)), (h_p0_feet, .inl (cI, 12, .inl f_p0_feet)), (h_p0_weight, .inl (cI, 12, .inl f_p0_weight)), (p1, .inr (5, vL 11 F_p1_)), (h_p1_crew, .inl (cI, 4, .inl f_p1_crew)), (h_p1_yard, .inl (cI, 4, .inl f_p1_yard)), (h0, .inr (7, vL 18 F157))] H := hP
            have hD : va_D A [(h_manner, .inl (cI, 4, .inl g103)), (p0, .inr (1, vL 18 F_p0_)), (h_p0_feet, .inl (cI, 12, .inl f_p0_feet)), (h_p0_weight, .inl (cI, 12, .inl f_p0_weight)), (p1, .inr (5, vL 11 F_p1_)), (h_p1_crew, .inl (cI, 4, .inl f_p1_crew)), (h_p1_yard, .inl (cI, 4, .inl f_p1_yard)), (h0, .inr (7, vL 18 F157))] := hD
            obtain ⟨v158, ev158⟩ : ∃ z : Int32, z = u1 + 1 := ⟨_, rfl⟩
            have bv158 : v158.toInt = u1.toInt + 1 := by rw [ev158]; exact add_k rfl rfl k20 ⟨Int.le_refl _, Int.le_refl _⟩ (by decide)
            have k159 : 1 ≤ v158.toInt ∧ v158.toInt ≤ 4 := add_r bv158 k20 ⟨Int.le_refl _, Int.le_refl _⟩ (by decide)
            refine lv_iinc (v := v158) (lv' := [(6, .int v158), (5, .int r145), (8, .int 1), (7, .int v23), (0, .ref h0), (1, .ref p0), (2, .ref p1), (3, .int p2), (4, .int p3)]) hx hb dX7_behindJumps_179 hl (k := 3) rfl (by rw [ev158]; rfl) (by decide) rfl (fun ls hl => ?_)
            refine lv_goto (tgt := 7) hx hb dX7_behindJumps_182 (by decide) ?_
            have n160 : F156 5 = .int v150 := (get_ne eF156 (by decide) (get_eq eF151))
            have n161 : F157 5 = .int v150 := (get_ne eF157 (by decide) n160)
            have n162 : F108 6 = .int u5 := (SAME.at t110 (by decide) i14)
            have n163 : F151 6 = .int u5 := (get_ne eF151 (by decide) n162)
            have n164 : F156 6 = .int u5 := (get_ne eF156 (by decide) n163)
            have n165 : F157 6 = .int u5 := (get_ne eF157 (by decide) n164)
            have n166 : F157 12 = .int v155 := (get_ne eF157 (by decide) (get_eq eF156))
            have n167 : F151 15 = .int y109 := (get_ne eF151 (by decide) t111)
            have n168 : F156 15 = .int y109 := (get_ne eF156 (by decide) n167)
            have n169 : F157 15 = .int y109 := (get_ne eF157 (by decide) n168)
            exact ih (v158, r145, F157, v150, u5, v155, p2, y109, g103) ⟨(ir_wk k159 (by decide) (by decide)), t146, (SAME.up eF157 (SAME.up eF156 (SAME.up eF151 (SAME.tr (SAME.tr SAME.rf i12 (by decide)) t110 (by decide)) (by decide)) (by decide)) (by decide)), n161, n165, n166, (get_eq eF157), n169⟩ (by show (4 - v158.toInt).toNat < (4 - u1.toInt).toNat; omega) _ _ _ (hP.sub [7, 0, 1, 2, 3, 4, 5, 6] rfl) (hD.sub [7, 0, 1, 2, 3, 4, 5, 6] (by decide) rfl) hS (lv_sub hl [0, 1, 4, 5, 6, 7, 8] rfl)
      · have dc28 : v27.toInt < u2.toInt := nle_i (a := u2.toInt) (b := v27.toInt) rfl rfl c28
        have k170 : (-2147483648) ≤ v27.toInt ∧ v27.toInt ≤ 249 := ⟨(ir_any _).1, up_lt dc28 i11.2 (by decide)⟩
        refine lv_aload_n hx hb dX7_behindJumps_54 rfl (lv_at hl 3 rfl) ?_
        refine lv_dup hx hb dX7_behindJumps_55 rfl ?_
        refine get_f (D := D) (ci := 7) (v := .int u5) (C := RX7) (T := TX7) (N := 18) hx hb hw inAX7 hown hK hP 0 rfl rfl 6 (by decide) (hw _ q_217) (fun _ h9 => h9) i14 dX7_behindJumps_56 ?_
        refine lv_iconst (v := 1) hx hb dX7_behindJumps_59 (by decide) ?_
        refine lv_iload hx hb dX7_behindJumps_60 (lv_at hl 1 rfl) ?_
        refine lv_ishl hx hb dX7_behindJumps_62 ?_
        refine lv_topi (fun v171 ev171 => ?_)
        have k172 : 1 ≤ v171.toInt ∧ v171.toInt ≤ 8 := by rw [ev171]; exact shl1_i (Int.le_trans (by decide) k20.1) (Int.le_trans k20.2 (by decide))
        refine lv_ior hx hb dX7_behindJumps_63 ?_
        refine lv_topi (fun v173 ev173 => ?_)
        refine put_f (D := D) (ci := 7) (v := .int v173) (ty := .int) (C := RX7) (T := TX7) (N := 18) hx hb hw inAX7 tyX7 tyX7_ok nmX7 hown hK hP hD hS 0 rfl rfl 6 (by decide) (hw _ q_217) (fun _ h9 => h9) rfl (by decide +kernel) rfl rfl dX7_behindJumps_64 (fun H locs F174 eF174 hP hD hS => ?_)
        have hP : va_P D vwCl [(h0, .inr (7, vL 18 F174)), (h_manner, .inl (cI, 4, .inl w9)), (p0, .inr (1, vL 18 F_p0_)), (h_p0_feet, .inl (cI, 12, .inl f_p0_feet)), (h_p0_weight, .inl (cI, 12, .inl f_p0_weight)), (p1, .inr (5, vL 11 F_p1_)), (h_p1_crew, .inl (cI, 4, .inl f_p1_crew)), (h_p1_yard, .inl (cI, 4, .inl f_p1_yard))] H := hP
        have hD : va_D A [(h0, .inr (7, vL 18 F174)), (h_manner, .inl (cI, 4, .inl w9)), (p0, .inr (1, vL 18 F_p0_)), (h_p0_feet, .inl (cI, 12, .inl f_p0_feet)), (h_p0_weight, .inl (cI, 12, .inl f_p0_weight)), (p1, .inr (5, vL 11 F_p1_)), (h_p1_crew, .inl (cI, 4, .inl f_p1_crew)), (h_p1_yard, .inl (cI, 4, .inl f_p1_yard))] := hD
        refine lv_aload_n hx hb dX7_behindJumps_67 rfl (lv_at hl 3 rfl) ?_
        have n175 : G3 1 = .ref h_manner := (SAME.at i12 (by decide) e_manner)
        have n176 : F174 1 = .ref h_manner := (get_ne eF174 (by decide) n175)
        refine get_f (D := D) (ci := 7) (v := .ref h_manner) (C := RX7) (T := TX7) (N := 18) hx hb hw inAX7 hown hK hP 0 rfl rfl 1 (by decide) (hw _ q_207) (fun _ h9 => h9) n176 dX7_behindJumps_68 ?_
        refine lv_iload hx hb dX7_behindJumps_71 (lv_at hl 1 rfl) ?_
        refine lv_iconst (v := 2) hx hb dX7_behindJumps_73 (by decide) ?_
        obtain ⟨g177, eg177⟩ : ∃ z : Nat → Int32, upd w9 u1.toNatClampNeg 2 = z := ⟨_, rfl⟩
        refine iast_g hx hb hK hP hD hS 1 0 rfl rfl (ix_k k20 (by decide) (by decide)) eg177 dX7_behindJumps_74 (fun H locs hP hD hS => ?_)
        have hP : va_P D vwCl [(h0, .inr (7, vL 18 F174)), (h_manner, .inl (cI, 4, .inl g177)), (p0, .inr (1, vL 18 F_p0_)), (h_p0_feet, .inl (cI, 12, .inl f_p0_feet)), (h_p0_weight, .inl (cI, 12, .inl f_p0_weight)), (p1, .inr (5, vL 11 F_p1_)), (h_p1_crew, .inl (cI, 4, .inl f_p1_crew)), (h_p1_yard, .inl (cI, 4, .inl f_p1_yard))] H := hP
        have hD : va_D A [(h0, .inr (7, vL 18 F174)), (h_manner, .inl (cI, 4, .inl g177)), (p0, .inr (1, vL 18 F_p0_)), (h_p0_feet, .inl (cI, 12, .inl f_p0_feet)), (h_p0_weight, .inl (cI, 12, .inl f_p0_weight)), (p1, .inr (5, vL 11 F_p1_)), (h_p1_crew, .inl (cI, 4, .inl f_p1_crew)), (h_p1_yard, .inl (cI, 4, .inl f_p1_yard))] := hD
        refine lv_goto (tgt := 179) hx hb dX7_behindJumps_75 (by decide) ?_
        obtain ⟨v178, ev178⟩ : ∃ z : Int32, z = u1 + 1 := ⟨_, rfl⟩
        have bv178 : v178.toInt = u1.toInt + 1 := by rw [ev178]; exact add_k rfl rfl k20 ⟨Int.le_refl _, Int.le_refl _⟩ (by decide)
        have k179 : 1 ≤ v178.toInt ∧ v178.toInt ≤ 4 := add_r bv178 k20 ⟨Int.le_refl _, Int.le_refl _⟩ (by decide)
        refine lv_iinc (v := v178) (lv' := [(6, .int v178), (7, .int v23), (5, .int u2), (0, .ref h0), (1, .ref p0), (2, .ref p1), (3, .int p2), (4, .int p3)]) hx hb dX7_behindJumps_179 hl (k := 1) rfl (by rw [ev178]; rfl) (by decide) rfl (fun ls hl => ?_)
        refine lv_goto (tgt := 7) hx hb dX7_behindJumps_182 (by decide) ?_
        have n180 : F174 5 = .int u4 := (get_ne eF174 (by decide) i13)
        have n181 : F174 12 = .int u6 := (get_ne eF174 (by decide) i15)
        have n182 : F174 13 = .int u7 := (get_ne eF174 (by decide) i16)
        have n183 : F174 15 = .int u8 := (get_ne eF174 (by decide) i17)
        exact ih (v178, u2, F174, u4, v173, u6, u7, u8, g177) ⟨(ir_wk k179 (by decide) (by decide)), i11, (SAME.up eF174 (SAME.tr SAME.rf i12 (by decide)) (by decide)), n180, (get_eq eF174), n181, n182, n183⟩ (by show (4 - v178.toInt).toNat < (4 - u1.toInt).toNat; omega) _ _ _ hP hD hS (lv_sub hl [0, 2, 3, 4, 5, 6, 7] rfl)
    · have dc22 : v21.toInt ≠ p2.toInt := ne_i (a := v21.toInt) (b := p2.toInt) rfl rfl c22
      refine lv_goto (tgt := 179) hx hb dX7_behindJumps_24 (by decide) ?_
      obtain ⟨v184, ev184⟩ : ∃ z : Int32, z = u1 + 1 := ⟨_, rfl⟩
      have bv184 : v184.toInt = u1.toInt + 1 := by rw [ev184]; exact add_k rfl rfl k20 ⟨Int.le_refl _, Int.le_refl _⟩ (by decide)
      have k185 : 1 ≤ v184.toInt ∧ v184.toInt ≤ 4 := add_r bv184 k20 ⟨Int.le_refl _, Int.le_refl _⟩ (by decide)
      refine lv_iinc (v := v184) (lv' := [(6, .int v184), (5, .int u2), (0, .ref h0), (1, .ref p0), (2, .ref p1), (3, .int p2), (4, .int p3)]) hx hb dX7_behindJumps_179 hl (k := 0) rfl (by rw [ev184]; rfl) (by decide) rfl (fun ls hl => ?_)
      refine lv_goto (tgt := 7) hx hb dX7_behindJumps_182 (by decide) ?_
      exact ih (v184, u2, G3, u4, u5, u6, u7, u8, w9) ⟨(ir_wk k185 (by decide) (by decide)), i11, (SAME.tr SAME.rf i12 (by decide)), i13, i14, i15, i16, i17⟩ (by show (4 - v184.toInt).toNat < (4 - u1.toInt).toNat; omega) _ _ _ hP hD hS (lv_sub hl [0, 1, 2, 3, 4, 5, 6] rfl)
set_option maxHeartbeats 4000000 in
set_option maxRecDepth 100000 in
theorem m_X7_toLine (l : Launch) (D : va_G) (cI cJ cB cP cM cZ : ClassId) (h0 : Nat) (h_paces : Nat) (h_manner : Nat) (p0 : Nat) (h_p0_settings : Nat) (h_p0_push : Nat) (h_p0_feet : Nat) (h_p0_weight : Nat) (p1 : Nat) (h_p1_crew : Nat) (h_p1_yard : Nat) (Fh : Nat → Value) (x_kicks : Int32) (x_seed : Int32) (f_paces : Nat → Int32) (f_manner : Nat → Int32) (F_p0_ : Nat → Value) (f_p0_settings : Nat → Int32) (f_p0_push : Nat → Int32) (f_p0_feet : Nat → Int32) (f_p0_weight : Nat → Int32) (F_p1_ : Nat → Value) (x_p1_lead : Int32) (f_p1_crew : Nat → Int32) (f_p1_yard : Nat → Int32) (sz : Nat) (e_paces : Fh 0 = .ref h_paces) (e_manner : Fh 1 = .ref h_manner) (e_kicks : Fh 14 = .int x_kicks) (i_x_kicks : IR 0 1 x_kicks) (e_seed : Fh 15 = .int x_seed) (e_p0_settings : F_p0_ 1 = .ref h_p0_settings) (e_p0_push : F_p0_ 3 = .ref h_p0_push) (e_p0_feet : F_p0_ 4 = .ref h_p0_feet) (e_p0_weight : F_p0_ 5 = .ref h_p0_weight) (e_p1_crew : F_p1_ 0 = .ref h_p1_crew) (e_p1_yard : F_p1_ 1 = .ref h_p1_yard) (e_p1_lead : F_p1_ 4 = .int x_p1_lead) (s_p1_crew_0 : SG 0 3 0 11 f_p1_crew) : CV l yX7_toLine cX7_toLine 5 none { frames := 3, cells := 0, slots := 0, locals := 88 } (GG D cI cJ cB cP cM cZ) D [(h0, .inr (7, vL 18 Fh)), (h_paces, .inl (cI, 40, .inl f_paces)), (h_manner, .inl (cI, 4, .inl f_manner)), (p0, .inr (1, vL 18 F_p0_)), (h_p0_settings, .inl (cI, 5, .inl f_p0_settings)), (h_p0_push, .inl (cI, 12, .inl f_p0_push)), (h_p0_feet, .inl (cI, 12, .inl f_p0_feet)), (h_p0_weight, .inl (cI, 12, .inl f_p0_weight)), (p1, .inr (5, vL 11 F_p1_)), (h_p1_crew, .inl (cI, 4, .inl f_p1_crew)), (h_p1_yard, .inl (cI, 4, .inl f_p1_yard))] sz [.ref h0, .ref p0, .ref p1] (fun (u : va_W) => ∃ (Gh : Nat → Value) (y_startTime : Int32) (y_startPace : Int32) (y_in : Int32) (y_late : Int32) (y_weight : Int32) (y_weightIn : Int32) (y_latestYardIn : Int32) (y_seed : Int32) (g_paces : Nat → Int32) (g_manner : Nat → Int32), SAME [3, 4, 5, 6, 7, 12, 13, 15] Fh Gh ∧ Gh 3 = .int y_startTime ∧ Gh 4 = .int y_startPace ∧ IR 10 250 y_startPace ∧ Gh 5 = .int y_in ∧ Gh 6 = .int y_late ∧ Gh 7 = .int y_weight ∧ Gh 12 = .int y_weightIn ∧ Gh 13 = .int y_latestYardIn ∧ Gh 15 = .int y_seed ∧ u = [(h0, .inr (7, vL 18 Gh)), (h_paces, .inl (cI, 40, .inl g_paces)), (h_manner, .inl (cI, 4, .inl g_manner)), (p0, .inr (1, vL 18 F_p0_)), (h_p0_settings, .inl (cI, 5, .inl f_p0_settings)), (h_p0_push, .inl (cI, 12, .inl f_p0_push)), (h_p0_feet, .inl (cI, 12, .inl f_p0_feet)), (h_p0_weight, .inl (cI, 12, .inl f_p0_weight)), (p1, .inr (5, vL 11 F_p1_)), (h_p1_crew, .inl (cI, 4, .inl f_p1_crew)), (h_p1_yard, .inl (cI, 4, .inl f_p1_yard))]) := by
  refine CV_mk (by decide) (Nat.le_of_ble_eq_true rfl) ?_
  intro p e s m below meth c A ls E hAe hG hsz hP hD hA hS hl
  obtain ⟨hx, hb, hr, hw, hown, hlocks, hml, hnm⟩ := E
  have hK := hG.1
  have i_x_kicks : 0 ≤ x_kicks.toInt ∧ x_kicks.toInt ≤ 1 := i_x_kicks
  have hl : lv_has ls 5 [(0, .ref h0), (1, .ref p0), (2, .ref p1)] := hl
  refine lv_bipush (v := 30) hx hb dX7_toLine_0 (by decide) ?_
  refine lv_istore_n (lv' := [(3, .int 30), (0, .ref h0), (1, .ref p0), (2, .ref p1)]) hx hb dX7_toLine_2 rfl hl (by decide) rfl (fun ls hl => ?_)
  refine lv_aload_n hx hb dX7_toLine_3 rfl (lv_at hl 1 rfl) ?_
  refine lv_iconst (v := 0) hx hb dX7_toLine_4 (by decide) ?_
  refine put_f (D := D) (ci := 7) (v := .int 0) (ty := .int) (C := RX7) (T := TX7) (N := 18) hx hb hw inAX7 tyX7 tyX7_ok nmX7 hown hK hP hD hS 0 rfl rfl 3 (by decide) (hw _ q_211) (fun _ h9 => h9) rfl (by decide +kernel) rfl rfl dX7_toLine_5 (fun H locs F1 eF1 hP hD hS => ?_)
  have hP : va_P D vwCl [(h0, .inr (7, vL 18 F1)), (h_paces, .inl (cI, 40, .inl f_paces)), (h_manner, .inl (cI, 4, .inl f_manner)), (p0, .inr (1, vL 18 F_p0_)), (h_p0_settings, .inl (cI, 5, .inl f_p0_settings)), (h_p0_push, .inl (cI, 12, .inl f_p0_push)), (h_p0_feet, .inl (cI, 12, .inl f_p0_feet)), (h_p0_weight, .inl (cI, 12, .inl f_p0_weight)), (p1, .inr (5, vL 11 F_p1_)), (h_p1_crew, .inl (cI, 4, .inl f_p1_crew)), (h_p1_yard, .inl (cI, 4, .inl f_p1_yard))] H := hP
  have hD : va_D A [(h0, .inr (7, vL 18 F1)), (h_paces, .inl (cI, 40, .inl f_paces)), (h_manner, .inl (cI, 4, .inl f_manner)), (p0, .inr (1, vL 18 F_p0_)), (h_p0_settings, .inl (cI, 5, .inl f_p0_settings)), (h_p0_push, .inl (cI, 12, .inl f_p0_push)), (h_p0_feet, .inl (cI, 12, .inl f_p0_feet)), (h_p0_weight, .inl (cI, 12, .inl f_p0_weight)), (p1, .inr (5, vL 11 F_p1_)), (h_p1_crew, .inl (cI, 4, .inl f_p1_crew)), (h_p1_yard, .inl (cI, 4, .inl f_p1_yard))] := hD
  refine lv_aload_n hx hb dX7_toLine_8 rfl (lv_at hl 1 rfl) ?_
  refine lv_iconst (v := 0) hx hb dX7_toLine_9 (by decide) ?_
  refine put_f (D := D) (ci := 7) (v := .int 0) (ty := .int) (C := RX7) (T := TX7) (N := 18) hx hb hw inAX7 tyX7 tyX7_ok nmX7 hown hK hP hD hS 0 rfl rfl 5 (by decide) (hw _ q_215) (fun _ h9 => h9) rfl (by decide +kernel) rfl rfl dX7_toLine_10 (fun H locs F2 eF2 hP hD hS => ?_)
  have hP : va_P D vwCl [(h0, .inr (7, vL 18 F2)), (h_paces, .inl (cI, 40, .inl f_paces)), (h_manner, .inl (cI, 4, .inl f_manner)), (p0, .inr (1, vL 18 F_p0_)), (h_p0_settings, .inl (cI, 5, .inl f_p0_settings)), (h_p0_push, .inl (cI, 12, .inl f_p0_push)), (h_p0_feet, .inl (cI, 12, .inl f_p0_feet)), (h_p0_weight, .inl (cI, 12, .inl f_p0_weight)), (p1, .inr (5, vL 11 F_p1_)), (h_p1_crew, .inl (cI, 4, .inl f_p1_crew)), (h_p1_yard, .inl (cI, 4, .inl f_p1_yard))] H := hP
  have hD : va_D A [(h0, .inr (7, vL 18 F2)), (h_paces, .inl (cI, 40, .inl f_paces)), (h_manner, .inl (cI, 4, .inl f_manner)), (p0, .inr (1, vL 18 F_p0_)), (h_p0_settings, .inl (cI, 5, .inl f_p0_settings)), (h_p0_push, .inl (cI, 12, .inl f_p0_push)), (h_p0_feet, .inl (cI, 12, .inl f_p0_feet)), (h_p0_weight, .inl (cI, 12, .inl f_p0_weight)), (p1, .inr (5, vL 11 F_p1_)), (h_p1_crew, .inl (cI, 4, .inl f_p1_crew)), (h_p1_yard, .inl (cI, 4, .inl f_p1_yard))] := hD
  refine lv_aload_n hx hb dX7_toLine_13 rfl (lv_at hl 1 rfl) ?_
  refine lv_iconst (v := 0) hx hb dX7_toLine_14 (by decide) ?_
  refine put_f (D := D) (ci := 7) (v := .int 0) (ty := .int) (C := RX7) (T := TX7) (N := 18) hx hb hw inAX7 tyX7 tyX7_ok nmX7 hown hK hP hD hS 0 rfl rfl 6 (by decide) (hw _ q_217) (fun _ h9 => h9) rfl (by decide +kernel) rfl rfl dX7_toLine_15 (fun H locs F3 eF3 hP hD hS => ?_)
  have hP : va_P D vwCl [(h0, .inr (7, vL 18 F3)), (h_paces, .inl (cI, 40, .inl f_paces)), (h_manner, .inl (cI, 4, .inl f_manner)), (p0, .inr (1, vL 18 F_p0_)), (h_p0_settings, .inl (cI, 5, .inl f_p0_settings)), (h_p0_push, .inl (cI, 12, .inl f_p0_push)), (h_p0_feet, .inl (cI, 12, .inl f_p0_feet)), (h_p0_weight, .inl (cI, 12, .inl f_p0_weight)), (p1, .inr (5, vL 11 F_p1_)), (h_p1_crew, .inl (cI, 4, .inl f_p1_crew)), (h_p1_yard, .inl (cI, 4, .inl f_p1_yard))] H := hP
  have hD : va_D A [(h0, .inr (7, vL 18 F3)), (h_paces, .inl (cI, 40, .inl f_paces)), (h_manner, .inl (cI, 4, .inl f_manner)), (p0, .inr (1, vL 18 F_p0_)), (h_p0_settings, .inl (cI, 5, .inl f_p0_settings)), (h_p0_push, .inl (cI, 12, .inl f_p0_push)), (h_p0_feet, .inl (cI, 12, .inl f_p0_feet)), (h_p0_weight, .inl (cI, 12, .inl f_p0_weight)), (p1, .inr (5, vL 11 F_p1_)), (h_p1_crew, .inl (cI, 4, .inl f_p1_crew)), (h_p1_yard, .inl (cI, 4, .inl f_p1_yard))] := hD
  refine lv_aload_n hx hb dX7_toLine_18 rfl (lv_at hl 1 rfl) ?_
  refine lv_iconst (v := 0) hx hb dX7_toLine_19 (by decide) ?_
  refine put_f (D := D) (ci := 7) (v := .int 0) (ty := .int) (C := RX7) (T := TX7) (N := 18) hx hb hw inAX7 tyX7 tyX7_ok nmX7 hown hK hP hD hS 0 rfl rfl 12 (by decide) (hw _ q_229) (fun _ h9 => h9) rfl (by decide +kernel) rfl rfl dX7_toLine_20 (fun H locs F4 eF4 hP hD hS => ?_)
  have hP : va_P D vwCl [(h0, .inr (7, vL 18 F4)), (h_paces, .inl (cI, 40, .inl f_paces)), (h_manner, .inl (cI, 4, .inl f_manner)), (p0, .inr (1, vL 18 F_p0_)), (h_p0_settings, .inl (cI, 5, .inl f_p0_settings)), (h_p0_push, .inl (cI, 12, .inl f_p0_push)), (h_p0_feet, .inl (cI, 12, .inl f_p0_feet)), (h_p0_weight, .inl (cI, 12, .inl f_p0_weight)), (p1, .inr (5, vL 11 F_p1_)), (h_p1_crew, .inl (cI, 4, .inl f_p1_crew)), (h_p1_yard, .inl (cI, 4, .inl f_p1_yard))] H := hP
  have hD : va_D A [(h0, .inr (7, vL 18 F4)), (h_paces, .inl (cI, 40, .inl f_paces)), (h_manner, .inl (cI, 4, .inl f_manner)), (p0, .inr (1, vL 18 F_p0_)), (h_p0_settings, .inl (cI, 5, .inl f_p0_settings)), (h_p0_push, .inl (cI, 12, .inl f_p0_push)), (h_p0_feet, .inl (cI, 12, .inl f_p0_feet)), (h_p0_weight, .inl (cI, 12, .inl f_p0_weight)), (p1, .inr (5, vL 11 F_p1_)), (h_p1_crew, .inl (cI, 4, .inl f_p1_crew)), (h_p1_yard, .inl (cI, 4, .inl f_p1_yard))] := hD
  refine lv_aload_n hx hb dX7_toLine_23 rfl (lv_at hl 1 rfl) ?_
  refine lv_bipush (v := (-2)) hx hb dX7_toLine_24 (by decide) ?_
  refine put_f (D := D) (ci := 7) (v := .int (-2)) (ty := .int) (C := RX7) (T := TX7) (N := 18) hx hb hw inAX7 tyX7 tyX7_ok nmX7 hown hK hP hD hS 0 rfl rfl 13 (by decide) (hw _ q_230) (fun _ h9 => h9) rfl (by decide +kernel) rfl rfl dX7_toLine_26 (fun H locs F5 eF5 hP hD hS => ?_)
  have hP : va_P D vwCl [(h0, .inr (7, vL 18 F5)), (h_paces, .inl (cI, 40, .inl f_paces)), (h_manner, .inl (cI, 4, .inl f_manner)), (p0, .inr (1, vL 18 F_p0_)), (h_p0_settings, .inl (cI, 5, .inl f_p0_settings)), (h_p0_push, .inl (cI, 12, .inl f_p0_push)), (h_p0_feet, .inl (cI, 12, .inl f_p0_feet)), (h_p0_weight, .inl (cI, 12, .inl f_p0_weight)), (p1, .inr (5, vL 11 F_p1_)), (h_p1_crew, .inl (cI, 4, .inl f_p1_crew)), (h_p1_yard, .inl (cI, 4, .inl f_p1_yard))] H := hP
  have hD : va_D A [(h0, .inr (7, vL 18 F5)), (h_paces, .inl (cI, 40, .inl f_paces)), (h_manner, .inl (cI, 4, .inl f_manner)), (p0, .inr (1, vL 18 F_p0_)), (h_p0_settings, .inl (cI, 5, .inl f_p0_settings)), (h_p0_push, .inl (cI, 12, .inl f_p0_push)), (h_p0_feet, .inl (cI, 12, .inl f_p0_feet)), (h_p0_weight, .inl (cI, 12, .inl f_p0_weight)), (p1, .inr (5, vL 11 F_p1_)), (h_p1_crew, .inl (cI, 4, .inl f_p1_crew)), (h_p1_yard, .inl (cI, 4, .inl f_p1_yard))] := hD
  refine lv_iconst (v := 0) hx hb dX7_toLine_29 (by decide) ?_
  refine lv_istore (lv' := [(4, .int 0), (3, .int 30), (0, .ref h0), (1, .ref p0), (2, .ref p1)]) hx hb dX7_toLine_30 hl (by decide) rfl (fun ls hl => ?_)
  have n17 : F2 3 = .int 0 := (get_ne eF2 (by decide) (get_eq eF1))
  have n18 : F3 3 = .int 0 := (get_ne eF3 (by decide) n17)
  have n19 : F4 3 = .int 0 := (get_ne eF4 (by decide) n18)
  have n20 : F5 3 = .int 0 := (get_ne eF5 (by decide) n19)
  have n21 : F3 5 = .int 0 := (get_ne eF3 (by decide) (get_eq eF2))
  have n22 : F4 5 = .int 0 := (get_ne eF4 (by decide) n21)
  have n23 : F5 5 = .int 0 := (get_ne eF5 (by decide) n22)
  have n24 : F4 6 = .int 0 := (get_ne eF4 (by decide) (get_eq eF3))
  have n25 : F5 6 = .int 0 := (get_ne eF5 (by decide) n24)
  have n26 : F5 12 = .int 0 := (get_ne eF5 (by decide) (get_eq eF4))
  have n27 : F1 15 = .int x_seed := (get_ne eF1 (by decide) e_seed)
  have n28 : F2 15 = .int x_seed := (get_ne eF2 (by decide) n27)
  have n29 : F3 15 = .int x_seed := (get_ne eF3 (by decide) n28)
  have n30 : F4 15 = .int x_seed := (get_ne eF4 (by decide) n29)
  have n31 : F5 15 = .int x_seed := (get_ne eF5 (by decide) n30)
  refine mloop (α := (Int32) × (Int32) × (Nat → Value) × (Int32) × (Int32) × (Int32) × (Int32) × (Int32) × (Int32) × (Nat → Int32) × (Nat → Int32)) (nL := 5) (D := D) (A := A) (H0 := s.heap) (fun a => (40 - a.1.toInt).toNat) (fun a => IR 0 40 a.1 ∧ IR 10 250 a.2.1 ∧ SAME [3, 5, 6, 12, 13, 15] F5 a.2.2.1 ∧ a.2.2.1 3 = .int a.2.2.2.1 ∧ a.2.2.1 5 = .int a.2.2.2.2.1 ∧ a.2.2.1 6 = .int a.2.2.2.2.2.1 ∧ a.2.2.1 12 = .int a.2.2.2.2.2.2.1 ∧ a.2.2.1 13 = .int a.2.2.2.2.2.2.2.1 ∧ a.2.2.1 15 = .int a.2.2.2.2.2.2.2.2.1) (fun a => [(h0, .inr (7, vL 18 a.2.2.1)), (h_paces, .inl (cI, 40, .inl a.2.2.2.2.2.2.2.2.2.1)), (h_manner, .inl (cI, 4, .inl a.2.2.2.2.2.2.2.2.2.2)), (p0, .inr (1, vL 18 F_p0_)), (h_p0_settings, .inl (cI, 5, .inl f_p0_settings)), (h_p0_push, .inl (cI, 12, .inl f_p0_push)), (h_p0_feet, .inl (cI, 12, .inl f_p0_feet)), (h_p0_weight, .inl (cI, 12, .inl f_p0_weight)), (p1, .inr (5, vL 11 F_p1_)), (h_p1_crew, .inl (cI, 4, .inl f_p1_crew)), (h_p1_yard, .inl (cI, 4, .inl f_p1_yard))]) (fun a => [(4, .int a.1), (3, .int a.2.1), (0, .ref h0), (1, .ref p0), (2, .ref p1)]) (fun H locs ls => W p l e ({ frames := 3, cells := 0, slots := 0, locals := 88 } : Room) s m [.ref h0, .ref p0, .ref p1].toArray below meth c H locs 0 0 (MQ below (va_Qv (fun (u : va_W) => ∃ (Gh : Nat → Value) (y_startTime : Int32) (y_startPace : Int32) (y_in : Int32) (y_late : Int32) (y_weight : Int32) (y_weightIn : Int32) (y_latestYardIn : Int32) (y_seed : Int32) (g_paces : Nat → Int32) (g_manner : Nat → Int32), SAME [3, 4, 5, 6, 7, 12, 13, 15] Fh Gh ∧ Gh 3 = .int y_startTime ∧ Gh 4 = .int y_startPace ∧ IR 10 250 y_startPace ∧ Gh 5 = .int y_in ∧ Gh 6 = .int y_late ∧ Gh 7 = .int y_weight ∧ Gh 12 = .int y_weightIn ∧ Gh 13 = .int y_latestYardIn ∧ Gh 15 = .int y_seed ∧ u = [(h0, .inr (7, vL 18 Gh)), (h_paces, .inl (cI, 40, .inl g_paces)), (h_manner, .inl (cI, 4, .inl g_manner)), (p0, .inr (1, vL 18 F_p0_)), (h_p0_settings, .inl (cI, 5, .inl f_p0_settings)), (h_p0_push, .inl (cI, 12, .inl f_p0_push)), (h_p0_feet, .inl (cI, 12, .inl f_p0_feet)), (h_p0_weight, .inl (cI, 12, .inl f_p0_weight)), (p1, .inr (5, vL 11 F_p1_)), (h_p1_crew, .inl (cI, 4, .inl f_p1_crew)), (h_p1_yard, .inl (cI, 4, .inl f_p1_yard))]) (PO D A) A) [.ref h0, .ref p0, .ref p1].toArray s 0 0 A) (F0 m 32 ls [])) ?_ (0, 30, F5, 0, 0, 0, 0, (-2), x_seed, f_paces, f_manner) ⟨⟨by decide, by decide⟩, ⟨by decide, by decide⟩, SAME.rf, n20, n23, n25, n26, (get_eq eF5), n31⟩ _ _ _ hP hD hS hl
  rintro ⟨u6, u7, G8, u9, u10, u11, u12, u13, u14, w15, w16⟩ ⟨i32, i33, i34, i35, i36, i37, i38, i39, i40⟩ ih H locs ls hP hD hS hl
  have i32 : 0 ≤ u6.toInt ∧ u6.toInt ≤ 40 := i32
  have i33 : 10 ≤ u7.toInt ∧ u7.toInt ≤ 250 := i33
  have hP : va_P D vwCl [(h0, .inr (7, vL 18 G8)), (h_paces, .inl (cI, 40, .inl w15)), (h_manner, .inl (cI, 4, .inl w16)), (p0, .inr (1, vL 18 F_p0_)), (h_p0_settings, .inl (cI, 5, .inl f_p0_settings)), (h_p0_push, .inl (cI, 12, .inl f_p0_push)), (h_p0_feet, .inl (cI, 12, .inl f_p0_feet)), (h_p0_weight, .inl (cI, 12, .inl f_p0_weight)), (p1, .inr (5, vL 11 F_p1_)), (h_p1_crew, .inl (cI, 4, .inl f_p1_crew)), (h_p1_yard, .inl (cI, 4, .inl f_p1_yard))] H := hP
  have hD : va_D A [(h0, .inr (7, vL 18 G8)), (h_paces, .inl (cI, 40, .inl w15)), (h_manner, .inl (cI, 4, .inl w16)), (p0, .inr (1, vL 18 F_p0_)), (h_p0_settings, .inl (cI, 5, .inl f_p0_settings)), (h_p0_push, .inl (cI, 12, .inl f_p0_push)), (h_p0_feet, .inl (cI, 12, .inl f_p0_feet)), (h_p0_weight, .inl (cI, 12, .inl f_p0_weight)), (p1, .inr (5, vL 11 F_p1_)), (h_p1_crew, .inl (cI, 4, .inl f_p1_crew)), (h_p1_yard, .inl (cI, 4, .inl f_p1_yard))] := hD
  have hl : lv_has ls 5 [(4, .int u6), (3, .int u7), (0, .ref h0), (1, .ref p0), (2, .ref p1)] := hl
  refine lv_iload hx hb dX7_toLine_32 (lv_at hl 0 rfl) ?_
  refine lv_aload_n hx hb dX7_toLine_34 rfl (lv_at hl 3 rfl) ?_
  refine get_f (D := D) (ci := 1) (v := .ref h_p0_settings) (C := RX1) (T := TX1) (N := 18) hx hb hw inAX1 hown hK hP 3 rfl rfl 1 (by decide) (hw _ q_317) (fun _ h9 => h9) e_p0_settings dX7_toLine_35 ?_
  refine lv_iconst (v := 0) hx hb dX7_toLine_38 (by decide) ?_
  refine iald_n hx hb hK hP 4 0 rfl rfl 0 rfl (Nat.le_of_ble_eq_true rfl) (Nat.le_of_ble_eq_true rfl) rfl dX7_toLine_39 ?_
  refine lv_topi (fun v41 ev41 => ?_)
  refine lv_icmp_ge (tgt := 111) hx hb dX7_toLine_40 (by decide) (fun c42 => ?_) (fun c42 => ?_)
  · have dc42 : v41.toInt ≤ u6.toInt := le_i (a := v41.toInt) (b := u6.toInt) rfl rfl c42
    have k43 : (-2147483648) ≤ v41.toInt ∧ v41.toInt ≤ 40 := ⟨(ir_any _).1, Int.le_trans dc42 i32.2⟩
    refine lv_aload_n hx hb dX7_toLine_111 rfl (lv_at hl 2 rfl) ?_
    refine lv_iload_n hx hb dX7_toLine_112 rfl (lv_at hl 1 rfl) ?_
    refine put_f (D := D) (ci := 7) (v := .int u7) (ty := .int) (C := RX7) (T := TX7) (N := 18) hx hb hw inAX7 tyX7 tyX7_ok nmX7 hown hK hP hD hS 0 rfl rfl 4 (by decide) (hw _ q_213) (fun _ h9 => h9) rfl (by decide +kernel) rfl rfl dX7_toLine_113 (fun H locs F44 eF44 hP hD hS => ?_)
    have hP : va_P D vwCl [(h0, .inr (7, vL 18 F44)), (h_paces, .inl (cI, 40, .inl w15)), (h_manner, .inl (cI, 4, .inl w16)), (p0, .inr (1, vL 18 F_p0_)), (h_p0_settings, .inl (cI, 5, .inl f_p0_settings)), (h_p0_push, .inl (cI, 12, .inl f_p0_push)), (h_p0_feet, .inl (cI, 12, .inl f_p0_feet)), (h_p0_weight, .inl (cI, 12, .inl f_p0_weight)), (p1, .inr (5, vL 11 F_p1_)), (h_p1_crew, .inl (cI, 4, .inl f_p1_crew)), (h_p1_yard, .inl (cI, 4, .inl f_p1_yard))] H := hP
    have hD : va_D A [(h0, .inr (7, vL 18 F44)), (h_paces, .inl (cI, 40, .inl w15)), (h_manner, .inl (cI, 4, .inl w16)), (p0, .inr (1, vL 18 F_p0_)), (h_p0_settings, .inl (cI, 5, .inl f_p0_settings)), (h_p0_push, .inl (cI, 12, .inl f_p0_push)), (h_p0_feet, .inl (cI, 12, .inl f_p0_feet)), (h_p0_weight, .inl (cI, 12, .inl f_p0_weight)), (p1, .inr (5, vL 11 F_p1_)), (h_p1_crew, .inl (cI, 4, .inl f_p1_crew)), (h_p1_yard, .inl (cI, 4, .inl f_p1_yard))] := hD
    refine lv_aload_n hx hb dX7_toLine_116 rfl (lv_at hl 2 rfl) ?_
    refine lv_aload_n hx hb dX7_toLine_117 rfl (lv_at hl 3 rfl) ?_
    refine get_f (D := D) (ci := 1) (v := .ref h_p0_settings) (C := RX1) (T := TX1) (N := 18) hx hb hw inAX1 hown hK hP 3 rfl rfl 1 (by decide) (hw _ q_317) (fun _ h9 => h9) e_p0_settings dX7_toLine_118 ?_
    refine lv_iconst (v := 1) hx hb dX7_toLine_121 (by decide) ?_
    refine iald_n hx hb hK hP 4 0 rfl rfl 1 rfl (Nat.le_of_ble_eq_true rfl) (Nat.le_of_ble_eq_true rfl) rfl dX7_toLine_122 ?_
    refine lv_topi (fun v45 ev45 => ?_)
    refine lv_aload_n hx hb dX7_toLine_123 rfl (lv_at hl 4 rfl) ?_
    refine get_f (D := D) (ci := 5) (v := .int x_p1_lead) (C := RX5) (T := TX5) (N := 11) hx hb hw inAX5 hown hK hP 8 rfl rfl 4 (by decide) (hw _ q_162) (fun _ h9 => h9) e_p1_lead dX7_toLine_124 ?_
    refine lv_iadd hx hb dX7_toLine_127 ?_
    refine lv_topi (fun v46 ev46 => ?_)
    refine lv_aload_n hx hb dX7_toLine_128 rfl (lv_at hl 2 rfl) ?_
    have n47 : F44 12 = .int u12 := (get_ne eF44 (by decide) i38)
    refine get_f (D := D) (ci := 7) (v := .int u12) (C := RX7) (T := TX7) (N := 18) hx hb hw inAX7 hown hK hP 0 rfl rfl 12 (by decide) (hw _ q_229) (fun _ h9 => h9) n47 dX7_toLine_129 ?_
    refine lv_iadd hx hb dX7_toLine_132 ?_
    refine lv_topi (fun v48 ev48 => ?_)
    refine put_f (D := D) (ci := 7) (v := .int v48) (ty := .int) (C := RX7) (T := TX7) (N := 18) hx hb hw inAX7 tyX7 tyX7_ok nmX7 hown hK hP hD hS 0 rfl rfl 7 (by decide) (hw _ q_219) (fun _ h9 => h9) rfl (by decide +kernel) rfl rfl dX7_toLine_133 (fun H locs F49 eF49 hP hD hS => ?_)
    have hP : va_P D vwCl [(h0, .inr (7, vL 18 F49)), (h_paces, .inl (cI, 40, .inl w15)), (h_manner, .inl (cI, 4, .inl w16)), (p0, .inr (1, vL 18 F_p0_)), (h_p0_settings, .inl (cI, 5, .inl f_p0_settings)), (h_p0_push, .inl (cI, 12, .inl f_p0_push)), (h_p0_feet, .inl (cI, 12, .inl f_p0_feet)), (h_p0_weight, .inl (cI, 12, .inl f_p0_weight)), (p1, .inr (5, vL 11 F_p1_)), (h_p1_crew, .inl (cI, 4, .inl f_p1_crew)), (h_p1_yard, .inl (cI, 4, .inl f_p1_yard))] H := hP
    have hD : va_D A [(h0, .inr (7, vL 18 F49)), (h_paces, .inl (cI, 40, .inl w15)), (h_manner, .inl (cI, 4, .inl w16)), (p0, .inr (1, vL 18 F_p0_)), (h_p0_settings, .inl (cI, 5, .inl f_p0_settings)), (h_p0_push, .inl (cI, 12, .inl f_p0_push)), (h_p0_feet, .inl (cI, 12, .inl f_p0_feet)), (h_p0_weight, .inl (cI, 12, .inl f_p0_weight)), (p1, .inr (5, vL 11 F_p1_)), (h_p1_crew, .inl (cI, 4, .inl f_p1_crew)), (h_p1_yard, .inl (cI, 4, .inl f_p1_yard))] := hD
    exact ret_v hx hb hr hlocks hS hP hD dX7_toLine_136 (Nat.le_of_ble_eq_true rfl) (Nat.le_of_ble_eq_true rfl) ⟨F49, u9, u7, u10, u11, v48, u12, u13, u14, w15, w16, (SAME.up eF49 (SAME.up eF44 (SAME.tr (SAME.up eF5 (SAME.up eF4 (SAME.up eF3 (SAME.up eF2 (SAME.up eF1 SAME.rf (by decide)) (by decide)) (by decide)) (by decide)) (by decide)) i34 (by decide)) (by decide)) (by decide)), (get_ne eF49 (by decide) (get_ne eF44 (by decide) i35)), (get_ne eF49 (by decide) (get_eq eF44)), i33, (get_ne eF49 (by decide) (get_ne eF44 (by decide) i36)), (get_ne eF49 (by decide) (get_ne eF44 (by decide) i37)), (get_eq eF49), (get_ne eF49 (by decide) n47), (get_ne eF49 (by decide) (get_ne eF44 (by decide) i39)), (get_ne eF49 (by decide) (get_ne eF44 (by decide) i40)), rfl⟩
  · have dc42 : u6.toInt < v41.toInt := nle_i (a := v41.toInt) (b := u6.toInt) rfl rfl c42
    have k50 : 1 ≤ v41.toInt ∧ v41.toInt ≤ 2147483647 := ⟨lo_lt dc42 i32.1 (by decide), (ir_any _).2⟩
    refine lv_iload hx hb dX7_toLine_43 (lv_at hl 0 rfl) ?_
    refine lv_bipush (v := 40) hx hb dX7_toLine_45 (by decide) ?_
    refine lv_icmp_ge (tgt := 111) hx hb dX7_toLine_47 (by decide) (fun c51 => ?_) (fun c51 => ?_)
    · have dc51 : 40 ≤ u6.toInt := le_i (a := 40) (b := u6.toInt) rfl rfl c51
      have k52 : 40 ≤ u6.toInt ∧ u6.toInt ≤ 40 := ⟨Int.le_trans (Int.le_refl _) dc51, i32.2⟩
      refine lv_aload_n hx hb dX7_toLine_111 rfl (lv_at hl 2 rfl) ?_
      refine lv_iload_n hx hb dX7_toLine_112 rfl (lv_at hl 1 rfl) ?_
      refine put_f (D := D) (ci := 7) (v := .int u7) (ty := .int) (C := RX7) (T := TX7) (N := 18) hx hb hw inAX7 tyX7 tyX7_ok nmX7 hown hK hP hD hS 0 rfl rfl 4 (by decide) (hw _ q_213) (fun _ h9 => h9) rfl (by decide +kernel) rfl rfl dX7_toLine_113 (fun H locs F53 eF53 hP hD hS => ?_)
      have hP : va_P D vwCl [(h0, .inr (7, vL 18 F53)), (h_paces, .inl (cI, 40, .inl w15)), (h_manner, .inl (cI, 4, .inl w16)), (p0, .inr (1, vL 18 F_p0_)), (h_p0_settings, .inl (cI, 5, .inl f_p0_settings)), (h_p0_push, .inl (cI, 12, .inl f_p0_push)), (h_p0_feet, .inl (cI, 12, .inl f_p0_feet)), (h_p0_weight, .inl (cI, 12, .inl f_p0_weight)), (p1, .inr (5, vL 11 F_p1_)), (h_p1_crew, .inl (cI, 4, .inl f_p1_crew)), (h_p1_yard, .inl (cI, 4, .inl f_p1_yard))] H := hP
      have hD : va_D A [(h0, .inr (7, vL 18 F53)), (h_paces, .inl (cI, 40, .inl w15)), (h_manner, .inl (cI, 4, .inl w16)), (p0, .inr (1, vL 18 F_p0_)), (h_p0_settings, .inl (cI, 5, .inl f_p0_settings)), (h_p0_push, .inl (cI, 12, .inl f_p0_push)), (h_p0_feet, .inl (cI, 12, .inl f_p0_feet)), (h_p0_weight, .inl (cI, 12, .inl f_p0_weight)), (p1, .inr (5, vL 11 F_p1_)), (h_p1_crew, .inl (cI, 4, .inl f_p1_crew)), (h_p1_yard, .inl (cI, 4, .inl f_p1_yard))] := hD
      refine lv_aload_n hx hb dX7_toLine_116 rfl (lv_at hl 2 rfl) ?_
      refine lv_aload_n hx hb dX7_toLine_117 rfl (lv_at hl 3 rfl) ?_
      refine get_f (D := D) (ci := 1) (v := .ref h_p0_settings) (C := RX1) (T := TX1) (N := 18) hx hb hw inAX1 hown hK hP 3 rfl rfl 1 (by decide) (hw _ q_317) (fun _ h9 => h9) e_p0_settings dX7_toLine_118 ?_
      refine lv_iconst (v := 1) hx hb dX7_toLine_121 (by decide) ?_
      refine iald_n hx hb hK hP 4 0 rfl rfl 1 rfl (Nat.le_of_ble_eq_true rfl) (Nat.le_of_ble_eq_true rfl) rfl dX7_toLine_122 ?_
      refine lv_topi (fun v54 ev54 => ?_)
      refine lv_aload_n hx hb dX7_toLine_123 rfl (lv_at hl 4 rfl) ?_
      refine get_f (D := D) (ci := 5) (v := .int x_p1_lead) (C := RX5) (T := TX5) (N := 11) hx hb hw inAX5 hown hK hP 8 rfl rfl 4 (by decide) (hw _ q_162) (fun _ h9 => h9) e_p1_lead dX7_toLine_124 ?_
      refine lv_iadd hx hb dX7_toLine_127 ?_
      refine lv_topi (fun v55 ev55 => ?_)
      refine lv_aload_n hx hb dX7_toLine_128 rfl (lv_at hl 2 rfl) ?_
      have n56 : F53 12 = .int u12 := (get_ne eF53 (by decide) i38)
      refine get_f (D := D) (ci := 7) (v := .int u12) (C := RX7) (T := TX7) (N := 18) hx hb hw inAX7 hown hK hP 0 rfl rfl 12 (by decide) (hw _ q_229) (fun _ h9 => h9) n56 dX7_toLine_129 ?_
      refine lv_iadd hx hb dX7_toLine_132 ?_
      refine lv_topi (fun v57 ev57 => ?_)
      refine put_f (D := D) (ci := 7) (v := .int v57) (ty := .int) (C := RX7) (T := TX7) (N := 18) hx hb hw inAX7 tyX7 tyX7_ok nmX7 hown hK hP hD hS 0 rfl rfl 7 (by decide) (hw _ q_219) (fun _ h9 => h9) rfl (by decide +kernel) rfl rfl dX7_toLine_133 (fun H locs F58 eF58 hP hD hS => ?_)
      have hP : va_P D vwCl [(h0, .inr (7, vL 18 F58)), (h_paces, .inl (cI, 40, .inl w15)), (h_manner, .inl (cI, 4, .inl w16)), (p0, .inr (1, vL 18 F_p0_)), (h_p0_settings, .inl (cI, 5, .inl f_p0_settings)), (h_p0_push, .inl (cI, 12, .inl f_p0_push)), (h_p0_feet, .inl (cI, 12, .inl f_p0_feet)), (h_p0_weight, .inl (cI, 12, .inl f_p0_weight)), (p1, .inr (5, vL 11 F_p1_)), (h_p1_crew, .inl (cI, 4, .inl f_p1_crew)), (h_p1_yard, .inl (cI, 4, .inl f_p1_yard))] H := hP
      have hD : va_D A [(h0, .inr (7, vL 18 F58)), (h_paces, .inl (cI, 40, .inl w15)), (h_manner, .inl (cI, 4, .inl w16)), (p0, .inr (1, vL 18 F_p0_)), (h_p0_settings, .inl (cI, 5, .inl f_p0_settings)), (h_p0_push, .inl (cI, 12, .inl f_p0_push)), (h_p0_feet, .inl (cI, 12, .inl f_p0_feet)), (h_p0_weight, .inl (cI, 12, .inl f_p0_weight)), (p1, .inr (5, vL 11 F_p1_)), (h_p1_crew, .inl (cI, 4, .inl f_p1_crew)), (h_p1_yard, .inl (cI, 4, .inl f_p1_yard))] := hD
      exact ret_v hx hb hr hlocks hS hP hD dX7_toLine_136 (Nat.le_of_ble_eq_true rfl) (Nat.le_of_ble_eq_true rfl) ⟨F58, u9, u7, u10, u11, v57, u12, u13, u14, w15, w16, (SAME.up eF58 (SAME.up eF53 (SAME.tr (SAME.up eF5 (SAME.up eF4 (SAME.up eF3 (SAME.up eF2 (SAME.up eF1 SAME.rf (by decide)) (by decide)) (by decide)) (by decide)) (by decide)) i34 (by decide)) (by decide)) (by decide)), (get_ne eF58 (by decide) (get_ne eF53 (by decide) i35)), (get_ne eF58 (by decide) (get_eq eF53)), i33, (get_ne eF58 (by decide) (get_ne eF53 (by decide) i36)), (get_ne eF58 (by decide) (get_ne eF53 (by decide) i37)), (get_eq eF58), (get_ne eF58 (by decide) n56), (get_ne eF58 (by decide) (get_ne eF53 (by decide) i39)), (get_ne eF58 (by decide) (get_ne eF53 (by decide) i40)), rfl⟩
    · have dc51 : u6.toInt < 40 := nle_i (a := 40) (b := u6.toInt) rfl rfl c51
      have k59 : 0 ≤ u6.toInt ∧ u6.toInt ≤ 39 := ⟨i32.1, up_lt dc51 (Int.le_refl _) (by decide)⟩
      refine lv_iload_n hx hb dX7_toLine_50 rfl (lv_at hl 1 rfl) ?_
      refine lv_aload_n hx hb dX7_toLine_51 rfl (lv_at hl 2 rfl) ?_
      refine lv_aload_n hx hb dX7_toLine_52 rfl (lv_at hl 3 rfl) ?_
      refine lv_aload_n hx hb dX7_toLine_53 rfl (lv_at hl 4 rfl) ?_
      refine lv_iload_n hx hb dX7_toLine_54 rfl (lv_at hl 1 rfl) ?_
      refine call_Vi (wr := [(h_paces, .inl (cI, 40, .inl w15)), (h_manner, .inl (cI, 4, .inl w16)), (h_p0_settings, .inl (cI, 5, .inl f_p0_settings)), (h_p0_weight, .inl (cI, 12, .inl f_p0_weight)), (h_p1_yard, .inl (cI, 4, .inl f_p1_yard))]) (As := [.ref p0, .ref p1, .int u7]) (rest := [.int u7]) hx hb hml hown hw (m_X7_pushed l D cI cJ cB cP cM cZ h0 p0 h_p0_push h_p0_feet p1 h_p1_crew G8 u10 u11 F_p0_ f_p0_push f_p0_feet F_p1_ f_p1_crew u7 _ i36 i37 e_p0_push e_p0_feet e_p1_crew s_p1_crew_0) wV_X7_89_X7_pushed dX7_toLine_55 hK hP hD hS hA [0, 3, 5, 6, 8, 9] [1, 2, 4, 7, 10] rfl rfl (by decide) (by decide) (by decide) 0 7 rfl rfl GG.fb hG.at hl.1 rfl (Nat.le_of_ble_eq_true rfl) ⟨(Nat.le_of_ble_eq_true rfl), (Nat.le_of_ble_eq_true rfl)⟩ ⟨(Nat.le_of_ble_eq_true rfl), (Nat.le_of_ble_eq_true rfl)⟩ (fun r60 u H locs hp hP hD hS => ?_)
      obtain rfl := hp
      have hP : va_P D vwCl [(h_paces, .inl (cI, 40, .inl w15)), (h_manner, .inl (cI, 4, .inl w16)), (h_p0_settings, .inl (cI, 5, .inl f_p0_settings)), (h_p0_weight, .inl (cI, 12, .inl f_p0_weight)), (h_p1_yard, .inl (cI, 4, .inl f_p1_yard)), (h0, .inr (7, vL 18 G8)), (p0, .inr (1, vL 18 F_p0_)), (h_p0_push, .inl (cI, 12, .inl f_p0_push)), (h_p0_feet, .inl (cI, 12, .inl f_p0_feet)), (p1, .inr (5, vL 11 F_p1_)), (h_p1_crew, .inl (cI, 4, .inl f_p1_crew))] H := hP
      have hD : va_D A [(h_paces, .inl (cI, 40, .inl w15)), (h_manner, .inl (cI, 4, .inl w16)), (h_p0_settings, .inl (cI, 5, .inl f_p0_settings)), (h_p0_weight, .inl (cI, 12, .inl f_p0_weight)), (h_p1_yard, .inl (cI, 4, .inl f_p1_yard)), (h0, .inr (7, vL 18 G8)), (p0, .inr (1, vL 18 F_p0_)), (h_p0_push, .inl (cI, 12, .inl f_p0_push)), (h_p0_feet, .inl (cI, 12, .inl f_p0_feet)), (p1, .inr (5, vL 11 F_p1_)), (h_p1_crew, .inl (cI, 4, .inl f_p1_crew))] := hD
      refine W.widen (k := 0) (n := 0) (Nat.le_of_ble_eq_true rfl) (Nat.le_of_ble_eq_true rfl) ?_
      refine lv_iadd hx hb dX7_toLine_58 ?_
      refine lv_topi (fun v61 ev61 => ?_)
      refine lv_iconst (v := 4) hx hb dX7_toLine_59 (by decide) ?_
      refine lv_isub hx hb dX7_toLine_60 ?_
      refine lv_topi (fun v62 ev62 => ?_)
      refine lv_aload_n hx hb dX7_toLine_61 rfl (lv_at hl 2 rfl) ?_
      refine get_f (D := D) (ci := 7) (v := .int u12) (C := RX7) (T := TX7) (N := 18) hx hb hw inAX7 hown hK hP 5 rfl rfl 12 (by decide) (hw _ q_229) (fun _ h9 => h9) i38 dX7_toLine_62 ?_
      refine lv_bipush (v := 100) hx hb dX7_toLine_65 (by decide) ?_
      refine lv_idiv hx hb dX7_toLine_67 (by decide) ?_
      refine lv_topi (fun v63 ev63 => ?_)
      refine lv_isub hx hb dX7_toLine_68 ?_
      refine lv_topi (fun v64 ev64 => ?_)
      refine call_Ti (wr := [(h_paces, .inl (cI, 40, .inl w15)), (h_manner, .inl (cI, 4, .inl w16)), (h_p0_settings, .inl (cI, 5, .inl f_p0_settings)), (h_p0_weight, .inl (cI, 12, .inl f_p0_weight)), (h_p1_yard, .inl (cI, 4, .inl f_p1_yard)), (h0, .inr (7, vL 18 G8)), (p0, .inr (1, vL 18 F_p0_)), (h_p0_push, .inl (cI, 12, .inl f_p0_push)), (h_p0_feet, .inl (cI, 12, .inl f_p0_feet)), (p1, .inr (5, vL 11 F_p1_)), (h_p1_crew, .inl (cI, 4, .inl f_p1_crew))]) (As := [.int v64]) (rest := []) hx hb hml hown hw (m_X9_bounded l D cI cJ cB cP cM cZ v64 _ ) wT_X9_bounded (hG.2.1 (.methodLinkNest "FourSledge$Ride" 93 ⟨"FourSledge", "bounded", "(I)I"⟩ "FourSledge") (by decide +kernel)) dX7_toLine_69 hP hD hS hA [] [0, 1, 2, 3, 4, 5, 6, 7, 8, 9, 10] rfl rfl (by decide) (by decide) (by decide) GG.fb hG.at hl.1 rfl (Nat.le_of_ble_eq_true rfl) ⟨(Nat.le_of_ble_eq_true rfl), (Nat.le_of_ble_eq_true rfl)⟩ ⟨(Nat.le_of_ble_eq_true rfl), (Nat.le_of_ble_eq_true rfl)⟩ (fun r65 u H locs hp hP hD hS => ?_)
      obtain ⟨t66, rfl⟩ := hp
      have hP : va_P D vwCl [(h_paces, .inl (cI, 40, .inl w15)), (h_manner, .inl (cI, 4, .inl w16)), (h_p0_settings, .inl (cI, 5, .inl f_p0_settings)), (h_p0_weight, .inl (cI, 12, .inl f_p0_weight)), (h_p1_yard, .inl (cI, 4, .inl f_p1_yard)), (h0, .inr (7, vL 18 G8)), (p0, .inr (1, vL 18 F_p0_)), (h_p0_push, .inl (cI, 12, .inl f_p0_push)), (h_p0_feet, .inl (cI, 12, .inl f_p0_feet)), (p1, .inr (5, vL 11 F_p1_)), (h_p1_crew, .inl (cI, 4, .inl f_p1_crew))] H := hP
      have hD : va_D A [(h_paces, .inl (cI, 40, .inl w15)), (h_manner, .inl (cI, 4, .inl w16)), (h_p0_settings, .inl (cI, 5, .inl f_p0_settings)), (h_p0_weight, .inl (cI, 12, .inl f_p0_weight)), (h_p1_yard, .inl (cI, 4, .inl f_p1_yard)), (h0, .inr (7, vL 18 G8)), (p0, .inr (1, vL 18 F_p0_)), (h_p0_push, .inl (cI, 12, .inl f_p0_push)), (h_p0_feet, .inl (cI, 12, .inl f_p0_feet)), (p1, .inr (5, vL 11 F_p1_)), (h_p1_crew, .inl (cI, 4, .inl f_p1_crew))] := hD
      refine W.widen (k := 0) (n := 0) (Nat.le_of_ble_eq_true rfl) (Nat.le_of_ble_eq_true rfl) ?_
      refine lv_istore_n (lv' := [(3, .int r65), (4, .int u6), (0, .ref h0), (1, .ref p0), (2, .ref p1)]) hx hb dX7_toLine_72 rfl hl (by decide) rfl (fun ls hl => ?_)
      refine lv_aload_n hx hb dX7_toLine_73 rfl (lv_at hl 2 rfl) ?_
      refine lv_aload_n hx hb dX7_toLine_74 rfl (lv_at hl 3 rfl) ?_
      refine lv_aload_n hx hb dX7_toLine_75 rfl (lv_at hl 4 rfl) ?_
      refine lv_iload hx hb dX7_toLine_76 (lv_at hl 1 rfl) ?_
      refine lv_iload_n hx hb dX7_toLine_78 rfl (lv_at hl 0 rfl) ?_
      have n67 : F1 1 = .ref h_manner := (get_ne eF1 (by decide) e_manner)
      have n68 : F2 1 = .ref h_manner := (get_ne eF2 (by decide) n67)
      have n69 : F3 1 = .ref h_manner := (get_ne eF3 (by decide) n68)
      have n70 : F4 1 = .ref h_manner := (get_ne eF4 (by decide) n69)
      have n71 : F5 1 = .ref h_manner := (get_ne eF5 (by decide) n70)
      have n72 : G8 1 = .ref h_manner := (SAME.at i34 (by decide) n71)
      have n73 : F1 14 = .int x_kicks := (get_ne eF1 (by decide) e_kicks)
      have n74 : F2 14 = .int x_kicks := (get_ne eF2 (by decide) n73)
      have n75 : F3 14 = .int x_kicks := (get_ne eF3 (by decide) n74)
      have n76 : F4 14 = .int x_kicks := (get_ne eF4 (by decide) n75)
      have n77 : F5 14 = .int x_kicks := (get_ne eF5 (by decide) n76)
      have n78 : G8 14 = .int x_kicks := (SAME.at i34 (by decide) n77)
      refine call_Vi (wr := [(h_paces, .inl (cI, 40, .inl w15)), (h_p0_settings, .inl (cI, 5, .inl f_p0_settings)), (h_p0_push, .inl (cI, 12, .inl f_p0_push))]) (As := [.ref p0, .ref p1, .int u6, .int r65]) (rest := []) hx hb hml hown hw (m_X7_behindJumps l D cI cJ cB cP cM cZ h0 h_manner p0 h_p0_feet h_p0_weight p1 h_p1_crew h_p1_yard G8 u10 u11 u12 u13 x_kicks u14 w16 F_p0_ f_p0_feet f_p0_weight F_p1_ f_p1_crew f_p1_yard u6 r65 _ n72 i36 i37 i38 i39 n78 i_x_kicks i40 e_p0_feet e_p0_weight e_p1_crew e_p1_yard s_p1_crew_0 t66) wV_X7_97_X7_behindJumps dX7_toLine_79 hK hP hD hS hA [5, 1, 6, 8, 3, 9, 10, 4] [0, 2, 7] rfl rfl (by decide) (by decide) (by decide) 0 7 rfl rfl GG.fb hG.at hl.1 rfl (Nat.le_of_ble_eq_true rfl) ⟨(Nat.le_of_ble_eq_true rfl), (Nat.le_of_ble_eq_true rfl)⟩ ⟨(Nat.le_of_ble_eq_true rfl), (Nat.le_of_ble_eq_true rfl)⟩ (fun r79 u H locs hp hP hD hS => ?_)
      obtain ⟨F80, y81, y82, y83, y84, y85, g86, t87, t88, t89, t90, t91, t92, t93, rfl⟩ := hp
      have hP : va_P D vwCl [(h_paces, .inl (cI, 40, .inl w15)), (h_p0_settings, .inl (cI, 5, .inl f_p0_settings)), (h_p0_push, .inl (cI, 12, .inl f_p0_push)), (h0, .inr (7, vL 18 F80)), (h_manner, .inl (cI, 4, .inl g86)), (p0, .inr (1, vL 18 F_p0_)), (h_p0_feet, .inl (cI, 12, .inl f_p0_feet)), (h_p0_weight, .inl (cI, 12, .inl f_p0_weight)), (p1, .inr (5, vL 11 F_p1_)), (h_p1_crew, .inl (cI, 4, .inl f_p1_crew)), (h_p1_yard, .inl (cI, 4, .inl f_p1_yard))] H := hP
      have hD : va_D A [(h_paces, .inl (cI, 40, .inl w15)), (h_p0_settings, .inl (cI, 5, .inl f_p0_settings)), (h_p0_push, .inl (cI, 12, .inl f_p0_push)), (h0, .inr (7, vL 18 F80)), (h_manner, .inl (cI, 4, .inl g86)), (p0, .inr (1, vL 18 F_p0_)), (h_p0_feet, .inl (cI, 12, .inl f_p0_feet)), (h_p0_weight, .inl (cI, 12, .inl f_p0_weight)), (p1, .inr (5, vL 11 F_p1_)), (h_p1_crew, .inl (cI, 4, .inl f_p1_crew)), (h_p1_yard, .inl (cI, 4, .inl f_p1_yard))] := hD
      refine W.widen (k := 0) (n := 0) (Nat.le_of_ble_eq_true rfl) (Nat.le_of_ble_eq_true rfl) ?_
      refine lv_istore_n (lv' := [(3, .int r79), (4, .int u6), (0, .ref h0), (1, .ref p0), (2, .ref p1)]) hx hb dX7_toLine_82 rfl hl (by decide) rfl (fun ls hl => ?_)
      refine lv_aload_n hx hb dX7_toLine_83 rfl (lv_at hl 2 rfl) ?_
      refine lv_dup hx hb dX7_toLine_84 rfl ?_
      have n94 : F80 3 = .int u9 := (SAME.at t87 (by decide) i35)
      refine get_f (D := D) (ci := 7) (v := .int u9) (C := RX7) (T := TX7) (N := 18) hx hb hw inAX7 hown hK hP 3 rfl rfl 3 (by decide) (hw _ q_211) (fun _ h9 => h9) n94 dX7_toLine_85 ?_
      refine lv_iconst (v := 1) hx hb dX7_toLine_88 (by decide) ?_
      refine lv_iload_n hx hb dX7_toLine_89 rfl (lv_at hl 0 rfl) ?_
      refine call_Ti (wr := [(h_paces, .inl (cI, 40, .inl w15)), (h_p0_settings, .inl (cI, 5, .inl f_p0_settings)), (h_p0_push, .inl (cI, 12, .inl f_p0_push)), (h0, .inr (7, vL 18 F80)), (h_manner, .inl (cI, 4, .inl g86)), (p0, .inr (1, vL 18 F_p0_)), (h_p0_feet, .inl (cI, 12, .inl f_p0_feet)), (h_p0_weight, .inl (cI, 12, .inl f_p0_weight)), (p1, .inr (5, vL 11 F_p1_)), (h_p1_crew, .inl (cI, 4, .inl f_p1_crew)), (h_p1_yard, .inl (cI, 4, .inl f_p1_yard))]) (As := [.int 1, .int r79]) (rest := [.int u9, .ref h0]) hx hb hml hown hw (m_X9_timeFor l D cI cJ cB cP cM cZ 1 r79 _ ) wT_X9_timeFor (hG.2.1 (.methodLinkNest "FourSledge$Ride" 100 ⟨"FourSledge", "timeFor", "(II)I"⟩ "FourSledge") (by decide +kernel)) dX7_toLine_90 hP hD hS hA [] [0, 1, 2, 3, 4, 5, 6, 7, 8, 9, 10] rfl rfl (by decide) (by decide) (by decide) GG.fb hG.at hl.1 rfl (Nat.le_of_ble_eq_true rfl) ⟨(Nat.le_of_ble_eq_true rfl), (Nat.le_of_ble_eq_true rfl)⟩ ⟨(Nat.le_of_ble_eq_true rfl), (Nat.le_of_ble_eq_true rfl)⟩ (fun r95 u H locs hp hP hD hS => ?_)
      obtain rfl := hp
      have hP : va_P D vwCl [(h_paces, .inl (cI, 40, .inl w15)), (h_p0_settings, .inl (cI, 5, .inl f_p0_settings)), (h_p0_push, .inl (cI, 12, .inl f_p0_push)), (h0, .inr (7, vL 18 F80)), (h_manner, .inl (cI, 4, .inl g86)), (p0, .inr (1, vL 18 F_p0_)), (h_p0_feet, .inl (cI, 12, .inl f_p0_feet)), (h_p0_weight, .inl (cI, 12, .inl f_p0_weight)), (p1, .inr (5, vL 11 F_p1_)), (h_p1_crew, .inl (cI, 4, .inl f_p1_crew)), (h_p1_yard, .inl (cI, 4, .inl f_p1_yard))] H := hP
      have hD : va_D A [(h_paces, .inl (cI, 40, .inl w15)), (h_p0_settings, .inl (cI, 5, .inl f_p0_settings)), (h_p0_push, .inl (cI, 12, .inl f_p0_push)), (h0, .inr (7, vL 18 F80)), (h_manner, .inl (cI, 4, .inl g86)), (p0, .inr (1, vL 18 F_p0_)), (h_p0_feet, .inl (cI, 12, .inl f_p0_feet)), (h_p0_weight, .inl (cI, 12, .inl f_p0_weight)), (p1, .inr (5, vL 11 F_p1_)), (h_p1_crew, .inl (cI, 4, .inl f_p1_crew)), (h_p1_yard, .inl (cI, 4, .inl f_p1_yard))] := hD
      refine W.widen (k := 0) (n := 0) (Nat.le_of_ble_eq_true rfl) (Nat.le_of_ble_eq_true rfl) ?_
      refine lv_iadd hx hb dX7_toLine_93 ?_
      refine lv_topi (fun v96 ev96 => ?_)
      refine put_f (D := D) (ci := 7) (v := .int v96) (ty := .int) (C := RX7) (T := TX7) (N := 18) hx hb hw inAX7 tyX7 tyX7_ok nmX7 hown hK hP hD hS 3 rfl rfl 3 (by decide) (hw _ q_211) (fun _ h9 => h9) rfl (by decide +kernel) rfl rfl dX7_toLine_94 (fun H locs F97 eF97 hP hD hS => ?_)
      have hP : va_P D vwCl [(h_paces, .inl (cI, 40, .inl w15)), (h_p0_settings, .inl (cI, 5, .inl f_p0_settings)), (h_p0_push, .inl (cI, 12, .inl f_p0_push)), (h0, .inr (7, vL 18 F97)), (h_manner, .inl (cI, 4, .inl g86)), (p0, .inr (1, vL 18 F_p0_)), (h_p0_feet, .inl (cI, 12, .inl f_p0_feet)), (h_p0_weight, .inl (cI, 12, .inl f_p0_weight)), (p1, .inr (5, vL 11 F_p1_)), (h_p1_crew, .inl (cI, 4, .inl f_p1_crew)), (h_p1_yard, .inl (cI, 4, .inl f_p1_yard))] H := hP
      have hD : va_D A [(h_paces, .inl (cI, 40, .inl w15)), (h_p0_settings, .inl (cI, 5, .inl f_p0_settings)), (h_p0_push, .inl (cI, 12, .inl f_p0_push)), (h0, .inr (7, vL 18 F97)), (h_manner, .inl (cI, 4, .inl g86)), (p0, .inr (1, vL 18 F_p0_)), (h_p0_feet, .inl (cI, 12, .inl f_p0_feet)), (h_p0_weight, .inl (cI, 12, .inl f_p0_weight)), (p1, .inr (5, vL 11 F_p1_)), (h_p1_crew, .inl (cI, 4, .inl f_p1_crew)), (h_p1_yard, .inl (cI, 4, .inl f_p1_yard))] := hD
      refine lv_aload_n hx hb dX7_toLine_97 rfl (lv_at hl 2 rfl) ?_
      have n98 : F1 0 = .ref h_paces := (get_ne eF1 (by decide) e_paces)
      have n99 : F2 0 = .ref h_paces := (get_ne eF2 (by decide) n98)
      have n100 : F3 0 = .ref h_paces := (get_ne eF3 (by decide) n99)
      have n101 : F4 0 = .ref h_paces := (get_ne eF4 (by decide) n100)
      have n102 : F5 0 = .ref h_paces := (get_ne eF5 (by decide) n101)
      have n103 : G8 0 = .ref h_paces := (SAME.at i34 (by decide) n102)
      have n104 : F80 0 = .ref h_paces := (SAME.at t87 (by decide) n103)
      have n105 : F97 0 = .ref h_paces := (get_ne eF97 (by decide) n104)
      refine get_f (D := D) (ci := 7) (v := .ref h_paces) (C := RX7) (T := TX7) (N := 18) hx hb hw inAX7 hown hK hP 3 rfl rfl 0 (by decide) (hw _ q_205) (fun _ h9 => h9) n105 dX7_toLine_98 ?_
      refine lv_iload hx hb dX7_toLine_101 (lv_at hl 1 rfl) ?_
      refine lv_iload_n hx hb dX7_toLine_103 rfl (lv_at hl 0 rfl) ?_
      obtain ⟨g106, eg106⟩ : ∃ z : Nat → Int32, upd w15 u6.toNatClampNeg r79 = z := ⟨_, rfl⟩
      refine iast_g hx hb hK hP hD hS 0 0 rfl rfl (ix_k k59 (by decide) (by decide)) eg106 dX7_toLine_104 (fun H locs hP hD hS => ?_)
      have hP : va_P D vwCl [(h_paces, .inl (cI, 40, .inl g106)), (h_p0_settings, .inl (cI, 5, .inl f_p0_settings)), (h_p0_push, .inl (cI, 12, .inl f_p0_push)), (h0, .inr (7, vL 18 F97)), (h_manner, .inl (cI, 4, .inl g86)), (p0, .inr (1, vL 18 F_p0_)), (h_p0_feet, .inl (cI, 12, .inl f_p0_feet)), (h_p0_weight, .inl (cI, 12, .inl f_p0_weight)), (p1, .inr (5, vL 11 F_p1_)), (h_p1_crew, .inl (cI, 4, .inl f_p1_crew)), (h_p1_yard, .inl (cI, 4, .inl f_p1_yard))] H := hP
      have hD : va_D A [(h_paces, .inl (cI, 40, .inl g106)), (h_p0_settings, .inl (cI, 5, .inl f_p0_settings)), (h_p0_push, .inl (cI, 12, .inl f_p0_push)), (h0, .inr (7, vL 18 F97)), (h_manner, .inl (cI, 4, .inl g86)), (p0, .inr (1, vL 18 F_p0_)), (h_p0_feet, .inl (cI, 12, .inl f_p0_feet)), (h_p0_weight, .inl (cI, 12, .inl f_p0_weight)), (p1, .inr (5, vL 11 F_p1_)), (h_p1_crew, .inl (cI, 4, .inl f_p1_crew)), (h_p1_yard, .inl (cI, 4, .inl f_p1_yard))] := hD
      obtain ⟨v107, ev107⟩ : ∃ z : Int32, z = u6 + 1 := ⟨_, rfl⟩
      have bv107 : v107.toInt = u6.toInt + 1 := by rw [ev107]; exact add_k rfl rfl k59 ⟨Int.le_refl _, Int.le_refl _⟩ (by decide)
      have k108 : 1 ≤ v107.toInt ∧ v107.toInt ≤ 40 := add_r bv107 k59 ⟨Int.le_refl _, Int.le_refl _⟩ (by decide)
      refine lv_iinc (v := v107) (lv' := [(4, .int v107), (3, .int r79), (0, .ref h0), (1, .ref p0), (2, .ref p1)]) hx hb dX7_toLine_105 hl (k := 1) rfl (by rw [ev107]; rfl) (by decide) rfl (fun ls hl => ?_)
      refine lv_goto (tgt := 32) hx hb dX7_toLine_108 (by decide) ?_
      have n109 : F97 5 = .int y81 := (get_ne eF97 (by decide) t88)
      have n110 : F97 6 = .int y82 := (get_ne eF97 (by decide) t89)
      have n111 : F97 12 = .int y83 := (get_ne eF97 (by decide) t90)
      have n112 : F97 13 = .int y84 := (get_ne eF97 (by decide) t91)
      have n113 : F97 15 = .int y85 := (get_ne eF97 (by decide) t92)
      exact ih (v107, r79, F97, v96, y81, y82, y83, y84, y85, g106, g86) ⟨(ir_wk k108 (by decide) (by decide)), t93, (SAME.up eF97 (SAME.tr (SAME.tr SAME.rf i34 (by decide)) t87 (by decide)) (by decide)), (get_eq eF97), n109, n110, n111, n112, n113⟩ (by show (40 - v107.toInt).toNat < (40 - u6.toInt).toNat; omega) _ _ _ (hP.sub [3, 0, 4, 5, 1, 2, 6, 7, 8, 9, 10] rfl) (hD.sub [3, 0, 4, 5, 1, 2, 6, 7, 8, 9, 10] (by decide) rfl) hS (lv_sub hl [0, 1, 2, 3, 4] rfl)
set_option maxHeartbeats 4000000 in
set_option maxRecDepth 100000 in
theorem m_X7_timeInAll (l : Launch) (D : va_G) (cI cJ cB cP cM cZ : ClassId) (h0 : Nat) (h_paces : Nat) (h_manner : Nat) (h_paceBehind : Nat) (p0 : Nat) (h_p0_settings : Nat) (h_p0_push : Nat) (h_p0_feet : Nat) (h_p0_weight : Nat) (h_p0_length : Nat) (h_p0_drop : Nat) (h_p0_ideal : Nat) (h_p0_over : Nat) (h_p0_bestAt : Nat) (h_p0_bad : Nat) (p1 : Nat) (h_p1_crew : Nat) (h_p1_yard : Nat) (h_p1_high : Nat) (Fh : Nat → Value) (x_kicks : Int32) (x_seed : Int32) (x_touchedBend : Int32) (x_touchedBy : Int32) (f_paces : Nat → Int32) (f_manner : Nat → Int32) (f_paceBehind : Nat → Int32) (F_p0_ : Nat → Value) (x_p0_bends : Int32) (x_p0_runners : Int32) (f_p0_settings : Nat → Int32) (f_p0_push : Nat → Int32) (f_p0_feet : Nat → Int32) (f_p0_weight : Nat → Int32) (f_p0_length : Nat → Int32) (f_p0_drop : Nat → Int32) (f_p0_ideal : Nat → Int32) (f_p0_over : Nat → Int32) (f_p0_bestAt : Nat → Int32) (f_p0_bad : Nat → Int32) (F_p1_ : Nat → Value) (x_p1_lead : Int32) (x_p1_runner : Int32) (x_p1_number : Int32) (f_p1_crew : Nat → Int32) (f_p1_yard : Nat → Int32) (f_p1_high : Nat → Int32) (sz : Nat) (e_paces : Fh 0 = .ref h_paces) (e_manner : Fh 1 = .ref h_manner) (e_paceBehind : Fh 2 = .ref h_paceBehind) (e_kicks : Fh 14 = .int x_kicks) (i_x_kicks : IR 0 1 x_kicks) (e_seed : Fh 15 = .int x_seed) (e_touchedBend : Fh 16 = .int x_touchedBend) (e_touchedBy : Fh 17 = .int x_touchedBy) (e_p0_settings : F_p0_ 1 = .ref h_p0_settings) (e_p0_push : F_p0_ 3 = .ref h_p0_push) (e_p0_feet : F_p0_ 4 = .ref h_p0_feet) (e_p0_weight : F_p0_ 5 = .ref h_p0_weight) (e_p0_length : F_p0_ 6 = .ref h_p0_length) (e_p0_drop : F_p0_ 7 = .ref h_p0_drop) (e_p0_ideal : F_p0_ 8 = .ref h_p0_ideal) (e_p0_over : F_p0_ 9 = .ref h_p0_over) (e_p0_bestAt : F_p0_ 11 = .ref h_p0_bestAt) (e_p0_bad : F_p0_ 12 = .ref h_p0_bad) (e_p0_bends : F_p0_ 14 = .int x_p0_bends) (i_x_p0_bends : IR 0 12 x_p0_bends) (e_p0_runners : F_p0_ 15 = .int x_p0_runners) (i_x_p0_runners : IR 0 6 x_p0_runners) (e_p1_crew : F_p1_ 0 = .ref h_p1_crew) (e_p1_yard : F_p1_ 1 = .ref h_p1_yard) (e_p1_high : F_p1_ 2 = .ref h_p1_high) (e_p1_lead : F_p1_ 4 = .int x_p1_lead) (e_p1_runner : F_p1_ 5 = .int x_p1_runner) (e_p1_number : F_p1_ 6 = .int x_p1_number) (s_p1_crew_0 : SG 0 3 0 11 f_p1_crew) : CI l yX7_timeInAll cX7_timeInAll 4 (some .int) { frames := 4, cells := 0, slots := 0, locals := 115 } (GG D cI cJ cB cP cM cZ) D [(h0, .inr (7, vL 18 Fh)), (h_paces, .inl (cI, 40, .inl f_paces)), (h_manner, .inl (cI, 4, .inl f_manner)), (h_paceBehind, .inl (cI, 12, .inl f_paceBehind)), (p0, .inr (1, vL 18 F_p0_)), (h_p0_settings, .inl (cI, 5, .inl f_p0_settings)), (h_p0_push, .inl (cI, 12, .inl f_p0_push)), (h_p0_feet, .inl (cI, 12, .inl f_p0_feet)), (h_p0_weight, .inl (cI, 12, .inl f_p0_weight)), (h_p0_length, .inl (cI, 12, .inl f_p0_length)), (h_p0_drop, .inl (cI, 12, .inl f_p0_drop)), (h_p0_ideal, .inl (cI, 12, .inl f_p0_ideal)), (h_p0_over, .inl (cI, 12, .inl f_p0_over)), (h_p0_bestAt, .inl (cI, 6, .inl f_p0_bestAt)), (h_p0_bad, .inl (cI, 6, .inl f_p0_bad)), (p1, .inr (5, vL 11 F_p1_)), (h_p1_crew, .inl (cI, 4, .inl f_p1_crew)), (h_p1_yard, .inl (cI, 4, .inl f_p1_yard)), (h_p1_high, .inl (cI, 12, .inl f_p1_high))] sz [.ref h0, .ref p0, .ref p1] (fun (r : Int32) (u : va_W) => ∃ (Gh : Nat → Value) (y_startTime : Int32) (y_startPace : Int32) (y_in : Int32) (y_late : Int32) (y_weight : Int32) (y_total : Int32) (y_lastPace : Int32) (y_gone : Int32) (y_overAt : Int32) (y_weightIn : Int32) (y_latestYardIn : Int32) (y_seed : Int32) (g_paces : Nat → Int32) (g_manner : Nat → Int32) (g_paceBehind : Nat → Int32), SAME [3, 4, 5, 6, 7, 8, 9, 10, 11, 12, 13, 15] Fh Gh ∧ Gh 3 = .int y_startTime ∧ Gh 4 = .int y_startPace ∧ IR 10 250 y_startPace ∧ Gh 5 = .int y_in ∧ Gh 6 = .int y_late ∧ Gh 7 = .int y_weight ∧ Gh 8 = .int y_total ∧ Gh 9 = .int y_lastPace ∧ Gh 10 = .int y_gone ∧ Gh 11 = .int y_overAt ∧ IR (-1) 11 y_overAt ∧ Gh 12 = .int y_weightIn ∧ Gh 13 = .int y_latestYardIn ∧ Gh 15 = .int y_seed ∧ u = [(h0, .inr (7, vL 18 Gh)), (h_paces, .inl (cI, 40, .inl g_paces)), (h_manner, .inl (cI, 4, .inl g_manner)), (h_paceBehind, .inl (cI, 12, .inl g_paceBehind)), (p0, .inr (1, vL 18 F_p0_)), (h_p0_settings, .inl (cI, 5, .inl f_p0_settings)), (h_p0_push, .inl (cI, 12, .inl f_p0_push)), (h_p0_feet, .inl (cI, 12, .inl f_p0_feet)), (h_p0_weight, .inl (cI, 12, .inl f_p0_weight)), (h_p0_length, .inl (cI, 12, .inl f_p0_length)), (h_p0_drop, .inl (cI, 12, .inl f_p0_drop)), (h_p0_ideal, .inl (cI, 12, .inl f_p0_ideal)), (h_p0_over, .inl (cI, 12, .inl f_p0_over)), (h_p0_bestAt, .inl (cI, 6, .inl f_p0_bestAt)), (h_p0_bad, .inl (cI, 6, .inl f_p0_bad)), (p1, .inr (5, vL 11 F_p1_)), (h_p1_crew, .inl (cI, 4, .inl f_p1_crew)), (h_p1_yard, .inl (cI, 4, .inl f_p1_yard)), (h_p1_high, .inl (cI, 12, .inl f_p1_high))]) := by
  refine CI_mk (by decide) (Nat.le_of_ble_eq_true rfl) ?_
  intro p e s m below meth c A ls E hAe hG hsz hP hD hA hS hl
  obtain ⟨hx, hb, hr, hw, hown, hlocks, hml, hnm⟩ := E
  have hK := hG.1
  have i_x_kicks : 0 ≤ x_kicks.toInt ∧ x_kicks.toInt ≤ 1 := i_x_kicks
  have i_x_p0_bends : 0 ≤ x_p0_bends.toInt ∧ x_p0_bends.toInt ≤ 12 := i_x_p0_bends
  have i_x_p0_runners : 0 ≤ x_p0_runners.toInt ∧ x_p0_runners.toInt ≤ 6 := i_x_p0_runners
  have hl : lv_has ls 4 [(0, .ref h0), (1, .ref p0), (2, .ref p1)] := hl
  refine lv_aload_n hx hb dX7_timeInAll_0 rfl (lv_at hl 0 rfl) ?_
  refine lv_aload_n hx hb dX7_timeInAll_1 rfl (lv_at hl 1 rfl) ?_
  refine lv_aload_n hx hb dX7_timeInAll_2 rfl (lv_at hl 2 rfl) ?_
  refine call_Vv (wr := [(h_paceBehind, .inl (cI, 12, .inl f_paceBehind)), (h_p0_length, .inl (cI, 12, .inl f_p0_length)), (h_p0_drop, .inl (cI, 12, .inl f_p0_drop)), (h_p0_ideal, .inl (cI, 12, .inl f_p0_ideal)), (h_p0_over, .inl (cI, 12, .inl f_p0_over)), (h_p0_bestAt, .inl (cI, 6, .inl f_p0_bestAt)), (h_p0_bad, .inl (cI, 6, .inl f_p0_bad)), (h_p1_high, .inl (cI, 12, .inl f_p1_high))]) (As := [.ref p0, .ref p1]) (rest := []) hx hb hml hown hw (m_X7_toLine l D cI cJ cB cP cM cZ h0 h_paces h_manner p0 h_p0_settings h_p0_push h_p0_feet h_p0_weight p1 h_p1_crew h_p1_yard Fh x_kicks x_seed f_paces f_manner F_p0_ f_p0_settings f_p0_push f_p0_feet f_p0_weight F_p1_ x_p1_lead f_p1_crew f_p1_yard _ e_paces e_manner e_kicks i_x_kicks e_seed e_p0_settings e_p0_push e_p0_feet e_p0_weight e_p1_crew e_p1_yard e_p1_lead s_p1_crew_0) wV_X7_68_X7_toLine dX7_timeInAll_3 hK hP hD hS hA [0, 1, 2, 4, 5, 6, 7, 8, 15, 16, 17] [3, 9, 10, 11, 12, 13, 14, 18] rfl rfl (by decide) (by decide) (by decide) 0 7 rfl rfl GG.fb hG.at hl.1 rfl (Nat.le_of_ble_eq_true rfl) ⟨(Nat.le_of_ble_eq_true rfl), (Nat.le_of_ble_eq_true rfl)⟩ ⟨(Nat.le_of_ble_eq_true rfl), (Nat.le_of_ble_eq_true rfl)⟩ (fun u H locs hp hP hD hS => ?_)
  obtain ⟨F2, y3, y4, y5, y6, y7, y8, y9, y10, g11, g12, t13, t14, t15, t16, t17, t18, t19, t20, t21, t22, rfl⟩ := hp
  have hP : va_P D vwCl [(h_paceBehind, .inl (cI, 12, .inl f_paceBehind)), (h_p0_length, .inl (cI, 12, .inl f_p0_length)), (h_p0_drop, .inl (cI, 12, .inl f_p0_drop)), (h_p0_ideal, .inl (cI, 12, .inl f_p0_ideal)), (h_p0_over, .inl (cI, 12, .inl f_p0_over)), (h_p0_bestAt, .inl (cI, 6, .inl f_p0_bestAt)), (h_p0_bad, .inl (cI, 6, .inl f_p0_bad)), (h_p1_high, .inl (cI, 12, .inl f_p1_high)), (h0, .inr (7, vL 18 F2)), (h_paces, .inl (cI, 40, .inl g11)), (h_manner, .inl (cI, 4, .inl g12)), (p0, .inr (1, vL 18 F_p0_)), (h_p0_settings, .inl (cI, 5, .inl f_p0_settings)), (h_p0_push, .inl (cI, 12, .inl f_p0_push)), (h_p0_feet, .inl (cI, 12, .inl f_p0_feet)), (h_p0_weight, .inl (cI, 12, .inl f_p0_weight)), (p1, .inr (5, vL 11 F_p1_)), (h_p1_crew, .inl (cI, 4, .inl f_p1_crew)), (h_p1_yard, .inl (cI, 4, .inl f_p1_yard))] H := hP
  have hD : va_D A [(h_paceBehind, .inl (cI, 12, .inl f_paceBehind)), (h_p0_length, .inl (cI, 12, .inl f_p0_length)), (h_p0_drop, .inl (cI, 12, .inl f_p0_drop)), (h_p0_ideal, .inl (cI, 12, .inl f_p0_ideal)), (h_p0_over, .inl (cI, 12, .inl f_p0_over)), (h_p0_bestAt, .inl (cI, 6, .inl f_p0_bestAt)), (h_p0_bad, .inl (cI, 6, .inl f_p0_bad)), (h_p1_high, .inl (cI, 12, .inl f_p1_high)), (h0, .inr (7, vL 18 F2)), (h_paces, .inl (cI, 40, .inl g11)), (h_manner, .inl (cI, 4, .inl g12)), (p0, .inr (1, vL 18 F_p0_)), (h_p0_settings, .inl (cI, 5, .inl f_p0_settings)), (h_p0_push, .inl (cI, 12, .inl f_p0_push)), (h_p0_feet, .inl (cI, 12, .inl f_p0_feet)), (h_p0_weight, .inl (cI, 12, .inl f_p0_weight)), (p1, .inr (5, vL 11 F_p1_)), (h_p1_crew, .inl (cI, 4, .inl f_p1_crew)), (h_p1_yard, .inl (cI, 4, .inl f_p1_yard))] := hD
  refine W.widen (k := 0) (n := 0) (Nat.le_of_ble_eq_true rfl) (Nat.le_of_ble_eq_true rfl) ?_
  refine lv_iconst (v := (-1)) hx hb dX7_timeInAll_6 (by decide) ?_
  refine lv_istore_n (lv' := [(3, .int (-1)), (0, .ref h0), (1, .ref p0), (2, .ref p1)]) hx hb dX7_timeInAll_7 rfl hl (by decide) rfl (fun ls hl => ?_)
  refine lv_aload_n hx hb dX7_timeInAll_8 rfl (lv_at hl 1 rfl) ?_
  refine get_f (D := D) (ci := 7) (v := .int y7) (C := RX7) (T := TX7) (N := 18) hx hb hw inAX7 hown hK hP 8 rfl rfl 7 (by decide) (hw _ q_219) (fun _ h9 => h9) t19 dX7_timeInAll_9 ?_
  refine lv_aload_n hx hb dX7_timeInAll_12 rfl (lv_at hl 2 rfl) ?_
  refine get_f (D := D) (ci := 1) (v := .ref h_p0_settings) (C := RX1) (T := TX1) (N := 18) hx hb hw inAX1 hown hK hP 11 rfl rfl 1 (by decide) (hw _ q_317) (fun _ h9 => h9) e_p0_settings dX7_timeInAll_13 ?_
  refine lv_iconst (v := 2) hx hb dX7_timeInAll_16 (by decide) ?_
  refine iald_n hx hb hK hP 12 0 rfl rfl 2 rfl (Nat.le_of_ble_eq_true rfl) (Nat.le_of_ble_eq_true rfl) rfl dX7_timeInAll_17 ?_
  refine lv_topi (fun v23 ev23 => ?_)
  refine lv_icmp_gt (tgt := 39) hx hb dX7_timeInAll_18 (by decide) (fun c24 => ?_) (fun c24 => ?_)
  · have dc24 : v23.toInt < y7.toInt := lt_i (a := v23.toInt) (b := y7.toInt) rfl rfl c24
    have k25 : (-2147483648) ≤ v23.toInt ∧ v23.toInt ≤ 2147483646 := ⟨(ir_any _).1, up_lt dc24 (ir_any _).2 (by decide)⟩
    have k26 : (-2147483647) ≤ y7.toInt ∧ y7.toInt ≤ 2147483647 := ⟨lo_lt dc24 (ir_any _).1 (by decide), (ir_any _).2⟩
    refine lv_aload_n hx hb dX7_timeInAll_39 rfl (lv_at hl 1 rfl) ?_
    refine lv_aload_n hx hb dX7_timeInAll_40 rfl (lv_at hl 1 rfl) ?_
    refine get_f (D := D) (ci := 7) (v := .int y4) (C := RX7) (T := TX7) (N := 18) hx hb hw inAX7 hown hK hP 8 rfl rfl 4 (by decide) (hw _ q_213) (fun _ h9 => h9) t15 dX7_timeInAll_41 ?_
    refine call_Vv (wr := [(h_paceBehind, .inl (cI, 12, .inl f_paceBehind)), (h_p0_length, .inl (cI, 12, .inl f_p0_length)), (h_p0_drop, .inl (cI, 12, .inl f_p0_drop)), (h_p0_ideal, .inl (cI, 12, .inl f_p0_ideal)), (h_p0_over, .inl (cI, 12, .inl f_p0_over)), (h_p0_bestAt, .inl (cI, 6, .inl f_p0_bestAt)), (h_p0_bad, .inl (cI, 6, .inl f_p0_bad)), (h_p1_high, .inl (cI, 12, .inl f_p1_high)), (h_paces, .inl (cI, 40, .inl g11)), (h_manner, .inl (cI, 4, .inl g12)), (p0, .inr (1, vL 18 F_p0_)), (h_p0_settings, .inl (cI, 5, .inl f_p0_settings)), (h_p0_push, .inl (cI, 12, .inl f_p0_push)), (h_p0_feet, .inl (cI, 12, .inl f_p0_feet)), (h_p0_weight, .inl (cI, 12, .inl f_p0_weight)), (p1, .inr (5, vL 11 F_p1_)), (h_p1_crew, .inl (cI, 4, .inl f_p1_crew)), (h_p1_yard, .inl (cI, 4, .inl f_p1_yard))]) (As := [.int y4]) (rest := []) hx hb hml hown hw (m_X7_standAtLine l D cI cJ cB cP cM cZ h0 F2 y4 _ ) wV_X7_81_X7_standAtLine dX7_timeInAll_44 hK hP hD hS hA [8] [0, 1, 2, 3, 4, 5, 6, 7, 9, 10, 11, 12, 13, 14, 15, 16, 17, 18] rfl rfl (by decide) (by decide) (by decide) 0 7 rfl rfl GG.fb hG.at hl.1 rfl (Nat.le_of_ble_eq_true rfl) ⟨(Nat.le_of_ble_eq_true rfl), (Nat.le_of_ble_eq_true rfl)⟩ ⟨(Nat.le_of_ble_eq_true rfl), (Nat.le_of_ble_eq_true rfl)⟩ (fun u H locs hp hP hD hS => ?_)
    obtain ⟨F28, t29, t30, t31, t32, rfl⟩ := hp
    have hP : va_P D vwCl [(h_paceBehind, .inl (cI, 12, .inl f_paceBehind)), (h_p0_length, .inl (cI, 12, .inl f_p0_length)), (h_p0_drop, .inl (cI, 12, .inl f_p0_drop)), (h_p0_ideal, .inl (cI, 12, .inl f_p0_ideal)), (h_p0_over, .inl (cI, 12, .inl f_p0_over)), (h_p0_bestAt, .inl (cI, 6, .inl f_p0_bestAt)), (h_p0_bad, .inl (cI, 6, .inl f_p0_bad)), (h_p1_high, .inl (cI, 12, .inl f_p1_high)), (h_paces, .inl (cI, 40, .inl g11)), (h_manner, .inl (cI, 4, .inl g12)), (p0, .inr (1, vL 18 F_p0_)), (h_p0_settings, .inl (cI, 5, .inl f_p0_settings)), (h_p0_push, .inl (cI, 12, .inl f_p0_push)), (h_p0_feet, .inl (cI, 12, .inl f_p0_feet)), (h_p0_weight, .inl (cI, 12, .inl f_p0_weight)), (p1, .inr (5, vL 11 F_p1_)), (h_p1_crew, .inl (cI, 4, .inl f_p1_crew)), (h_p1_yard, .inl (cI, 4, .inl f_p1_yard)), (h0, .inr (7, vL 18 F28))] H := hP
    have hD : va_D A [(h_paceBehind, .inl (cI, 12, .inl f_paceBehind)), (h_p0_length, .inl (cI, 12, .inl f_p0_length)), (h_p0_drop, .inl (cI, 12, .inl f_p0_drop)), (h_p0_ideal, .inl (cI, 12, .inl f_p0_ideal)), (h_p0_over, .inl (cI, 12, .inl f_p0_over)), (h_p0_bestAt, .inl (cI, 6, .inl f_p0_bestAt)), (h_p0_bad, .inl (cI, 6, .inl f_p0_bad)), (h_p1_high, .inl (cI, 12, .inl f_p1_high)), (h_paces, .inl (cI, 40, .inl g11)), (h_manner, .inl (cI, 4, .inl g12)), (p0, .inr (1, vL 18 F_p0_)), (h_p0_settings, .inl (cI, 5, .inl f_p0_settings)), (h_p0_push, .inl (cI, 12, .inl f_p0_push)), (h_p0_feet, .inl (cI, 12, .inl f_p0_feet)), (h_p0_weight, .inl (cI, 12, .inl f_p0_weight)), (p1, .inr (5, vL 11 F_p1_)), (h_p1_crew, .inl (cI, 4, .inl f_p1_crew)), (h_p1_yard, .inl (cI, 4, .inl f_p1_yard)), (h0, .inr (7, vL 18 F28))] := hD
    refine W.widen (k := 0) (n := 0) (Nat.le_of_ble_eq_true rfl) (Nat.le_of_ble_eq_true rfl) ?_
    refine lv_aload_n hx hb dX7_timeInAll_47 rfl (lv_at hl 1 rfl) ?_
    refine lv_iload_n hx hb dX7_timeInAll_48 rfl (lv_at hl 0 rfl) ?_
    refine lv_iconst (v := (-1)) hx hb dX7_timeInAll_49 (by decide) ?_
    refine lv_icmp_ne (tgt := 57) hx hb dX7_timeInAll_50 (by decide) (fun g => absurd (by decide) g) (fun _ => ?_)
    refine lv_iconst (v := (-1)) hx hb dX7_timeInAll_53 (by decide) ?_
    refine lv_goto (tgt := 63) hx hb dX7_timeInAll_54 (by decide) ?_
    refine put_f (D := D) (ci := 7) (v := .int (-1)) (ty := .int) (C := RX7) (T := TX7) (N := 18) hx hb hw inAX7 tyX7 tyX7_ok nmX7 hown hK hP hD hS 18 rfl rfl 8 (by decide) (hw _ q_221) (fun _ h9 => h9) rfl (by decide +kernel) rfl rfl dX7_timeInAll_63 (fun H locs F33 eF33 hP hD hS => ?_)
    have hP : va_P D vwCl [(h_paceBehind, .inl (cI, 12, .inl f_paceBehind)), (h_p0_length, .inl (cI, 12, .inl f_p0_length)), (h_p0_drop, .inl (cI, 12, .inl f_p0_drop)), (h_p0_ideal, .inl (cI, 12, .inl f_p0_ideal)), (h_p0_over, .inl (cI, 12, .inl f_p0_over)), (h_p0_bestAt, .inl (cI, 6, .inl f_p0_bestAt)), (h_p0_bad, .inl (cI, 6, .inl f_p0_bad)), (h_p1_high, .inl (cI, 12, .inl f_p1_high)), (h_paces, .inl (cI, 40, .inl g11)), (h_manner, .inl (cI, 4, .inl g12)), (p0, .inr (1, vL 18 F_p0_)), (h_p0_settings, .inl (cI, 5, .inl f_p0_settings)), (h_p0_push, .inl (cI, 12, .inl f_p0_push)), (h_p0_feet, .inl (cI, 12, .inl f_p0_feet)), (h_p0_weight, .inl (cI, 12, .inl f_p0_weight)), (p1, .inr (5, vL 11 F_p1_)), (h_p1_crew, .inl (cI, 4, .inl f_p1_crew)), (h_p1_yard, .inl (cI, 4, .inl f_p1_yard)), (h0, .inr (7, vL 18 F33))] H := hP
    have hD : va_D A [(h_paceBehind, .inl (cI, 12, .inl f_paceBehind)), (h_p0_length, .inl (cI, 12, .inl f_p0_length)), (h_p0_drop, .inl (cI, 12, .inl f_p0_drop)), (h_p0_ideal, .inl (cI, 12, .inl f_p0_ideal)), (h_p0_over, .inl (cI, 12, .inl f_p0_over)), (h_p0_bestAt, .inl (cI, 6, .inl f_p0_bestAt)), (h_p0_bad, .inl (cI, 6, .inl f_p0_bad)), (h_p1_high, .inl (cI, 12, .inl f_p1_high)), (h_paces, .inl (cI, 40, .inl g11)), (h_manner, .inl (cI, 4, .inl g12)), (p0, .inr (1, vL 18 F_p0_)), (h_p0_settings, .inl (cI, 5, .inl f_p0_settings)), (h_p0_push, .inl (cI, 12, .inl f_p0_push)), (h_p0_feet, .inl (cI, 12, .inl f_p0_feet)), (h_p0_weight, .inl (cI, 12, .inl f_p0_weight)), (p1, .inr (5, vL 11 F_p1_)), (h_p1_crew, .inl (cI, 4, .inl f_p1_crew)), (h_p1_yard, .inl (cI, 4, .inl f_p1_yard)), (h0, .inr (7, vL 18 F33))] := hD
    refine lv_aload_n hx hb dX7_timeInAll_66 rfl (lv_at hl 1 rfl) ?_
    refine get_f (D := D) (ci := 7) (v := .int (-1)) (C := RX7) (T := TX7) (N := 18) hx hb hw inAX7 hown hK hP 18 rfl rfl 8 (by decide) (hw _ q_221) (fun _ h9 => h9) (get_eq eF33) dX7_timeInAll_67 ?_
    exact ret_i (v := (-1)) hx hb hr hlocks hS (hP.sub (ws' := [(h0, .inr (7, vL 18 F33)), (h_paces, .inl (cI, 40, .inl g11)), (h_manner, .inl (cI, 4, .inl g12)), (h_paceBehind, .inl (cI, 12, .inl f_paceBehind)), (p0, .inr (1, vL 18 F_p0_)), (h_p0_settings, .inl (cI, 5, .inl f_p0_settings)), (h_p0_push, .inl (cI, 12, .inl f_p0_push)), (h_p0_feet, .inl (cI, 12, .inl f_p0_feet)), (h_p0_weight, .inl (cI, 12, .inl f_p0_weight)), (h_p0_length, .inl (cI, 12, .inl f_p0_length)), (h_p0_drop, .inl (cI, 12, .inl f_p0_drop)), (h_p0_ideal, .inl (cI, 12, .inl f_p0_ideal)), (h_p0_over, .inl (cI, 12, .inl f_p0_over)), (h_p0_bestAt, .inl (cI, 6, .inl f_p0_bestAt)), (h_p0_bad, .inl (cI, 6, .inl f_p0_bad)), (p1, .inr (5, vL 11 F_p1_)), (h_p1_crew, .inl (cI, 4, .inl f_p1_crew)), (h_p1_yard, .inl (cI, 4, .inl f_p1_yard)), (h_p1_high, .inl (cI, 12, .inl f_p1_high))]) [18, 8, 9, 0, 10, 11, 12, 13, 14, 1, 2, 3, 4, 5, 6, 15, 16, 17, 7] rfl) (hD.sub (ws' := [(h0, .inr (7, vL 18 F33)), (h_paces, .inl (cI, 40, .inl g11)), (h_manner, .inl (cI, 4, .inl g12)), (h_paceBehind, .inl (cI, 12, .inl f_paceBehind)), (p0, .inr (1, vL 18 F_p0_)), (h_p0_settings, .inl (cI, 5, .inl f_p0_settings)), (h_p0_push, .inl (cI, 12, .inl f_p0_push)), (h_p0_feet, .inl (cI, 12, .inl f_p0_feet)), (h_p0_weight, .inl (cI, 12, .inl f_p0_weight)), (h_p0_length, .inl (cI, 12, .inl f_p0_length)), (h_p0_drop, .inl (cI, 12, .inl f_p0_drop)), (h_p0_ideal, .inl (cI, 12, .inl f_p0_ideal)), (h_p0_over, .inl (cI, 12, .inl f_p0_over)), (h_p0_bestAt, .inl (cI, 6, .inl f_p0_bestAt)), (h_p0_bad, .inl (cI, 6, .inl f_p0_bad)), (p1, .inr (5, vL 11 F_p1_)), (h_p1_crew, .inl (cI, 4, .inl f_p1_crew)), (h_p1_yard, .inl (cI, 4, .inl f_p1_yard)), (h_p1_high, .inl (cI, 12, .inl f_p1_high))]) [18, 8, 9, 0, 10, 11, 12, 13, 14, 1, 2, 3, 4, 5, 6, 15, 16, 17, 7] (by decide) rfl) dX7_timeInAll_70 rfl (Nat.le_of_ble_eq_true rfl) (Nat.le_of_ble_eq_true rfl) ⟨F33, y3, y4, y5, y6, y7, (-1), y4, 0, (-1), y8, y9, y10, g11, g12, f_paceBehind, (SAME.up eF33 (SAME.tr (SAME.tr SAME.rf t13 (by decide)) t29 (by decide)) (by decide)), (get_ne eF33 (by decide) (SAME.at t29 (by decide) t14)), (get_ne eF33 (by decide) (SAME.at t29 (by decide) t15)), t16, (get_ne eF33 (by decide) (SAME.at t29 (by decide) t17)), (get_ne eF33 (by decide) (SAME.at t29 (by decide) t18)), (get_ne eF33 (by decide) (SAME.at t29 (by decide) t19)), (get_eq eF33), (get_ne eF33 (by decide) t30), (get_ne eF33 (by decide) t31), (get_ne eF33 (by decide) t32), ⟨by decide, by decide⟩, (get_ne eF33 (by decide) (SAME.at t29 (by decide) t20)), (get_ne eF33 (by decide) (SAME.at t29 (by decide) t21)), (get_ne eF33 (by decide) (SAME.at t29 (by decide) t22)), rfl⟩
  · have dc24 : y7.toInt ≤ v23.toInt := nlt_i (a := v23.toInt) (b := y7.toInt) rfl rfl c24
    refine lv_aload_n hx hb dX7_timeInAll_21 rfl (lv_at hl 1 rfl) ?_
    refine lv_aload_n hx hb dX7_timeInAll_22 rfl (lv_at hl 2 rfl) ?_
    refine lv_aload_n hx hb dX7_timeInAll_23 rfl (lv_at hl 3 rfl) ?_
    refine lv_aload_n hx hb dX7_timeInAll_24 rfl (lv_at hl 1 rfl) ?_
    refine get_f (D := D) (ci := 7) (v := .int y4) (C := RX7) (T := TX7) (N := 18) hx hb hw inAX7 hown hK hP 8 rfl rfl 4 (by decide) (hw _ q_213) (fun _ h9 => h9) t15 dX7_timeInAll_25 ?_
    refine lv_aload_n hx hb dX7_timeInAll_28 rfl (lv_at hl 1 rfl) ?_
    refine get_f (D := D) (ci := 7) (v := .int y7) (C := RX7) (T := TX7) (N := 18) hx hb hw inAX7 hown hK hP 8 rfl rfl 7 (by decide) (hw _ q_219) (fun _ h9 => h9) t19 dX7_timeInAll_29 ?_
    have n34 : F2 2 = .ref h_paceBehind := (SAME.at t13 (by decide) e_paceBehind)
    have n35 : F2 16 = .int x_touchedBend := (SAME.at t13 (by decide) e_touchedBend)
    have n36 : F2 17 = .int x_touchedBy := (SAME.at t13 (by decide) e_touchedBy)
    refine call_Vi (wr := [(h_paces, .inl (cI, 40, .inl g11)), (h_manner, .inl (cI, 4, .inl g12)), (h_p0_push, .inl (cI, 12, .inl f_p0_push)), (h_p0_feet, .inl (cI, 12, .inl f_p0_feet)), (h_p0_weight, .inl (cI, 12, .inl f_p0_weight)), (h_p1_crew, .inl (cI, 4, .inl f_p1_crew)), (h_p1_yard, .inl (cI, 4, .inl f_p1_yard))]) (As := [.ref p0, .ref p1, .int y4, .int y7]) (rest := []) hx hb hml hown hw (m_X7_wayDown l D cI cJ cB cP cM cZ h0 h_paceBehind p0 h_p0_settings h_p0_length h_p0_drop h_p0_ideal h_p0_over h_p0_bestAt h_p0_bad p1 h_p1_high F2 x_touchedBend x_touchedBy f_paceBehind F_p0_ x_p0_bends x_p0_runners f_p0_settings f_p0_length f_p0_drop f_p0_ideal f_p0_over f_p0_bestAt f_p0_bad F_p1_ x_p1_runner x_p1_number f_p1_high y4 y7 _ n34 n35 n36 e_p0_settings e_p0_length e_p0_drop e_p0_ideal e_p0_over e_p0_bestAt e_p0_bad e_p0_bends i_x_p0_bends e_p0_runners i_x_p0_runners e_p1_high e_p1_runner e_p1_number) wV_X7_77_X7_wayDown dX7_timeInAll_32 hK hP hD hS hA [8, 0, 11, 12, 1, 2, 3, 4, 5, 6, 16, 7] [9, 10, 13, 14, 15, 17, 18] rfl rfl (by decide) (by decide) (by decide) 0 7 rfl rfl GG.fb hG.at hl.1 rfl (Nat.le_of_ble_eq_true rfl) ⟨(Nat.le_of_ble_eq_true rfl), (Nat.le_of_ble_eq_true rfl)⟩ ⟨(Nat.le_of_ble_eq_true rfl), (Nat.le_of_ble_eq_true rfl)⟩ (fun r37 u H locs hp hP hD hS => ?_)
    obtain ⟨F38, y39, y40, y41, g42, t43, t44, t45, t46, t47, rfl⟩ := hp
    have hP : va_P D vwCl [(h_paces, .inl (cI, 40, .inl g11)), (h_manner, .inl (cI, 4, .inl g12)), (h_p0_push, .inl (cI, 12, .inl f_p0_push)), (h_p0_feet, .inl (cI, 12, .inl f_p0_feet)), (h_p0_weight, .inl (cI, 12, .inl f_p0_weight)), (h_p1_crew, .inl (cI, 4, .inl f_p1_crew)), (h_p1_yard, .inl (cI, 4, .inl f_p1_yard)), (h0, .inr (7, vL 18 F38)), (h_paceBehind, .inl (cI, 12, .inl g42)), (p0, .inr (1, vL 18 F_p0_)), (h_p0_settings, .inl (cI, 5, .inl f_p0_settings)), (h_p0_length, .inl (cI, 12, .inl f_p0_length)), (h_p0_drop, .inl (cI, 12, .inl f_p0_drop)), (h_p0_ideal, .inl (cI, 12, .inl f_p0_ideal)), (h_p0_over, .inl (cI, 12, .inl f_p0_over)), (h_p0_bestAt, .inl (cI, 6, .inl f_p0_bestAt)), (h_p0_bad, .inl (cI, 6, .inl f_p0_bad)), (p1, .inr (5, vL 11 F_p1_)), (h_p1_high, .inl (cI, 12, .inl f_p1_high))] H := hP
    have hD : va_D A [(h_paces, .inl (cI, 40, .inl g11)), (h_manner, .inl (cI, 4, .inl g12)), (h_p0_push, .inl (cI, 12, .inl f_p0_push)), (h_p0_feet, .inl (cI, 12, .inl f_p0_feet)), (h_p0_weight, .inl (cI, 12, .inl f_p0_weight)), (h_p1_crew, .inl (cI, 4, .inl f_p1_crew)), (h_p1_yard, .inl (cI, 4, .inl f_p1_yard)), (h0, .inr (7, vL 18 F38)), (h_paceBehind, .inl (cI, 12, .inl g42)), (p0, .inr (1, vL 18 F_p0_)), (h_p0_settings, .inl (cI, 5, .inl f_p0_settings)), (h_p0_length, .inl (cI, 12, .inl f_p0_length)), (h_p0_drop, .inl (cI, 12, .inl f_p0_drop)), (h_p0_ideal, .inl (cI, 12, .inl f_p0_ideal)), (h_p0_over, .inl (cI, 12, .inl f_p0_over)), (h_p0_bestAt, .inl (cI, 6, .inl f_p0_bestAt)), (h_p0_bad, .inl (cI, 6, .inl f_p0_bad)), (p1, .inr (5, vL 11 F_p1_)), (h_p1_high, .inl (cI, 12, .inl f_p1_high))] := hD
    refine W.widen (k := 0) (n := 0) (Nat.le_of_ble_eq_true rfl) (Nat.le_of_ble_eq_true rfl) ?_
    refine lv_istore_n (lv' := [(3, .int r37), (0, .ref h0), (1, .ref p0), (2, .ref p1)]) hx hb dX7_timeInAll_35 rfl hl (by decide) rfl (fun ls hl => ?_)
    refine lv_goto (tgt := 47) hx hb dX7_timeInAll_36 (by decide) ?_
    refine lv_aload_n hx hb dX7_timeInAll_47 rfl (lv_at hl 1 rfl) ?_
    refine lv_iload_n hx hb dX7_timeInAll_48 rfl (lv_at hl 0 rfl) ?_
    refine lv_iconst (v := (-1)) hx hb dX7_timeInAll_49 (by decide) ?_
    refine lv_icmp_ne (tgt := 57) hx hb dX7_timeInAll_50 (by decide) (fun c48 => ?_) (fun c48 => ?_)
    · have dc48 : r37.toInt ≠ (-1) := ne_i (a := r37.toInt) (b := (-1)) rfl rfl c48
      refine lv_aload_n hx hb dX7_timeInAll_57 rfl (lv_at hl 1 rfl) ?_
      have n49 : F38 3 = .int y3 := (SAME.at t43 (by decide) t14)
      refine get_f (D := D) (ci := 7) (v := .int y3) (C := RX7) (T := TX7) (N := 18) hx hb hw inAX7 hown hK hP 7 rfl rfl 3 (by decide) (hw _ q_211) (fun _ h9 => h9) n49 dX7_timeInAll_58 ?_
      refine lv_iload_n hx hb dX7_timeInAll_61 rfl (lv_at hl 0 rfl) ?_
      refine lv_iadd hx hb dX7_timeInAll_62 ?_
      refine lv_topi (fun v50 ev50 => ?_)
      refine put_f (D := D) (ci := 7) (v := .int v50) (ty := .int) (C := RX7) (T := TX7) (N := 18) hx hb hw inAX7 tyX7 tyX7_ok nmX7 hown hK hP hD hS 7 rfl rfl 8 (by decide) (hw _ q_221) (fun _ h9 => h9) rfl (by decide +kernel) rfl rfl dX7_timeInAll_63 (fun H locs F51 eF51 hP hD hS => ?_)
      have hP : va_P D vwCl [(h_paces, .inl (cI, 40, .inl g11)), (h_manner, .inl (cI, 4, .inl g12)), (h_p0_push, .inl (cI, 12, .inl f_p0_push)), (h_p0_feet, .inl (cI, 12, .inl f_p0_feet)), (h_p0_weight, .inl (cI, 12, .inl f_p0_weight)), (h_p1_crew, .inl (cI, 4, .inl f_p1_crew)), (h_p1_yard, .inl (cI, 4, .inl f_p1_yard)), (h0, .inr (7, vL 18 F51)), (h_paceBehind, .inl (cI, 12, .inl g42)), (p0, .inr (1, vL 18 F_p0_)), (h_p0_settings, .inl (cI, 5, .inl f_p0_settings)), (h_p0_length, .inl (cI, 12, .inl f_p0_length)), (h_p0_drop, .inl (cI, 12, .inl f_p0_drop)), (h_p0_ideal, .inl (cI, 12, .inl f_p0_ideal)), (h_p0_over, .inl (cI, 12, .inl f_p0_over)), (h_p0_bestAt, .inl (cI, 6, .inl f_p0_bestAt)), (h_p0_bad, .inl (cI, 6, .inl f_p0_bad)), (p1, .inr (5, vL 11 F_p1_)), (h_p1_high, .inl (cI, 12, .inl f_p1_high))] H := hP
      have hD : va_D A [(h_paces, .inl (cI, 40, .inl g11)), (h_manner, .inl (cI, 4, .inl g12)), (h_p0_push, .inl (cI, 12, .inl f_p0_push)), (h_p0_feet, .inl (cI, 12, .inl f_p0_feet)), (h_p0_weight, .inl (cI, 12, .inl f_p0_weight)), (h_p1_crew, .inl (cI, 4, .inl f_p1_crew)), (h_p1_yard, .inl (cI, 4, .inl f_p1_yard)), (h0, .inr (7, vL 18 F51)), (h_paceBehind, .inl (cI, 12, .inl g42)), (p0, .inr (1, vL 18 F_p0_)), (h_p0_settings, .inl (cI, 5, .inl f_p0_settings)), (h_p0_length, .inl (cI, 12, .inl f_p0_length)), (h_p0_drop, .inl (cI, 12, .inl f_p0_drop)), (h_p0_ideal, .inl (cI, 12, .inl f_p0_ideal)), (h_p0_over, .inl (cI, 12, .inl f_p0_over)), (h_p0_bestAt, .inl (cI, 6, .inl f_p0_bestAt)), (h_p0_bad, .inl (cI, 6, .inl f_p0_bad)), (p1, .inr (5, vL 11 F_p1_)), (h_p1_high, .inl (cI, 12, .inl f_p1_high))] := hD
      refine lv_aload_n hx hb dX7_timeInAll_66 rfl (lv_at hl 1 rfl) ?_
      refine get_f (D := D) (ci := 7) (v := .int v50) (C := RX7) (T := TX7) (N := 18) hx hb hw inAX7 hown hK hP 7 rfl rfl 8 (by decide) (hw _ q_221) (fun _ h9 => h9) (get_eq eF51) dX7_timeInAll_67 ?_
      exact ret_i (v := v50) hx hb hr hlocks hS (hP.sub (ws' := [(h0, .inr (7, vL 18 F51)), (h_paces, .inl (cI, 40, .inl g11)), (h_manner, .inl (cI, 4, .inl g12)), (h_paceBehind, .inl (cI, 12, .inl g42)), (p0, .inr (1, vL 18 F_p0_)), (h_p0_settings, .inl (cI, 5, .inl f_p0_settings)), (h_p0_push, .inl (cI, 12, .inl f_p0_push)), (h_p0_feet, .inl (cI, 12, .inl f_p0_feet)), (h_p0_weight, .inl (cI, 12, .inl f_p0_weight)), (h_p0_length, .inl (cI, 12, .inl f_p0_length)), (h_p0_drop, .inl (cI, 12, .inl f_p0_drop)), (h_p0_ideal, .inl (cI, 12, .inl f_p0_ideal)), (h_p0_over, .inl (cI, 12, .inl f_p0_over)), (h_p0_bestAt, .inl (cI, 6, .inl f_p0_bestAt)), (h_p0_bad, .inl (cI, 6, .inl f_p0_bad)), (p1, .inr (5, vL 11 F_p1_)), (h_p1_crew, .inl (cI, 4, .inl f_p1_crew)), (h_p1_yard, .inl (cI, 4, .inl f_p1_yard)), (h_p1_high, .inl (cI, 12, .inl f_p1_high))]) [7, 0, 1, 8, 9, 10, 2, 3, 4, 11, 12, 13, 14, 15, 16, 17, 5, 6, 18] rfl) (hD.sub (ws' := [(h0, .inr (7, vL 18 F51)), (h_paces, .inl (cI, 40, .inl g11)), (h_manner, .inl (cI, 4, .inl g12)), (h_paceBehind, .inl (cI, 12, .inl g42)), (p0, .inr (1, vL 18 F_p0_)), (h_p0_settings, .inl (cI, 5, .inl f_p0_settings)), (h_p0_push, .inl (cI, 12, .inl f_p0_push)), (h_p0_feet, .inl (cI, 12, .inl f_p0_feet)), (h_p0_weight, .inl (cI, 12, .inl f_p0_weight)), (h_p0_length, .inl (cI, 12, .inl f_p0_length)), (h_p0_drop, .inl (cI, 12, .inl f_p0_drop)), (h_p0_ideal, .inl (cI, 12, .inl f_p0_ideal)), (h_p0_over, .inl (cI, 12, .inl f_p0_over)), (h_p0_bestAt, .inl (cI, 6, .inl f_p0_bestAt)), (h_p0_bad, .inl (cI, 6, .inl f_p0_bad)), (p1, .inr (5, vL 11 F_p1_)), (h_p1_crew, .inl (cI, 4, .inl f_p1_crew)), (h_p1_yard, .inl (cI, 4, .inl f_p1_yard)), (h_p1_high, .inl (cI, 12, .inl f_p1_high))]) [7, 0, 1, 8, 9, 10, 2, 3, 4, 11, 12, 13, 14, 15, 16, 17, 5, 6, 18] (by decide) rfl) dX7_timeInAll_70 rfl (Nat.le_of_ble_eq_true rfl) (Nat.le_of_ble_eq_true rfl) ⟨F51, y3, y4, y5, y6, y7, v50, y39, y40, y41, y8, y9, y10, g11, g12, g42, (SAME.up eF51 (SAME.tr (SAME.tr SAME.rf t13 (by decide)) t43 (by decide)) (by decide)), (get_ne eF51 (by decide) n49), (get_ne eF51 (by decide) (SAME.at t43 (by decide) t15)), t16, (get_ne eF51 (by decide) (SAME.at t43 (by decide) t17)), (get_ne eF51 (by decide) (SAME.at t43 (by decide) t18)), (get_ne eF51 (by decide) (SAME.at t43 (by decide) t19)), (get_eq eF51), (get_ne eF51 (by decide) t44), (get_ne eF51 (by decide) t45), (get_ne eF51 (by decide) t46), t47, (get_ne eF51 (by decide) (SAME.at t43 (by decide) t20)), (get_ne eF51 (by decide) (SAME.at t43 (by decide) t21)), (get_ne eF51 (by decide) (SAME.at t43 (by decide) t22)), rfl⟩
    · have dc48 : r37.toInt = (-1) := eq_i (a := r37.toInt) (b := (-1)) rfl rfl c48
      have k52 : (-1) ≤ r37.toInt ∧ r37.toInt ≤ (-1) := ⟨Int.le_trans (Int.le_refl _) (Int.le_of_eq dc48.symm), Int.le_trans (Int.le_of_eq dc48) (Int.le_refl _)⟩
      refine lv_iconst (v := (-1)) hx hb dX7_timeInAll_53 (by decide) ?_
      refine lv_goto (tgt := 63) hx hb dX7_timeInAll_54 (by decide) ?_
      refine put_f (D := D) (ci := 7) (v := .int (-1)) (ty := .int) (C := RX7) (T := TX7) (N := 18) hx hb hw inAX7 tyX7 tyX7_ok nmX7 hown hK hP hD hS 7 rfl rfl 8 (by decide) (hw _ q_221) (fun _ h9 => h9) rfl (by decide +kernel) rfl rfl dX7_timeInAll_63 (fun H locs F53 eF53 hP hD hS => ?_)
      have hP : va_P D vwCl [(h_paces, .inl (cI, 40, .inl g11)), (h_manner, .inl (cI, 4, .inl g12)), (h_p0_push, .inl (cI, 12, .inl f_p0_push)), (h_p0_feet, .inl (cI, 12, .inl f_p0_feet)), (h_p0_weight, .inl (cI, 12, .inl f_p0_weight)), (h_p1_crew, .inl (cI, 4, .inl f_p1_crew)), (h_p1_yard, .inl (cI, 4, .inl f_p1_yard)), (h0, .inr (7, vL 18 F53)), (h_paceBehind, .inl (cI, 12, .inl g42)), (p0, .inr (1, vL 18 F_p0_)), (h_p0_settings, .inl (cI, 5, .inl f_p0_settings)), (h_p0_length, .inl (cI, 12, .inl f_p0_length)), (h_p0_drop, .inl (cI, 12, .inl f_p0_drop)), (h_p0_ideal, .inl (cI, 12, .inl f_p0_ideal)), (h_p0_over, .inl (cI, 12, .inl f_p0_over)), (h_p0_bestAt, .inl (cI, 6, .inl f_p0_bestAt)), (h_p0_bad, .inl (cI, 6, .inl f_p0_bad)), (p1, .inr (5, vL 11 F_p1_)), (h_p1_high, .inl (cI, 12, .inl f_p1_high))] H := hP
      have hD : va_D A [(h_paces, .inl (cI, 40, .inl g11)), (h_manner, .inl (cI, 4, .inl g12)), (h_p0_push, .inl (cI, 12, .inl f_p0_push)), (h_p0_feet, .inl (cI, 12, .inl f_p0_feet)), (h_p0_weight, .inl (cI, 12, .inl f_p0_weight)), (h_p1_crew, .inl (cI, 4, .inl f_p1_crew)), (h_p1_yard, .inl (cI, 4, .inl f_p1_yard)), (h0, .inr (7, vL 18 F53)), (h_paceBehind, .inl (cI, 12, .inl g42)), (p0, .inr (1, vL 18 F_p0_)), (h_p0_settings, .inl (cI, 5, .inl f_p0_settings)), (h_p0_length, .inl (cI, 12, .inl f_p0_length)), (h_p0_drop, .inl (cI, 12, .inl f_p0_drop)), (h_p0_ideal, .inl (cI, 12, .inl f_p0_ideal)), (h_p0_over, .inl (cI, 12, .inl f_p0_over)), (h_p0_bestAt, .inl (cI, 6, .inl f_p0_bestAt)), (h_p0_bad, .inl (cI, 6, .inl f_p0_bad)), (p1, .inr (5, vL 11 F_p1_)), (h_p1_high, .inl (cI, 12, .inl f_p1_high))] := hD
      refine lv_aload_n hx hb dX7_timeInAll_66 rfl (lv_at hl 1 rfl) ?_
      refine get_f (D := D) (ci := 7) (v := .int (-1)) (C := RX7) (T := TX7) (N := 18) hx hb hw inAX7 hown hK hP 7 rfl rfl 8 (by decide) (hw _ q_221) (fun _ h9 => h9) (get_eq eF53) dX7_timeInAll_67 ?_
      exact ret_i (v := (-1)) hx hb hr hlocks hS (hP.sub (ws' := [(h0, .inr (7, vL 18 F53)), (h_paces, .inl (cI, 40, .inl g11)), (h_manner, .inl (cI, 4, .inl g12)), (h_paceBehind, .inl (cI, 12, .inl g42)), (p0, .inr (1, vL 18 F_p0_)), (h_p0_settings, .inl (cI, 5, .inl f_p0_settings)), (h_p0_push, .inl (cI, 12, .inl f_p0_push)), (h_p0_feet, .inl (cI, 12, .inl f_p0_feet)), (h_p0_weight, .inl (cI, 12, .inl f_p0_weight)), (h_p0_length, .inl (cI, 12, .inl f_p0_length)), (h_p0_drop, .inl (cI, 12, .inl f_p0_drop)), (h_p0_ideal, .inl (cI, 12, .inl f_p0_ideal)), (h_p0_over, .inl (cI, 12, .inl f_p0_over)), (h_p0_bestAt, .inl (cI, 6, .inl f_p0_bestAt)), (h_p0_bad, .inl (cI, 6, .inl f_p0_bad)), (p1, .inr (5, vL 11 F_p1_)), (h_p1_crew, .inl (cI, 4, .inl f_p1_crew)), (h_p1_yard, .inl (cI, 4, .inl f_p1_yard)), (h_p1_high, .inl (cI, 12, .inl f_p1_high))]) [7, 0, 1, 8, 9, 10, 2, 3, 4, 11, 12, 13, 14, 15, 16, 17, 5, 6, 18] rfl) (hD.sub (ws' := [(h0, .inr (7, vL 18 F53)), (h_paces, .inl (cI, 40, .inl g11)), (h_manner, .inl (cI, 4, .inl g12)), (h_paceBehind, .inl (cI, 12, .inl g42)), (p0, .inr (1, vL 18 F_p0_)), (h_p0_settings, .inl (cI, 5, .inl f_p0_settings)), (h_p0_push, .inl (cI, 12, .inl f_p0_push)), (h_p0_feet, .inl (cI, 12, .inl f_p0_feet)), (h_p0_weight, .inl (cI, 12, .inl f_p0_weight)), (h_p0_length, .inl (cI, 12, .inl f_p0_length)), (h_p0_drop, .inl (cI, 12, .inl f_p0_drop)), (h_p0_ideal, .inl (cI, 12, .inl f_p0_ideal)), (h_p0_over, .inl (cI, 12, .inl f_p0_over)), (h_p0_bestAt, .inl (cI, 6, .inl f_p0_bestAt)), (h_p0_bad, .inl (cI, 6, .inl f_p0_bad)), (p1, .inr (5, vL 11 F_p1_)), (h_p1_crew, .inl (cI, 4, .inl f_p1_crew)), (h_p1_yard, .inl (cI, 4, .inl f_p1_yard)), (h_p1_high, .inl (cI, 12, .inl f_p1_high))]) [7, 0, 1, 8, 9, 10, 2, 3, 4, 11, 12, 13, 14, 15, 16, 17, 5, 6, 18] (by decide) rfl) dX7_timeInAll_70 rfl (Nat.le_of_ble_eq_true rfl) (Nat.le_of_ble_eq_true rfl) ⟨F53, y3, y4, y5, y6, y7, (-1), y39, y40, y41, y8, y9, y10, g11, g12, g42, (SAME.up eF53 (SAME.tr (SAME.tr SAME.rf t13 (by decide)) t43 (by decide)) (by decide)), (get_ne eF53 (by decide) (SAME.at t43 (by decide) t14)), (get_ne eF53 (by decide) (SAME.at t43 (by decide) t15)), t16, (get_ne eF53 (by decide) (SAME.at t43 (by decide) t17)), (get_ne eF53 (by decide) (SAME.at t43 (by decide) t18)), (get_ne eF53 (by decide) (SAME.at t43 (by decide) t19)), (get_eq eF53), (get_ne eF53 (by decide) t44), (get_ne eF53 (by decide) t45), (get_ne eF53 (by decide) t46), t47, (get_ne eF53 (by decide) (SAME.at t43 (by decide) t20)), (get_ne eF53 (by decide) (SAME.at t43 (by decide) t21)), (get_ne eF53 (by decide) (SAME.at t43 (by decide) t22)), rfl⟩
