/-! the table of line() -/
theorem bnd_i (x : Int32) : 10 ≤ (fn_X10_bounded x).toInt ∧ (fn_X10_bounded x).toInt ≤ 250 := by
  unfold fn_X10_bounded fn_X10_lesser
  by_cases h : (10 : Int32) ≤ x
  · rw [if_pos h]
    have h1 := le_i (a := 10) rfl rfl h
    by_cases h2 : (250 : Int32) ≤ x
    · rw [if_pos h2]; exact ⟨by decide, by decide⟩
    · rw [if_neg h2]
      have h3 := nle_i (a := 250) rfl rfl h2
      omega
  · rw [if_neg h]; exact ⟨by decide, by decide⟩
theorem inb_i (s : Nat → Int32) (b p w a h : Int32) : 10 ≤ (fn_X10_inBend s b p w a h).toInt ∧ (fn_X10_inBend s b p w a h).toInt ≤ 250 := by
  unfold fn_X10_inBend
  split
  · exact bnd_i _
  · exact bnd_i _
theorem pl_i {b a p : Int32} (hb : 0 ≤ b.toInt ∧ b.toInt ≤ 12) (ha : 0 ≤ a.toInt ∧ a.toInt ≤ 9) (hp : 10 ≤ p.toInt ∧ p.toInt ≤ 250) : (fn_X10_place b a p).toInt = (b.toInt * 10 + a.toInt) * 241 + p.toInt - 10 := by
  unfold fn_X10_place
  exact sub_i (add_i (mul_i (add_i (mul_i rfl (b := 10) rfl (by omega) (by omega)) rfl (by omega) (by omega)) (b := 241) rfl (by omega) (by omega)) rfl (by omega) (by omega)) (b := 10) rfl (by omega) (by omega)
theorem b1_i {b : Int32} (hb : 0 ≤ b.toInt ∧ b.toInt ≤ 11) : (b + 1).toInt = b.toInt + 1 := add_i rfl (b := 1) rfl (by omega) (by omega)
theorem db_upd {s dn : Nat → Int32} {b a p w h v : Int32} {k : Nat} (hb : 0 ≤ b.toInt ∧ b.toInt ≤ 11) (hh : 0 ≤ h.toInt ∧ h.toInt ≤ 9) (hk : (k : Int) < 2410 * (b.toInt + 1)) : fn_X10_downBy s (upd dn k v) b a p w h = fn_X10_downBy s dn b a p w h := by
  unfold fn_X10_downBy
  split
  · have h1 := inb_i s b p w a h
    have h2 := pl_i (b := b + 1) (a := h) (p := fn_X10_inBend s b p w a h) (by rw [b1_i hb]; omega) hh h1
    rw [b1_i hb] at h2
    rw [cl_nat (i := fn_X10_place (b + 1) h (fn_X10_inBend s b p w a h)), pk_un (by omega)]
  · rfl
def DQ (s dn : Nat → Int32) (w b a p : Int32) : Prop := (dn ((b.toInt * 10 + a.toInt) * 241 + p.toInt - 10).toNat).toInt = 100000000 ∨ ∃ h : Int32, (0 ≤ h.toInt ∧ h.toInt ≤ 9) ∧ dn ((b.toInt * 10 + a.toInt) * 241 + p.toInt - 10).toNat = fn_X10_downBy s dn b a p w h
def DBL (s dn : Nat → Int32) (w : Int32) (B b0 a0 p0 : Int) : Prop := ∀ b a p : Int32, 0 ≤ b.toInt → b.toInt < B → 0 ≤ a.toInt → a.toInt ≤ 9 → 10 ≤ p.toInt → p.toInt ≤ 250 → (b0 < b.toInt ∨ (b.toInt = b0 ∧ (a.toInt < a0 ∨ (a.toInt = a0 ∧ p.toInt < p0)))) → DQ s dn w b a p
theorem DBL.zero {s dn : Nat → Int32} {w : Int32} {B b0 : Int} (h : B ≤ b0) : DBL s dn w B b0 0 10 := fun b a p h1 h2 h3 h4 h5 h6 h7 => by omega
theorem DBL.nb {s dn : Nat → Int32} {w : Int32} {B b0 a0 p0 b1 : Int} (h : DBL s dn w B b0 a0 p0) (ha : 10 ≤ a0) (e : b1 = b0 - 1) : DBL s dn w B b1 0 10 := fun b a p h1 h2 h3 h4 h5 h6 h7 => h b a p h1 h2 h3 h4 h5 h6 (by omega)
theorem DBL.na {s dn : Nat → Int32} {w : Int32} {B b0 a0 p0 a1 : Int} (h : DBL s dn w B b0 a0 p0) (ha : 251 ≤ p0) (e : a1 = a0 + 1) : DBL s dn w B b0 a1 10 := fun b a p h1 h2 h3 h4 h5 h6 h7 => h b a p h1 h2 h3 h4 h5 h6 (by omega)
theorem DBL.fin {s dn : Nat → Int32} {w : Int32} {B b0 a0 p0 : Int} (h : DBL s dn w B b0 a0 p0) (hb : b0 < 0) : DBL s dn w B (-1) 0 10 := fun b a p h1 h2 h3 h4 h5 h6 h7 => h b a p h1 h2 h3 h4 h5 h6 (by omega)
def VD (s dn : Nat → Int32) (w : Int32) (B : Int) (b a p v : Int32) (k : Int) : Prop := b.toInt < B → (v.toInt = 100000000 ∨ ∃ h : Int32, (0 ≤ h.toInt ∧ h.toInt < k) ∧ v = fn_X10_downBy s dn b a p w h)
theorem VD.step {s dn : Nat → Int32} {w b a p v t r cv : Int32} {B c c' : Int} (h : VD s dn w B b a p v c) (et : t = fn_X10_downBy s dn b a p w cv) (hl : r.toInt ≤ v.toInt ∧ r.toInt ≤ t.toInt ∧ (r.toInt = v.toInt ∨ r.toInt = t.toInt)) (ecv : cv.toInt = c) (h0 : 0 ≤ c) (ec : c' = c + 1) : VD s dn w B b a p r c' := by
  intro hB
  rcases hl.2.2 with q | q
  · have e : r = v := Int32.toInt_inj.mp q
    subst e
    rcases h hB with h | ⟨d, hd, e⟩
    · exact Or.inl h
    · exact Or.inr ⟨d, ⟨hd.1, by omega⟩, e⟩
  · have e : r = t := Int32.toInt_inj.mp q
    subst e
    exact Or.inr ⟨cv, ⟨by omega, by omega⟩, et⟩
theorem DBL.step {s dn dn' : Nat → Int32} {w : Int32} {B b0 a0 p0 p1 c : Int} {bv av pv ix v : Int32} (h : DBL s dn w B b0 a0 p0) (e : upd dn ix.toNatClampNeg v = dn') (eb : bv.toInt = b0) (ea : av.toInt = a0) (ep : pv.toInt = p0) (hix : ix.toInt = (b0 * 10 + a0) * 241 + p0 - 10) (hb : 0 ≤ b0 ∧ b0 ≤ 12) (hB : B ≤ 12) (ha : 0 ≤ a0 ∧ a0 ≤ 9) (hp : 10 ≤ p0 ∧ p0 ≤ 250) (hv : VD s dn w B bv av pv v c) (hc : c ≤ 10) (e1 : p1 = p0 + 1) : DBL s dn' w B b0 a0 p1 := by
  subst e
  rw [cl_nat]
  intro b a p h1 h2 h3 h4 h5 h6 h7
  by_cases hq : b.toInt = b0 ∧ a.toInt = a0 ∧ p.toInt = p0
  · have e1 : b = bv := Int32.toInt_inj.mp (by omega)
    have e2 : a = av := Int32.toInt_inj.mp (by omega)
    have e3 : p = pv := Int32.toInt_inj.mp (by omega)
    subst e1; subst e2; subst e3
    have ei : ((b.toInt * 10 + a.toInt) * 241 + p.toInt - 10).toNat = ix.toInt.toNat := by omega
    unfold DQ
    rw [ei, pk_us]
    rcases hv h2 with hv | ⟨d, hd, hv⟩
    · exact Or.inl hv
    · refine Or.inr ⟨d, ⟨hd.1, by omega⟩, ?_⟩
      rw [db_upd ⟨h1, by omega⟩ ⟨hd.1, by omega⟩ (by omega)]
      exact hv
  · have hne : ((b.toInt * 10 + a.toInt) * 241 + p.toInt - 10).toNat ≠ ix.toInt.toNat := by omega
    have hh := h b a p h1 h2 h3 h4 h5 h6 (by omega)
    unfold DQ at hh ⊢
    rw [pk_un hne]
    rcases hh with hh | ⟨d, hd, hh⟩
    · exact Or.inl hh
    · refine Or.inr ⟨d, hd, ?_⟩
      rw [db_upd ⟨h1, by omega⟩ hd (by omega)]
      exact hh
def EXD (s dn : Nat → Int32) (w b a p : Int32) (c : Int) : Prop := ∃ d : Int32, (c ≤ d.toInt ∧ 0 ≤ d.toInt ∧ d.toInt ≤ 9) ∧ dn ((b.toInt * 10 + a.toInt) * 241 + p.toInt - 10).toNat = fn_X10_downBy s dn b a p w d
theorem EXD.of {s dn : Nat → Int32} {w b a p : Int32} {B : Int} (h : DBL s dn w B (-1) 0 10) (hb : 0 ≤ b.toInt ∧ b.toInt < B) (ha : 0 ≤ a.toInt ∧ a.toInt ≤ 9) (hp : 10 ≤ p.toInt ∧ p.toInt ≤ 250) (hlt : (dn ((b.toInt * 10 + a.toInt) * 241 + p.toInt - 10).toNat).toInt < 100000000) : EXD s dn w b a p 0 := by
  rcases h b a p hb.1 hb.2 ha.1 ha.2 hp.1 hp.2 (by omega) with q | ⟨d, hd, q⟩
  · omega
  · exact ⟨d, ⟨hd.1, hd.1, hd.2⟩, q⟩
theorem EXD.step {s dn : Nat → Int32} {w b a p t cv x ix : Int32} {c c' : Int} (h : EXD s dn w b a p c) (et : t = fn_X10_downBy s dn b a p w cv) (ecv : cv.toInt = c) (ex : x = dn ix.toNatClampNeg) (hix : ix.toInt = (b.toInt * 10 + a.toInt) * 241 + p.toInt - 10) (hne : t.toInt ≠ x.toInt) (ec : c' = c + 1) : EXD s dn w b a p c' := by
  obtain ⟨d, hd, q⟩ := h
  refine ⟨d, ⟨?_, hd.2⟩, q⟩
  by_cases hq : d.toInt = c
  · have e : d = cv := Int32.toInt_inj.mp (by omega)
    subst e
    rw [cl_nat, hix] at ex
    exact absurd (by rw [et, ex, q]) hne
  · omega
theorem EXD.le {s dn : Nat → Int32} {w b a p : Int32} {c : Int} (h : EXD s dn w b a p c) : c ≤ 9 := by
  obtain ⟨d, hd, q⟩ := h
  omega
theorem line_nx {s dn : Nat → Int32} {w b a p t hv x ix v : Int32} (hb : 0 ≤ b.toInt ∧ b.toInt ≤ 11) (hh : 0 ≤ hv.toInt ∧ hv.toInt ≤ 9) (hs : SG 44 55 0 9 s) (hdn : SG 0 31329 0 100000000 dn) (et : t = fn_X10_downBy s dn b a p w hv) (ex : x = dn ix.toNatClampNeg) (hix : ix.toInt = (b.toInt * 10 + a.toInt) * 241 + p.toInt - 10) (heq : t.toInt = x.toInt) (hlt : (dn ((b.toInt * 10 + a.toInt) * 241 + p.toInt - 10).toNat).toInt < 100000000) (ev : v = fn_X10_inBend s b p w a hv) : (dn (((b.toInt + 1) * 10 + hv.toInt) * 241 + v.toInt - 10).toNat).toInt < 100000000 := by
  rw [cl_nat, hix] at ex
  rw [← ex, ← heq] at hlt
  have h1 := inb_i s b p w a hv
  rw [← ev] at h1
  unfold fn_X10_downBy at et
  rw [← ev] at et
  by_cases h : fn_X10_isOver s b v hv = 0
  · rw [if_pos h] at et
    have h2 := pl_i (b := b + 1) (a := hv) (p := v) (by rw [b1_i hb]; omega) hh h1
    rw [b1_i hb] at h2
    have h3 := hdn.at (fn_X10_place (b + 1) hv v) (by omega) (by omega)
    have e44 : ((44 : Int32) + b).toInt = 44 + b.toInt := add_i (a := 44) rfl rfl (by omega) (by omega)
    have h4 := hs.at ((44 : Int32) + b) (by omega) (by omega)
    have e3 : (s ((44 : Int32) + b).toNatClampNeg * 3000).toInt = (s ((44 : Int32) + b).toNatClampNeg).toInt * 3000 := mul_i rfl (b := 3000) rfl (by omega) (by omega)
    have h5 := divv_k (x := s ((44 : Int32) + b).toNatClampNeg * 3000) (y := v) (ah := 27000) (bl := 10) (hi := 2700) (by omega) (by omega) h1.1 (by decide)
    have e8 : t.toInt = (s ((44 : Int32) + b).toNatClampNeg * 3000 / v).toInt + (dn (fn_X10_place (b + 1) hv v).toNatClampNeg).toInt := by
      rw [et]
      exact add_i rfl rfl (by omega) (by omega)
    rw [cl_nat (i := fn_X10_place (b + 1) hv v), h2] at e8
    omega
  · rw [if_neg h] at et
    subst et
    have : (100000000 : Int32).toInt = 100000000 := rfl
    omega
set_option maxHeartbeats 4000000 in
set_option maxRecDepth 100000 in
theorem m_X10_line (l : Launch) (D : va_G) (cI cJ cB cP cM cZ : ClassId) (h0 : Nat) (h_s : Nat) (h_paceAt : Nat) (h_kindOf : Nat) (h_downs : Nat) (h_lineHeights : Nat) (Fh : Nat → Value) (x_lineTime : Int32) (x_linePace : Int32) (x_inside : Int32) (x_late : Int32) (x_seed : Int32) (x_kicks : Int32) (x_hasLine : Int32) (x_lineId : Int32) (x_lineBends : Int32) (f_s : Nat → Int32) (f_paceAt : Nat → Int32) (f_kindOf : Nat → Int32) (f_downs : Nat → Int32) (f_lineHeights : Nat → Int32) (bs : Nat → Int32) (sz : Nat) (e_s : Fh 6 = .ref h_s) (e_paceAt : Fh 25 = .ref h_paceAt) (e_kindOf : Fh 26 = .ref h_kindOf) (e_lineTime : Fh 27 = .int x_lineTime) (e_linePace : Fh 28 = .int x_linePace) (e_inside : Fh 29 = .int x_inside) (i_x_inside : IR 0 15 x_inside) (e_late : Fh 30 = .int x_late) (i_x_late : IR 0 15 x_late) (e_seed : Fh 31 = .int x_seed) (e_kicks : Fh 32 = .int x_kicks) (i_x_kicks : IR 0 1 x_kicks) (e_hasLine : Fh 52 = .int x_hasLine) (i_x_hasLine : IR 0 1 x_hasLine) (e_downs : Fh 53 = .ref h_downs) (e_lineHeights : Fh 54 = .ref h_lineHeights) (e_lineId : Fh 55 = .int x_lineId) (e_lineBends : Fh 56 = .int x_lineBends) (i_x_lineBends : IR 0 12 x_lineBends) (s_s_K0 : KW 0 f_s) (s_s_US : US bs f_s) (s_s_0 : SG 0 0 0 40 f_s) (s_s_105 : SG 105 108 0 11 f_s) (s_s_114 : SG 114 114 0 5 f_s) (s_s_130 : SG 130 133 0 11 f_s) (s_s_139 : SG 139 139 0 5 f_s) (s_s_153 : SG 153 153 0 44 f_s) (s_s_44 : SG 44 55 0 9 f_s) (s_s_5 : SG 5 5 0 12 f_s) (s_s_6 : SG 6 6 0 12 f_s) (s_s_7 : SG 7 7 0 6 f_s) (s_downs_0 : SG 0 31329 0 100000000 f_downs) : CI l yX10_line cX10_line 7 (some .int) { frames := 4, cells := 0, slots := 0, locals := 94 } (GG D cI cJ cB cP cM cZ) D [(h0, .inr (10, vL 67 Fh)), (h_s, .inl (cI, 335, .inl f_s)), (h_paceAt, .inl (cI, 40, .inl f_paceAt)), (h_kindOf, .inl (cI, 4, .inl f_kindOf)), (h_downs, .inl (cI, 31330, .inl f_downs)), (h_lineHeights, .inl (cI, 12, .inl f_lineHeights))] sz [.ref h0] (fun (r : Int32) (u : va_W) => ∃ (Gh : Nat → Value) (y_lineTime : Int32) (y_linePace : Int32) (y_inside : Int32) (y_late : Int32) (y_seed : Int32) (y_hasLine : Int32) (y_lineId : Int32) (y_lineBends : Int32) (g_paceAt : Nat → Int32) (g_kindOf : Nat → Int32) (g_downs : Nat → Int32) (g_lineHeights : Nat → Int32), SAME [0, 27, 28, 29, 30, 31, 52, 55, 56] Fh Gh ∧ Gh 0 = .int 0 ∧ Gh 27 = .int y_lineTime ∧ Gh 28 = .int y_linePace ∧ Gh 29 = .int y_inside ∧ IR 0 15 y_inside ∧ Gh 30 = .int y_late ∧ IR 0 15 y_late ∧ Gh 31 = .int y_seed ∧ Gh 52 = .int y_hasLine ∧ IR 0 1 y_hasLine ∧ Gh 55 = .int y_lineId ∧ Gh 56 = .int y_lineBends ∧ IR 0 12 y_lineBends ∧ SG 0 31329 0 100000000 g_downs ∧ u = [(h0, .inr (10, vL 67 Gh)), (h_s, .inl (cI, 335, .inl f_s)), (h_paceAt, .inl (cI, 40, .inl g_paceAt)), (h_kindOf, .inl (cI, 4, .inl g_kindOf)), (h_downs, .inl (cI, 31330, .inl g_downs)), (h_lineHeights, .inl (cI, 12, .inl g_lineHeights))]) := by
  refine CI_mk (by decide) (Nat.le_of_ble_eq_true rfl) ?_
  intro p e s m below meth c A ls E hAe hG hsz hP hD hA hS hl
  obtain ⟨hx, hb, hr, hw, hown, hlocks, hml, hnm⟩ := E
  have hK := hG.1
  have i_x_inside : 0 ≤ x_inside.toInt ∧ x_inside.toInt ≤ 15 := i_x_inside
  have i_x_late : 0 ≤ x_late.toInt ∧ x_late.toInt ≤ 15 := i_x_late
  have i_x_kicks : 0 ≤ x_kicks.toInt ∧ x_kicks.toInt ≤ 1 := i_x_kicks
  have i_x_hasLine : 0 ≤ x_hasLine.toInt ∧ x_hasLine.toInt ≤ 1 := i_x_hasLine
  have i_x_lineBends : 0 ≤ x_lineBends.toInt ∧ x_lineBends.toInt ≤ 12 := i_x_lineBends
  have hl : lv_has ls 7 [(0, .ref h0)] := hl
  refine lv_aload_n hx hb dX10_line_0 rfl (lv_at hl 0 rfl) ?_
  refine lv_iconst (v := 0) hx hb dX10_line_1 (by decide) ?_
  refine put_f (D := D) (ci := 10) (v := .int 0) (ty := .int) (C := RX10) (T := TX10) (N := 67) hx hb hw inAX10 tyX10 tyX10_ok nmX10 hown hK hP hD hS 0 rfl rfl 0 (by decide) (hw _ q_1261) (fun _ h9 => h9) rfl (by decide +kernel) rfl rfl dX10_line_2 (fun H locs F1 eF1 hP hD hS => ?_)
  have hP : va_P D vwCl [(h0, .inr (10, vL 67 F1)), (h_s, .inl (cI, 335, .inl f_s)), (h_paceAt, .inl (cI, 40, .inl f_paceAt)), (h_kindOf, .inl (cI, 4, .inl f_kindOf)), (h_downs, .inl (cI, 31330, .inl f_downs)), (h_lineHeights, .inl (cI, 12, .inl f_lineHeights))] H := hP
  have hD : va_D A [(h0, .inr (10, vL 67 F1)), (h_s, .inl (cI, 335, .inl f_s)), (h_paceAt, .inl (cI, 40, .inl f_paceAt)), (h_kindOf, .inl (cI, 4, .inl f_kindOf)), (h_downs, .inl (cI, 31330, .inl f_downs)), (h_lineHeights, .inl (cI, 12, .inl f_lineHeights))] := hD
  refine lv_aload_n hx hb dX10_line_5 rfl (lv_at hl 0 rfl) ?_
  have n2 : F1 6 = .ref h_s := (get_ne eF1 (by decide) e_s)
  refine call_Vi (wr := [(h_paceAt, .inl (cI, 40, .inl f_paceAt)), (h_kindOf, .inl (cI, 4, .inl f_kindOf)), (h_downs, .inl (cI, 31330, .inl f_downs)), (h_lineHeights, .inl (cI, 12, .inl f_lineHeights))]) (As := []) (rest := []) hx hb hml hown hw (m_X10_hasCrew l D cI cJ cB cP cM cZ h0 h_s F1 f_s bs _ n2 s_s_K0 s_s_US s_s_0 s_s_105 s_s_114 s_s_130 s_s_139 s_s_153 s_s_44 s_s_5 s_s_6 s_s_7) wV_X10_281_X10_hasCrew dX10_line_6 hK hP hD hS hA [0, 1] [2, 3, 4, 5] rfl rfl (by decide) (by decide) (by decide) 0 10 rfl rfl GG.fb hG.at hl.1 rfl (Nat.le_of_ble_eq_true rfl) ⟨(Nat.le_of_ble_eq_true rfl), (Nat.le_of_ble_eq_true rfl)⟩ ⟨(Nat.le_of_ble_eq_true rfl), (Nat.le_of_ble_eq_true rfl)⟩ (fun r3 u H locs hp hP hD hS => ?_)
  rcases hp with ⟨rfl, rfl⟩ | ⟨rfl, rfl⟩
  · have hP : va_P D vwCl [(h_paceAt, .inl (cI, 40, .inl f_paceAt)), (h_kindOf, .inl (cI, 4, .inl f_kindOf)), (h_downs, .inl (cI, 31330, .inl f_downs)), (h_lineHeights, .inl (cI, 12, .inl f_lineHeights)), (h0, .inr (10, vL 67 F1)), (h_s, .inl (cI, 335, .inl f_s))] H := hP
    have hD : va_D A [(h_paceAt, .inl (cI, 40, .inl f_paceAt)), (h_kindOf, .inl (cI, 4, .inl f_kindOf)), (h_downs, .inl (cI, 31330, .inl f_downs)), (h_lineHeights, .inl (cI, 12, .inl f_lineHeights)), (h0, .inr (10, vL 67 F1)), (h_s, .inl (cI, 335, .inl f_s))] := hD
    refine W.widen (k := 0) (n := 0) (Nat.le_of_ble_eq_true rfl) (Nat.le_of_ble_eq_true rfl) ?_
    refine lv_if_ne (tgt := 14) hx hb dX10_line_9 (by decide) (fun g => absurd (by decide) g) (fun _ => ?_)
    refine lv_iconst (v := (-1)) hx hb dX10_line_12 (by decide) ?_
    exact ret_i (v := (-1)) hx hb hr hlocks hS (hP.sub (ws' := [(h0, .inr (10, vL 67 F1)), (h_s, .inl (cI, 335, .inl f_s)), (h_paceAt, .inl (cI, 40, .inl f_paceAt)), (h_kindOf, .inl (cI, 4, .inl f_kindOf)), (h_downs, .inl (cI, 31330, .inl f_downs)), (h_lineHeights, .inl (cI, 12, .inl f_lineHeights))]) [4, 5, 0, 1, 2, 3] rfl) (hD.sub (ws' := [(h0, .inr (10, vL 67 F1)), (h_s, .inl (cI, 335, .inl f_s)), (h_paceAt, .inl (cI, 40, .inl f_paceAt)), (h_kindOf, .inl (cI, 4, .inl f_kindOf)), (h_downs, .inl (cI, 31330, .inl f_downs)), (h_lineHeights, .inl (cI, 12, .inl f_lineHeights))]) [4, 5, 0, 1, 2, 3] (by decide) rfl) dX10_line_13 rfl (Nat.le_of_ble_eq_true rfl) (Nat.le_of_ble_eq_true rfl) ⟨F1, x_lineTime, x_linePace, x_inside, x_late, x_seed, x_hasLine, x_lineId, x_lineBends, f_paceAt, f_kindOf, f_downs, f_lineHeights, (SAME.up eF1 SAME.rf (by decide)), (get_eq eF1), (get_ne eF1 (by decide) e_lineTime), (get_ne eF1 (by decide) e_linePace), (get_ne eF1 (by decide) e_inside), i_x_inside, (get_ne eF1 (by decide) e_late), i_x_late, (get_ne eF1 (by decide) e_seed), (get_ne eF1 (by decide) e_hasLine), i_x_hasLine, (get_ne eF1 (by decide) e_lineId), (get_ne eF1 (by decide) e_lineBends), i_x_lineBends, s_downs_0, rfl⟩
  · have hP : va_P D vwCl [(h_paceAt, .inl (cI, 40, .inl f_paceAt)), (h_kindOf, .inl (cI, 4, .inl f_kindOf)), (h_downs, .inl (cI, 31330, .inl f_downs)), (h_lineHeights, .inl (cI, 12, .inl f_lineHeights)), (h0, .inr (10, vL 67 F1)), (h_s, .inl (cI, 335, .inl f_s))] H := hP
    have hD : va_D A [(h_paceAt, .inl (cI, 40, .inl f_paceAt)), (h_kindOf, .inl (cI, 4, .inl f_kindOf)), (h_downs, .inl (cI, 31330, .inl f_downs)), (h_lineHeights, .inl (cI, 12, .inl f_lineHeights)), (h0, .inr (10, vL 67 F1)), (h_s, .inl (cI, 335, .inl f_s))] := hD
    refine W.widen (k := 0) (n := 0) (Nat.le_of_ble_eq_true rfl) (Nat.le_of_ble_eq_true rfl) ?_
    refine lv_if_ne (tgt := 14) hx hb dX10_line_9 (by decide) (fun _ => ?_) (fun g => absurd g (by decide))
    refine lv_aload_n hx hb dX10_line_14 rfl (lv_at hl 0 rfl) ?_
    have n5 : F1 25 = .ref h_paceAt := (get_ne eF1 (by decide) e_paceAt)
    have n6 : F1 26 = .ref h_kindOf := (get_ne eF1 (by decide) e_kindOf)
    have n7 : F1 31 = .int x_seed := (get_ne eF1 (by decide) e_seed)
    have n8 : F1 32 = .int x_kicks := (get_ne eF1 (by decide) e_kicks)
    refine call_Vv (wr := [(h_downs, .inl (cI, 31330, .inl f_downs)), (h_lineHeights, .inl (cI, 12, .inl f_lineHeights))]) (As := []) (rest := []) hx hb hml hown hw (m_X10_starts l D cI cJ cB cP cM cZ h0 h_s h_paceAt h_kindOf F1 x_seed x_kicks f_s f_paceAt f_kindOf bs _ n2 n5 n6 n7 n8 i_x_kicks s_s_K0 s_s_US s_s_0 s_s_105 s_s_114 s_s_130 s_s_139 s_s_153 s_s_44 s_s_5 s_s_6 s_s_7) wV_X10_340_X10_starts dX10_line_15 hK hP hD hS hA [4, 5, 0, 1] [2, 3] rfl rfl (by decide) (by decide) (by decide) 0 10 rfl rfl GG.fb hG.at hl.1 rfl (Nat.le_of_ble_eq_true rfl) ⟨(Nat.le_of_ble_eq_true rfl), (Nat.le_of_ble_eq_true rfl)⟩ ⟨(Nat.le_of_ble_eq_true rfl), (Nat.le_of_ble_eq_true rfl)⟩ (fun u H locs hp hP hD hS => ?_)
    obtain ⟨F10, y11, y12, y13, y14, y15, g16, g17, t18, t19, t20, t21, t22, t23, t24, t25, t26, rfl⟩ := hp
    have hP : va_P D vwCl [(h_downs, .inl (cI, 31330, .inl f_downs)), (h_lineHeights, .inl (cI, 12, .inl f_lineHeights)), (h0, .inr (10, vL 67 F10)), (h_s, .inl (cI, 335, .inl f_s)), (h_paceAt, .inl (cI, 40, .inl g16)), (h_kindOf, .inl (cI, 4, .inl g17))] H := hP
    have hD : va_D A [(h_downs, .inl (cI, 31330, .inl f_downs)), (h_lineHeights, .inl (cI, 12, .inl f_lineHeights)), (h0, .inr (10, vL 67 F10)), (h_s, .inl (cI, 335, .inl f_s)), (h_paceAt, .inl (cI, 40, .inl g16)), (h_kindOf, .inl (cI, 4, .inl g17))] := hD
    refine W.widen (k := 0) (n := 0) (Nat.le_of_ble_eq_true rfl) (Nat.le_of_ble_eq_true rfl) ?_
    refine lv_aload_n hx hb dX10_line_18 rfl (lv_at hl 0 rfl) ?_
    have n28 : F10 6 = .ref h_s := (SAME.at t18 (by decide) n2)
    refine call_Vi (wr := [(h_downs, .inl (cI, 31330, .inl f_downs)), (h_lineHeights, .inl (cI, 12, .inl f_lineHeights)), (h_paceAt, .inl (cI, 40, .inl g16)), (h_kindOf, .inl (cI, 4, .inl g17))]) (As := []) (rest := []) hx hb hml hown hw (m_X10_weight l D cI cJ cB cP cM cZ h0 h_s F10 y13 f_s bs _ n28 t22 t23 s_s_K0 s_s_US s_s_0 s_s_105 s_s_114 s_s_130 s_s_139 s_s_153 s_s_44 s_s_5 s_s_6 s_s_7) wV_X10_343_X10_weight dX10_line_19 hK hP hD hS hA [2, 3] [0, 1, 4, 5] rfl rfl (by decide) (by decide) (by decide) 0 10 rfl rfl GG.fb hG.at hl.1 rfl (Nat.le_of_ble_eq_true rfl) ⟨(Nat.le_of_ble_eq_true rfl), (Nat.le_of_ble_eq_true rfl)⟩ ⟨(Nat.le_of_ble_eq_true rfl), (Nat.le_of_ble_eq_true rfl)⟩ (fun r29 u H locs hp hP hD hS => ?_)
    obtain rfl := hp
    have hP : va_P D vwCl [(h_downs, .inl (cI, 31330, .inl f_downs)), (h_lineHeights, .inl (cI, 12, .inl f_lineHeights)), (h_paceAt, .inl (cI, 40, .inl g16)), (h_kindOf, .inl (cI, 4, .inl g17)), (h0, .inr (10, vL 67 F10)), (h_s, .inl (cI, 335, .inl f_s))] H := hP
    have hD : va_D A [(h_downs, .inl (cI, 31330, .inl f_downs)), (h_lineHeights, .inl (cI, 12, .inl f_lineHeights)), (h_paceAt, .inl (cI, 40, .inl g16)), (h_kindOf, .inl (cI, 4, .inl g17)), (h0, .inr (10, vL 67 F10)), (h_s, .inl (cI, 335, .inl f_s))] := hD
    refine W.widen (k := 0) (n := 0) (Nat.le_of_ble_eq_true rfl) (Nat.le_of_ble_eq_true rfl) ?_
    refine lv_istore_n (lv' := [(1, .int r29), (0, .ref h0)]) hx hb dX10_line_22 rfl hl (by decide) rfl (fun ls hl => ?_)
    refine lv_iload_n hx hb dX10_line_23 rfl (lv_at hl 0 rfl) ?_
    refine lv_aload_n hx hb dX10_line_24 rfl (lv_at hl 1 rfl) ?_
    refine get_f (D := D) (ci := 10) (v := .ref h_s) (C := RX10) (T := TX10) (N := 67) hx hb hw inAX10 hown hK hP 4 rfl rfl 6 (by decide) (hw _ q_1267) (fun _ h9 => h9) n28 dX10_line_25 ?_
    refine lv_iconst (v := 2) hx hb dX10_line_28 (by decide) ?_
    refine iald_n hx hb hK hP 5 0 rfl rfl 2 rfl (Nat.le_of_ble_eq_true rfl) (Nat.le_of_ble_eq_true rfl) rfl dX10_line_29 ?_
    refine lv_topi (fun v31 ev31 => ?_)
    refine lv_icmp_le (tgt := 35) hx hb dX10_line_30 (by decide) (fun c32 => ?_) (fun c32 => ?_)
    · have dc32 : r29.toInt ≤ v31.toInt := le_i (a := r29.toInt) (b := v31.toInt) rfl rfl c32
      refine lv_aload_n hx hb dX10_line_35 rfl (lv_at hl 1 rfl) ?_
      refine get_f (D := D) (ci := 10) (v := .ref h_s) (C := RX10) (T := TX10) (N := 67) hx hb hw inAX10 hown hK hP 4 rfl rfl 6 (by decide) (hw _ q_1267) (fun _ h9 => h9) n28 dX10_line_36 ?_
      refine lv_bipush (v := 6) hx hb dX10_line_39 (by decide) ?_
      refine iald_n hx hb hK hP 5 0 rfl rfl 6 rfl (Nat.le_of_ble_eq_true rfl) (Nat.le_of_ble_eq_true rfl) rfl dX10_line_41 ?_
      refine lv_topi (fun v33 ev33 => ?_)
      have k34 : 0 ≤ v33.toInt ∧ v33.toInt ≤ 12 := by rw [ev33]; exact s_s_6.atN 6 (by decide) (by decide)
      refine lv_istore_n (lv' := [(2, .int v33), (1, .int r29), (0, .ref h0)]) hx hb dX10_line_42 rfl hl (by decide) rfl (fun ls hl => ?_)
      refine mloop (α := (Int32) × (Nat → Int32)) (nL := 7) (D := D) (A := A) (H0 := s.heap) (fun a => (a.1.toInt + 1).toNat) (fun a => IR (-1) 12 a.1 ∧ SG 0 31329 0 100000000 a.2 ∧ (DBL f_s a.2 r29 v33.toInt (a.1.toInt) 0 10)) (fun a => [(h_downs, .inl (cI, 31330, .inl a.2)), (h_lineHeights, .inl (cI, 12, .inl f_lineHeights)), (h_paceAt, .inl (cI, 40, .inl g16)), (h_kindOf, .inl (cI, 4, .inl g17)), (h0, .inr (10, vL 67 F10)), (h_s, .inl (cI, 335, .inl f_s))]) (fun a => [(2, .int a.1), (1, .int r29), (0, .ref h0)]) (fun H locs ls => W p l e ({ frames := 4, cells := 0, slots := 0, locals := 94 } : Room) s m [.ref h0].toArray below meth c H locs 0 0 (MQ below (va_Qi (fun (r : Int32) (u : va_W) => ∃ (Gh : Nat → Value) (y_lineTime : Int32) (y_linePace : Int32) (y_inside : Int32) (y_late : Int32) (y_seed : Int32) (y_hasLine : Int32) (y_lineId : Int32) (y_lineBends : Int32) (g_paceAt : Nat → Int32) (g_kindOf : Nat → Int32) (g_downs : Nat → Int32) (g_lineHeights : Nat → Int32), SAME [0, 27, 28, 29, 30, 31, 52, 55, 56] Fh Gh ∧ Gh 0 = .int 0 ∧ Gh 27 = .int y_lineTime ∧ Gh 28 = .int y_linePace ∧ Gh 29 = .int y_inside ∧ IR 0 15 y_inside ∧ Gh 30 = .int y_late ∧ IR 0 15 y_late ∧ Gh 31 = .int y_seed ∧ Gh 52 = .int y_hasLine ∧ IR 0 1 y_hasLine ∧ Gh 55 = .int y_lineId ∧ Gh 56 = .int y_lineBends ∧ IR 0 12 y_lineBends ∧ SG 0 31329 0 100000000 g_downs ∧ u = [(h0, .inr (10, vL 67 Gh)), (h_s, .inl (cI, 335, .inl f_s)), (h_paceAt, .inl (cI, 40, .inl g_paceAt)), (h_kindOf, .inl (cI, 4, .inl g_kindOf)), (h_downs, .inl (cI, 31330, .inl g_downs)), (h_lineHeights, .inl (cI, 12, .inl g_lineHeights))]) (PO D A) A) [.ref h0].toArray s 0 0 A) (F0 m 43 ls [])) ?_ (v33, f_downs) ⟨(ir_wk k34 (by decide) (by decide)), s_downs_0, (show DBL f_s f_downs r29 v33.toInt (v33.toInt) 0 10 from (DBL.zero (by omega)))⟩ _ _ _ hP hD hS hl
      rintro ⟨u35, w36⟩ ⟨i37, i38, i39⟩ ih H locs ls hP hD hS hl
      have i37 : (-1) ≤ u35.toInt ∧ u35.toInt ≤ 12 := i37
      have i39 : DBL f_s w36 r29 v33.toInt (u35.toInt) 0 10 := i39
      have hP : va_P D vwCl [(h_downs, .inl (cI, 31330, .inl w36)), (h_lineHeights, .inl (cI, 12, .inl f_lineHeights)), (h_paceAt, .inl (cI, 40, .inl g16)), (h_kindOf, .inl (cI, 4, .inl g17)), (h0, .inr (10, vL 67 F10)), (h_s, .inl (cI, 335, .inl f_s))] H := hP
      have hD : va_D A [(h_downs, .inl (cI, 31330, .inl w36)), (h_lineHeights, .inl (cI, 12, .inl f_lineHeights)), (h_paceAt, .inl (cI, 40, .inl g16)), (h_kindOf, .inl (cI, 4, .inl g17)), (h0, .inr (10, vL 67 F10)), (h_s, .inl (cI, 335, .inl f_s))] := hD
      have hl : lv_has ls 7 [(2, .int u35), (1, .int r29), (0, .ref h0)] := hl
      refine lv_iload_n hx hb dX10_line_43 rfl (lv_at hl 0 rfl) ?_
      refine lv_if_lt (tgt := 164) hx hb dX10_line_44 (by decide) (fun c40 => ?_) (fun c40 => ?_)
      · have dc40 : u35.toInt < 0 := lt_i (a := u35.toInt) (b := 0) rfl rfl c40
        have k41 : (-1) ≤ u35.toInt ∧ u35.toInt ≤ (-1) := ⟨i37.1, up_lt dc40 (Int.le_refl _) (by decide)⟩
        refine lv_aload_n hx hb dX10_line_164 rfl (lv_at hl 2 rfl) ?_
        have n42 : F1 53 = .ref h_downs := (get_ne eF1 (by decide) e_downs)
        have n43 : F10 53 = .ref h_downs := (SAME.at t18 (by decide) n42)
        refine get_f (D := D) (ci := 10) (v := .ref h_downs) (C := RX10) (T := TX10) (N := 67) hx hb hw inAX10 hown hK hP 4 rfl rfl 53 (by decide) (hw _ q_1314) (fun _ h9 => h9) n43 dX10_line_165 ?_
        refine lv_iconst (v := 0) hx hb dX10_line_168 (by decide) ?_
        refine lv_iconst (v := 0) hx hb dX10_line_169 (by decide) ?_
        refine lv_aload_n hx hb dX10_line_170 rfl (lv_at hl 2 rfl) ?_
        refine get_f (D := D) (ci := 10) (v := .int y12) (C := RX10) (T := TX10) (N := 67) hx hb hw inAX10 hown hK hP 4 rfl rfl 28 (by decide) (hw _ q_1289) (fun _ h9 => h9) t20 dX10_line_171 ?_
        refine call_Si (wr := [(h_downs, .inl (cI, 31330, .inl w36)), (h_lineHeights, .inl (cI, 12, .inl f_lineHeights)), (h_paceAt, .inl (cI, 40, .inl g16)), (h_kindOf, .inl (cI, 4, .inl g17)), (h0, .inr (10, vL 67 F10)), (h_s, .inl (cI, 335, .inl f_s))]) (As := [.int 0, .int 0, .int y12]) (rest := [.ref h_downs]) hx hb hml hown hw (m_X10_place l D cI cJ cB cP cM cZ 0 0 y12 _ (show 0 ≤ (0 : Int32).toInt ∧ (0 : Int32).toInt ≤ 12 by decide) (show 0 ≤ (0 : Int32).toInt ∧ (0 : Int32).toInt ≤ 9 by decide) t21) wS_X10_407_X10_place dX10_line_174 hP hD hS hA [] [0, 1, 2, 3, 4, 5] rfl rfl (by decide) (by decide) (by decide) GG.fb hG.at hl.1 rfl (Nat.le_of_ble_eq_true rfl) ⟨(Nat.le_of_ble_eq_true rfl), (Nat.le_of_ble_eq_true rfl)⟩ ⟨(Nat.le_of_ble_eq_true rfl), (Nat.le_of_ble_eq_true rfl)⟩ (fun r44 u H locs hp hP hD hS => ?_)
        have zl0 : (0 : Int32).toInt = 0 := by decide
        obtain ⟨t45, t46, t47, rfl⟩ := hp
        have hP : va_P D vwCl [(h_downs, .inl (cI, 31330, .inl w36)), (h_lineHeights, .inl (cI, 12, .inl f_lineHeights)), (h_paceAt, .inl (cI, 40, .inl g16)), (h_kindOf, .inl (cI, 4, .inl g17)), (h0, .inr (10, vL 67 F10)), (h_s, .inl (cI, 335, .inl f_s))] H := hP
        have hD : va_D A [(h_downs, .inl (cI, 31330, .inl w36)), (h_lineHeights, .inl (cI, 12, .inl f_lineHeights)), (h_paceAt, .inl (cI, 40, .inl g16)), (h_kindOf, .inl (cI, 4, .inl g17)), (h0, .inr (10, vL 67 F10)), (h_s, .inl (cI, 335, .inl f_s))] := hD
        refine W.widen (k := 0) (n := 0) (Nat.le_of_ble_eq_true rfl) (Nat.le_of_ble_eq_true rfl) ?_
        have k49 : 0 ≤ r44.toInt ∧ r44.toInt ≤ 240 := ⟨by omega, by omega⟩
        refine va_iald hx hb hK hP 0 0 rfl rfl (ix_k k49 (by decide) (by decide)) dX10_line_177 ?_
        refine lv_topi (fun v50 ev50 => ?_)
        have k51 : 0 ≤ v50.toInt ∧ v50.toInt ≤ 100000000 := by rw [ev50]; exact i38.at _ (Int.le_trans (by decide) k49.1) (Int.le_trans k49.2 (by decide))
        refine lv_istore_n (lv' := [(2, .int v50), (1, .int r29), (0, .ref h0)]) hx hb dX10_line_178 rfl hl (by decide) rfl (fun ls hl => ?_)
        refine lv_iload_n hx hb dX10_line_179 rfl (lv_at hl 0 rfl) ?_
        refine lv_ldcw hx hb hown (hw _ q_1701) dX10_line_180 ?_
        refine lv_icmp_lt (tgt := 188) hx hb dX10_line_183 (by decide) (fun c52 => ?_) (fun c52 => ?_)
        · have dc52 : v50.toInt < 100000000 := lt_i (a := v50.toInt) (b := 100000000) rfl rfl c52
          have k53 : 0 ≤ v50.toInt ∧ v50.toInt ≤ 99999999 := ⟨k51.1, up_lt dc52 (Int.le_refl _) (by decide)⟩
          refine lv_aload_n hx hb dX10_line_188 rfl (lv_at hl 2 rfl) ?_
          refine get_f (D := D) (ci := 10) (v := .int y12) (C := RX10) (T := TX10) (N := 67) hx hb hw inAX10 hown hK hP 4 rfl rfl 28 (by decide) (hw _ q_1289) (fun _ h9 => h9) t20 dX10_line_189 ?_
          refine lv_istore_n (lv' := [(3, .int y12), (2, .int v50), (1, .int r29), (0, .ref h0)]) hx hb dX10_line_192 rfl hl (by decide) rfl (fun ls hl => ?_)
          refine lv_iconst (v := 0) hx hb dX10_line_193 (by decide) ?_
          refine lv_istore (lv' := [(4, .int 0), (3, .int y12), (2, .int v50), (1, .int r29), (0, .ref h0)]) hx hb dX10_line_194 hl (by decide) rfl (fun ls hl => ?_)
          refine lv_iconst (v := 0) hx hb dX10_line_196 (by decide) ?_
          refine lv_istore (lv' := [(5, .int 0), (4, .int 0), (3, .int y12), (2, .int v50), (1, .int r29), (0, .ref h0)]) hx hb dX10_line_197 hl (by decide) rfl (fun ls hl => ?_)
          refine mloop (α := (Int32) × (Int32) × (Int32) × (Nat → Int32)) (nL := 7) (D := D) (A := A) (H0 := s.heap) (fun a => (12 - a.1.toInt).toNat) (fun a => IR 0 12 a.1 ∧ IR 0 9 a.2.1 ∧ IR 10 250 a.2.2.1 ∧ ((w36 ((a.1.toInt * 10 + a.2.1.toInt) * 241 + a.2.2.1.toInt - 10).toNat).toInt < 100000000)) (fun a => [(h_downs, .inl (cI, 31330, .inl w36)), (h_lineHeights, .inl (cI, 12, .inl a.2.2.2)), (h_paceAt, .inl (cI, 40, .inl g16)), (h_kindOf, .inl (cI, 4, .inl g17)), (h0, .inr (10, vL 67 F10)), (h_s, .inl (cI, 335, .inl f_s))]) (fun a => [(5, .int a.1), (4, .int a.2.1), (3, .int a.2.2.1), (2, .int v50), (1, .int r29), (0, .ref h0)]) (fun H locs ls => W p l e ({ frames := 4, cells := 0, slots := 0, locals := 94 } : Room) s m [.ref h0].toArray below meth c H locs 0 0 (MQ below (va_Qi (fun (r : Int32) (u : va_W) => ∃ (Gh : Nat → Value) (y_lineTime : Int32) (y_linePace : Int32) (y_inside : Int32) (y_late : Int32) (y_seed : Int32) (y_hasLine : Int32) (y_lineId : Int32) (y_lineBends : Int32) (g_paceAt : Nat → Int32) (g_kindOf : Nat → Int32) (g_downs : Nat → Int32) (g_lineHeights : Nat → Int32), SAME [0, 27, 28, 29, 30, 31, 52, 55, 56] Fh Gh ∧ Gh 0 = .int 0 ∧ Gh 27 = .int y_lineTime ∧ Gh 28 = .int y_linePace ∧ Gh 29 = .int y_inside ∧ IR 0 15 y_inside ∧ Gh 30 = .int y_late ∧ IR 0 15 y_late ∧ Gh 31 = .int y_seed ∧ Gh 52 = .int y_hasLine ∧ IR 0 1 y_hasLine ∧ Gh 55 = .int y_lineId ∧ Gh 56 = .int y_lineBends ∧ IR 0 12 y_lineBends ∧ SG 0 31329 0 100000000 g_downs ∧ u = [(h0, .inr (10, vL 67 Gh)), (h_s, .inl (cI, 335, .inl f_s)), (h_paceAt, .inl (cI, 40, .inl g_paceAt)), (h_kindOf, .inl (cI, 4, .inl g_kindOf)), (h_downs, .inl (cI, 31330, .inl g_downs)), (h_lineHeights, .inl (cI, 12, .inl g_lineHeights))]) (PO D A) A) [.ref h0].toArray s 0 0 A) (F0 m 199 ls [])) ?_ (0, 0, y12, f_lineHeights) ⟨(show 0 ≤ (0 : Int32).toInt ∧ (0 : Int32).toInt ≤ 12 by decide), (show 0 ≤ (0 : Int32).toInt ∧ (0 : Int32).toInt ≤ 9 by decide), t21, (show (w36 ((0 * 10 + 0) * 241 + y12.toInt - 10).toNat).toInt < 100000000 from (by rw [show ((0 * 10 + 0) * 241 + y12.toInt - 10).toNat = r44.toInt.toNat by omega, ← cl_nat, ← ev50]; omega))⟩ _ _ _ hP hD hS hl
          rintro ⟨u54, u55, u56, w57⟩ ⟨i58, i59, i60, i61⟩ ih_199 H locs ls hP hD hS hl
          have i58 : 0 ≤ u54.toInt ∧ u54.toInt ≤ 12 := i58
          have i59 : 0 ≤ u55.toInt ∧ u55.toInt ≤ 9 := i59
          have i60 : 10 ≤ u56.toInt ∧ u56.toInt ≤ 250 := i60
          have i61 : (w36 ((u54.toInt * 10 + u55.toInt) * 241 + u56.toInt - 10).toNat).toInt < 100000000 := i61
          have hP : va_P D vwCl [(h_downs, .inl (cI, 31330, .inl w36)), (h_lineHeights, .inl (cI, 12, .inl w57)), (h_paceAt, .inl (cI, 40, .inl g16)), (h_kindOf, .inl (cI, 4, .inl g17)), (h0, .inr (10, vL 67 F10)), (h_s, .inl (cI, 335, .inl f_s))] H := hP
          have hD : va_D A [(h_downs, .inl (cI, 31330, .inl w36)), (h_lineHeights, .inl (cI, 12, .inl w57)), (h_paceAt, .inl (cI, 40, .inl g16)), (h_kindOf, .inl (cI, 4, .inl g17)), (h0, .inr (10, vL 67 F10)), (h_s, .inl (cI, 335, .inl f_s))] := hD
          have hl : lv_has ls 7 [(5, .int u54), (4, .int u55), (3, .int u56), (2, .int v50), (1, .int r29), (0, .ref h0)] := hl
          refine lv_iload hx hb dX10_line_199 (lv_at hl 0 rfl) ?_
          refine lv_aload_n hx hb dX10_line_201 rfl (lv_at hl 5 rfl) ?_
          refine get_f (D := D) (ci := 10) (v := .ref h_s) (C := RX10) (T := TX10) (N := 67) hx hb hw inAX10 hown hK hP 4 rfl rfl 6 (by decide) (hw _ q_1267) (fun _ h9 => h9) n28 dX10_line_202 ?_
          refine lv_bipush (v := 6) hx hb dX10_line_205 (by decide) ?_
          refine iald_n hx hb hK hP 5 0 rfl rfl 6 rfl (Nat.le_of_ble_eq_true rfl) (Nat.le_of_ble_eq_true rfl) rfl dX10_line_207 ?_
          refine lv_ci (y := v33) ev33.symm ?_
          refine lv_icmp_ge (tgt := 280) hx hb dX10_line_208 (by decide) (fun c62 => ?_) (fun c62 => ?_)
          · have dc62 : v33.toInt ≤ u54.toInt := le_i (a := v33.toInt) (b := u54.toInt) rfl rfl c62
            refine lv_aload_n hx hb dX10_line_280 rfl (lv_at hl 5 rfl) ?_
            refine lv_aload_n hx hb dX10_line_281 rfl (lv_at hl 5 rfl) ?_
            refine get_f (D := D) (ci := 10) (v := .ref h_s) (C := RX10) (T := TX10) (N := 67) hx hb hw inAX10 hown hK hP 4 rfl rfl 6 (by decide) (hw _ q_1267) (fun _ h9 => h9) n28 dX10_line_282 ?_
            refine lv_bipush (v := 6) hx hb dX10_line_285 (by decide) ?_
            refine iald_n hx hb hK hP 5 0 rfl rfl 6 rfl (Nat.le_of_ble_eq_true rfl) (Nat.le_of_ble_eq_true rfl) rfl dX10_line_287 ?_
            refine lv_ci (y := v33) ev33.symm ?_
            refine put_f (D := D) (ci := 10) (v := .int v33) (ty := .int) (C := RX10) (T := TX10) (N := 67) hx hb hw inAX10 tyX10 tyX10_ok nmX10 hown hK hP hD hS 4 rfl rfl 56 (by decide) (hw _ q_1317) (fun _ h9 => h9) rfl (by decide +kernel) rfl rfl dX10_line_288 (fun H locs F63 eF63 hP hD hS => ?_)
            have hP : va_P D vwCl [(h_downs, .inl (cI, 31330, .inl w36)), (h_lineHeights, .inl (cI, 12, .inl w57)), (h_paceAt, .inl (cI, 40, .inl g16)), (h_kindOf, .inl (cI, 4, .inl g17)), (h0, .inr (10, vL 67 F63)), (h_s, .inl (cI, 335, .inl f_s))] H := hP
            have hD : va_D A [(h_downs, .inl (cI, 31330, .inl w36)), (h_lineHeights, .inl (cI, 12, .inl w57)), (h_paceAt, .inl (cI, 40, .inl g16)), (h_kindOf, .inl (cI, 4, .inl g17)), (h0, .inr (10, vL 67 F63)), (h_s, .inl (cI, 335, .inl f_s))] := hD
            refine lv_aload_n hx hb dX10_line_291 rfl (lv_at hl 5 rfl) ?_
            refine lv_aload_n hx hb dX10_line_292 rfl (lv_at hl 5 rfl) ?_
            have n64 : F63 6 = .ref h_s := (get_ne eF63 (by decide) n28)
            refine get_f (D := D) (ci := 10) (v := .ref h_s) (C := RX10) (T := TX10) (N := 67) hx hb hw inAX10 hown hK hP 4 rfl rfl 6 (by decide) (hw _ q_1267) (fun _ h9 => h9) n64 dX10_line_293 ?_
            refine lv_sipush (v := 334) hx hb dX10_line_296 (by decide) ?_
            refine iald_n hx hb hK hP 5 0 rfl rfl 334 rfl (Nat.le_of_ble_eq_true rfl) (Nat.le_of_ble_eq_true rfl) rfl dX10_line_299 ?_
            refine lv_topi (fun v65 ev65 => ?_)
            refine put_f (D := D) (ci := 10) (v := .int v65) (ty := .int) (C := RX10) (T := TX10) (N := 67) hx hb hw inAX10 tyX10 tyX10_ok nmX10 hown hK hP hD hS 4 rfl rfl 55 (by decide) (hw _ q_1316) (fun _ h9 => h9) rfl (by decide +kernel) rfl rfl dX10_line_300 (fun H locs F66 eF66 hP hD hS => ?_)
            have hP : va_P D vwCl [(h_downs, .inl (cI, 31330, .inl w36)), (h_lineHeights, .inl (cI, 12, .inl w57)), (h_paceAt, .inl (cI, 40, .inl g16)), (h_kindOf, .inl (cI, 4, .inl g17)), (h0, .inr (10, vL 67 F66)), (h_s, .inl (cI, 335, .inl f_s))] H := hP
            have hD : va_D A [(h_downs, .inl (cI, 31330, .inl w36)), (h_lineHeights, .inl (cI, 12, .inl w57)), (h_paceAt, .inl (cI, 40, .inl g16)), (h_kindOf, .inl (cI, 4, .inl g17)), (h0, .inr (10, vL 67 F66)), (h_s, .inl (cI, 335, .inl f_s))] := hD
            refine lv_aload_n hx hb dX10_line_303 rfl (lv_at hl 5 rfl) ?_
            refine lv_iconst (v := 1) hx hb dX10_line_304 (by decide) ?_
            refine put_f (D := D) (ci := 10) (v := .int 1) (ty := .boolean) (C := RX10) (T := TX10) (N := 67) hx hb hw inAX10 tyX10 tyX10_ok nmX10 hown hK hP hD hS 4 rfl rfl 52 (by decide) (hw _ q_1313) (fun _ h9 => h9) rfl (by decide +kernel) rfl rfl dX10_line_305 (fun H locs F67 eF67 hP hD hS => ?_)
            have hP : va_P D vwCl [(h_downs, .inl (cI, 31330, .inl w36)), (h_lineHeights, .inl (cI, 12, .inl w57)), (h_paceAt, .inl (cI, 40, .inl g16)), (h_kindOf, .inl (cI, 4, .inl g17)), (h0, .inr (10, vL 67 F67)), (h_s, .inl (cI, 335, .inl f_s))] H := hP
            have hD : va_D A [(h_downs, .inl (cI, 31330, .inl w36)), (h_lineHeights, .inl (cI, 12, .inl w57)), (h_paceAt, .inl (cI, 40, .inl g16)), (h_kindOf, .inl (cI, 4, .inl g17)), (h0, .inr (10, vL 67 F67)), (h_s, .inl (cI, 335, .inl f_s))] := hD
            refine lv_aload_n hx hb dX10_line_308 rfl (lv_at hl 5 rfl) ?_
            have n68 : F63 27 = .int y11 := (get_ne eF63 (by decide) t19)
            have n69 : F66 27 = .int y11 := (get_ne eF66 (by decide) n68)
            have n70 : F67 27 = .int y11 := (get_ne eF67 (by decide) n69)
            refine get_f (D := D) (ci := 10) (v := .int y11) (C := RX10) (T := TX10) (N := 67) hx hb hw inAX10 hown hK hP 4 rfl rfl 27 (by decide) (hw _ q_1288) (fun _ h9 => h9) n70 dX10_line_309 ?_
            refine lv_iload_n hx hb dX10_line_312 rfl (lv_at hl 3 rfl) ?_
            refine lv_iadd hx hb dX10_line_313 ?_
            refine lv_topi (fun v71 ev71 => ?_)
            exact ret_i (v := v71) hx hb hr hlocks hS (hP.sub (ws' := [(h0, .inr (10, vL 67 F67)), (h_s, .inl (cI, 335, .inl f_s)), (h_paceAt, .inl (cI, 40, .inl g16)), (h_kindOf, .inl (cI, 4, .inl g17)), (h_downs, .inl (cI, 31330, .inl w36)), (h_lineHeights, .inl (cI, 12, .inl w57))]) [4, 5, 2, 3, 0, 1] rfl) (hD.sub (ws' := [(h0, .inr (10, vL 67 F67)), (h_s, .inl (cI, 335, .inl f_s)), (h_paceAt, .inl (cI, 40, .inl g16)), (h_kindOf, .inl (cI, 4, .inl g17)), (h_downs, .inl (cI, 31330, .inl w36)), (h_lineHeights, .inl (cI, 12, .inl w57))]) [4, 5, 2, 3, 0, 1] (by decide) rfl) dX10_line_314 rfl (Nat.le_of_ble_eq_true rfl) (Nat.le_of_ble_eq_true rfl) ⟨F67, y11, y12, y13, y14, y15, 1, v65, v33, g16, g17, w36, w57, (SAME.up eF67 (SAME.up eF66 (SAME.up eF63 (SAME.tr (SAME.up eF1 SAME.rf (by decide)) t18 (by decide)) (by decide)) (by decide)) (by decide)), (get_ne eF67 (by decide) (get_ne eF66 (by decide) (get_ne eF63 (by decide) (SAME.at t18 (by decide) (get_eq eF1))))), n70, (get_ne eF67 (by decide) (get_ne eF66 (by decide) (get_ne eF63 (by decide) t20))), (get_ne eF67 (by decide) (get_ne eF66 (by decide) (get_ne eF63 (by decide) t22))), t23, (get_ne eF67 (by decide) (get_ne eF66 (by decide) (get_ne eF63 (by decide) t24))), t25, (get_ne eF67 (by decide) (get_ne eF66 (by decide) (get_ne eF63 (by decide) t26))), (get_eq eF67), (show 0 ≤ (1 : Int32).toInt ∧ (1 : Int32).toInt ≤ 1 by decide), (get_ne eF67 (by decide) (get_eq eF66)), (get_ne eF67 (by decide) (get_ne eF66 (by decide) (get_eq eF63))), k34, i38, rfl⟩
          · have dc62 : u54.toInt < v33.toInt := nle_i (a := v33.toInt) (b := u54.toInt) rfl rfl c62
            have k72 : 0 ≤ u54.toInt ∧ u54.toInt ≤ 11 := ⟨i58.1, up_lt dc62 k34.2 (by decide)⟩
            have k73 : 1 ≤ v33.toInt ∧ v33.toInt ≤ 12 := ⟨lo_lt dc62 i58.1 (by decide), k34.2⟩
            refine lv_iconst (v := 0) hx hb dX10_line_211 (by decide) ?_
            refine lv_istore (lv' := [(6, .int 0), (5, .int u54), (4, .int u55), (3, .int u56), (2, .int v50), (1, .int r29), (0, .ref h0)]) hx hb dX10_line_212 hl (by decide) rfl (fun ls hl => ?_)
            refine mloop (α := (Int32)) (nL := 7) (D := D) (A := A) (H0 := s.heap) (fun a => (9 - a.toInt).toNat) (fun a => IR 0 9 a ∧ (EXD f_s w36 r29 u54 u55 u56 (a.toInt))) (fun a => [(h_downs, .inl (cI, 31330, .inl w36)), (h_lineHeights, .inl (cI, 12, .inl w57)), (h_paceAt, .inl (cI, 40, .inl g16)), (h_kindOf, .inl (cI, 4, .inl g17)), (h0, .inr (10, vL 67 F10)), (h_s, .inl (cI, 335, .inl f_s))]) (fun a => [(6, .int a), (5, .int u54), (4, .int u55), (3, .int u56), (2, .int v50), (1, .int r29), (0, .ref h0)]) (fun H locs ls => W p l e ({ frames := 4, cells := 0, slots := 0, locals := 94 } : Room) s m [.ref h0].toArray below meth c H locs 0 0 (MQ below (va_Qi (fun (r : Int32) (u : va_W) => ∃ (Gh : Nat → Value) (y_lineTime : Int32) (y_linePace : Int32) (y_inside : Int32) (y_late : Int32) (y_seed : Int32) (y_hasLine : Int32) (y_lineId : Int32) (y_lineBends : Int32) (g_paceAt : Nat → Int32) (g_kindOf : Nat → Int32) (g_downs : Nat → Int32) (g_lineHeights : Nat → Int32), SAME [0, 27, 28, 29, 30, 31, 52, 55, 56] Fh Gh ∧ Gh 0 = .int 0 ∧ Gh 27 = .int y_lineTime ∧ Gh 28 = .int y_linePace ∧ Gh 29 = .int y_inside ∧ IR 0 15 y_inside ∧ Gh 30 = .int y_late ∧ IR 0 15 y_late ∧ Gh 31 = .int y_seed ∧ Gh 52 = .int y_hasLine ∧ IR 0 1 y_hasLine ∧ Gh 55 = .int y_lineId ∧ Gh 56 = .int y_lineBends ∧ IR 0 12 y_lineBends ∧ SG 0 31329 0 100000000 g_downs ∧ u = [(h0, .inr (10, vL 67 Gh)), (h_s, .inl (cI, 335, .inl f_s)), (h_paceAt, .inl (cI, 40, .inl g_paceAt)), (h_kindOf, .inl (cI, 4, .inl g_kindOf)), (h_downs, .inl (cI, 31330, .inl g_downs)), (h_lineHeights, .inl (cI, 12, .inl g_lineHeights))]) (PO D A) A) [.ref h0].toArray s 0 0 A) (F0 m 214 ls [])) ?_ (0) ⟨(show 0 ≤ (0 : Int32).toInt ∧ (0 : Int32).toInt ≤ 9 by decide), (show EXD f_s w36 r29 u54 u55 u56 (0) from (EXD.of (DBL.fin i39 (by omega)) ⟨by omega, by omega⟩ ⟨by omega, by omega⟩ ⟨by omega, by omega⟩ i61))⟩ _ _ _ hP hD hS hl
            rintro u74 ⟨i75, i76⟩ ih_214 H locs ls hP hD hS hl
            have i75 : 0 ≤ u74.toInt ∧ u74.toInt ≤ 9 := i75
            have i76 : EXD f_s w36 r29 u54 u55 u56 (u74.toInt) := i76
            have hP : va_P D vwCl [(h_downs, .inl (cI, 31330, .inl w36)), (h_lineHeights, .inl (cI, 12, .inl w57)), (h_paceAt, .inl (cI, 40, .inl g16)), (h_kindOf, .inl (cI, 4, .inl g17)), (h0, .inr (10, vL 67 F10)), (h_s, .inl (cI, 335, .inl f_s))] H := hP
            have hD : va_D A [(h_downs, .inl (cI, 31330, .inl w36)), (h_lineHeights, .inl (cI, 12, .inl w57)), (h_paceAt, .inl (cI, 40, .inl g16)), (h_kindOf, .inl (cI, 4, .inl g17)), (h0, .inr (10, vL 67 F10)), (h_s, .inl (cI, 335, .inl f_s))] := hD
            have hl : lv_has ls 7 [(6, .int u74), (5, .int u54), (4, .int u55), (3, .int u56), (2, .int v50), (1, .int r29), (0, .ref h0)] := hl
            refine lv_aload_n hx hb dX10_line_214 rfl (lv_at hl 6 rfl) ?_
            refine lv_iload hx hb dX10_line_215 (lv_at hl 1 rfl) ?_
            refine lv_iload hx hb dX10_line_217 (lv_at hl 2 rfl) ?_
            refine lv_iload_n hx hb dX10_line_219 rfl (lv_at hl 3 rfl) ?_
            refine lv_iload_n hx hb dX10_line_220 rfl (lv_at hl 5 rfl) ?_
            refine lv_iload hx hb dX10_line_221 (lv_at hl 0 rfl) ?_
            refine call_Vi (wr := [(h_lineHeights, .inl (cI, 12, .inl w57)), (h_paceAt, .inl (cI, 40, .inl g16)), (h_kindOf, .inl (cI, 4, .inl g17))]) (As := [.int u54, .int u55, .int u56, .int r29, .int u74]) (rest := []) hx hb hml hown hw (m_X10_downBy l D cI cJ cB cP cM cZ h0 h_s h_downs F10 f_s w36 u54 u55 u56 r29 u74 bs _ n28 n43 s_s_K0 s_s_US s_s_0 s_s_105 s_s_114 s_s_130 s_s_139 s_s_153 s_s_44 s_s_5 s_s_6 s_s_7 i38 k72 i59 i60 i75) wV_X10_410_X10_downBy dX10_line_223 hK hP hD hS hA [4, 5, 0] [1, 2, 3] rfl rfl (by decide) (by decide) (by decide) 0 10 rfl rfl GG.fb hG.at hl.1 rfl (Nat.le_of_ble_eq_true rfl) ⟨(Nat.le_of_ble_eq_true rfl), (Nat.le_of_ble_eq_true rfl)⟩ ⟨(Nat.le_of_ble_eq_true rfl), (Nat.le_of_ble_eq_true rfl)⟩ (fun r77 u H locs hp hP hD hS => ?_)
            obtain ⟨t78, t79, rfl⟩ := hp
            have hP : va_P D vwCl [(h_lineHeights, .inl (cI, 12, .inl w57)), (h_paceAt, .inl (cI, 40, .inl g16)), (h_kindOf, .inl (cI, 4, .inl g17)), (h0, .inr (10, vL 67 F10)), (h_s, .inl (cI, 335, .inl f_s)), (h_downs, .inl (cI, 31330, .inl w36))] H := hP
            have hD : va_D A [(h_lineHeights, .inl (cI, 12, .inl w57)), (h_paceAt, .inl (cI, 40, .inl g16)), (h_kindOf, .inl (cI, 4, .inl g17)), (h0, .inr (10, vL 67 F10)), (h_s, .inl (cI, 335, .inl f_s)), (h_downs, .inl (cI, 31330, .inl w36))] := hD
            refine W.widen (k := 0) (n := 0) (Nat.le_of_ble_eq_true rfl) (Nat.le_of_ble_eq_true rfl) ?_
            refine lv_aload_n hx hb dX10_line_226 rfl (lv_at hl 6 rfl) ?_
            refine get_f (D := D) (ci := 10) (v := .ref h_downs) (C := RX10) (T := TX10) (N := 67) hx hb hw inAX10 hown hK hP 3 rfl rfl 53 (by decide) (hw _ q_1314) (fun _ h9 => h9) n43 dX10_line_227 ?_
            refine lv_iload hx hb dX10_line_230 (lv_at hl 1 rfl) ?_
            refine lv_iload hx hb dX10_line_232 (lv_at hl 2 rfl) ?_
            refine lv_iload_n hx hb dX10_line_234 rfl (lv_at hl 3 rfl) ?_
            refine call_Si (wr := [(h_lineHeights, .inl (cI, 12, .inl w57)), (h_paceAt, .inl (cI, 40, .inl g16)), (h_kindOf, .inl (cI, 4, .inl g17)), (h0, .inr (10, vL 67 F10)), (h_s, .inl (cI, 335, .inl f_s)), (h_downs, .inl (cI, 31330, .inl w36))]) (As := [.int u54, .int u55, .int u56]) (rest := [.ref h_downs, .int r77]) hx hb hml hown hw (m_X10_place l D cI cJ cB cP cM cZ u54 u55 u56 _ (ir_wk k72 (by decide) (by decide)) i59 i60) wS_X10_407_X10_place dX10_line_235 hP hD hS hA [] [0, 1, 2, 3, 4, 5] rfl rfl (by decide) (by decide) (by decide) GG.fb hG.at hl.1 rfl (Nat.le_of_ble_eq_true rfl) ⟨(Nat.le_of_ble_eq_true rfl), (Nat.le_of_ble_eq_true rfl)⟩ ⟨(Nat.le_of_ble_eq_true rfl), (Nat.le_of_ble_eq_true rfl)⟩ (fun r81 u H locs hp hP hD hS => ?_)
            obtain ⟨t82, t83, t84, rfl⟩ := hp
            have hP : va_P D vwCl [(h_lineHeights, .inl (cI, 12, .inl w57)), (h_paceAt, .inl (cI, 40, .inl g16)), (h_kindOf, .inl (cI, 4, .inl g17)), (h0, .inr (10, vL 67 F10)), (h_s, .inl (cI, 335, .inl f_s)), (h_downs, .inl (cI, 31330, .inl w36))] H := hP
            have hD : va_D A [(h_lineHeights, .inl (cI, 12, .inl w57)), (h_paceAt, .inl (cI, 40, .inl g16)), (h_kindOf, .inl (cI, 4, .inl g17)), (h0, .inr (10, vL 67 F10)), (h_s, .inl (cI, 335, .inl f_s)), (h_downs, .inl (cI, 31330, .inl w36))] := hD
            refine W.widen (k := 0) (n := 0) (Nat.le_of_ble_eq_true rfl) (Nat.le_of_ble_eq_true rfl) ?_
            have k86 : 0 ≤ r81.toInt ∧ r81.toInt ≤ 28919 := ⟨by omega, by omega⟩
            refine va_iald hx hb hK hP 5 0 rfl rfl (ix_k k86 (by decide) (by decide)) dX10_line_238 ?_
            refine lv_topi (fun v87 ev87 => ?_)
            have k88 : 0 ≤ v87.toInt ∧ v87.toInt ≤ 100000000 := by rw [ev87]; exact i38.at _ (Int.le_trans (by decide) k86.1) (Int.le_trans k86.2 (by decide))
            refine lv_icmp_eq (tgt := 248) hx hb dX10_line_239 (by decide) (fun c89 => ?_) (fun c89 => ?_)
            · have dc89 : r77.toInt = v87.toInt := eq_i (a := r77.toInt) (b := v87.toInt) rfl rfl c89
              have k90 : 0 ≤ r77.toInt ∧ r77.toInt ≤ 100000000 := ⟨t78.1, Int.le_trans (Int.le_of_eq dc89) k88.2⟩
              refine lv_aload_n hx hb dX10_line_248 rfl (lv_at hl 6 rfl) ?_
              have n91 : F1 54 = .ref h_lineHeights := (get_ne eF1 (by decide) e_lineHeights)
              have n92 : F10 54 = .ref h_lineHeights := (SAME.at t18 (by decide) n91)
              refine get_f (D := D) (ci := 10) (v := .ref h_lineHeights) (C := RX10) (T := TX10) (N := 67) hx hb hw inAX10 hown hK hP 3 rfl rfl 54 (by decide) (hw _ q_1315) (fun _ h9 => h9) n92 dX10_line_249 ?_
              refine lv_iload hx hb dX10_line_252 (lv_at hl 1 rfl) ?_
              refine lv_iload hx hb dX10_line_254 (lv_at hl 0 rfl) ?_
              obtain ⟨g93, eg93⟩ : ∃ z : Nat → Int32, upd w57 u54.toNatClampNeg u74 = z := ⟨_, rfl⟩
              refine iast_g hx hb hK hP hD hS 0 0 rfl rfl (ix_k k72 (by decide) (by decide)) eg93 dX10_line_256 (fun H locs hP hD hS => ?_)
              have hP : va_P D vwCl [(h_lineHeights, .inl (cI, 12, .inl g93)), (h_paceAt, .inl (cI, 40, .inl g16)), (h_kindOf, .inl (cI, 4, .inl g17)), (h0, .inr (10, vL 67 F10)), (h_s, .inl (cI, 335, .inl f_s)), (h_downs, .inl (cI, 31330, .inl w36))] H := hP
              have hD : va_D A [(h_lineHeights, .inl (cI, 12, .inl g93)), (h_paceAt, .inl (cI, 40, .inl g16)), (h_kindOf, .inl (cI, 4, .inl g17)), (h0, .inr (10, vL 67 F10)), (h_s, .inl (cI, 335, .inl f_s)), (h_downs, .inl (cI, 31330, .inl w36))] := hD
              refine lv_aload_n hx hb dX10_line_257 rfl (lv_at hl 6 rfl) ?_
              refine lv_iload hx hb dX10_line_258 (lv_at hl 1 rfl) ?_
              refine lv_iload_n hx hb dX10_line_260 rfl (lv_at hl 3 rfl) ?_
              refine lv_iload_n hx hb dX10_line_261 rfl (lv_at hl 5 rfl) ?_
              refine lv_iload hx hb dX10_line_262 (lv_at hl 2 rfl) ?_
              refine lv_iload hx hb dX10_line_264 (lv_at hl 0 rfl) ?_
              refine call_Vi (wr := [(h_lineHeights, .inl (cI, 12, .inl g93)), (h_paceAt, .inl (cI, 40, .inl g16)), (h_kindOf, .inl (cI, 4, .inl g17)), (h_downs, .inl (cI, 31330, .inl w36))]) (As := [.int u54, .int u56, .int r29, .int u55, .int u74]) (rest := []) hx hb hml hown hw (m_X10_inBend l D cI cJ cB cP cM cZ h0 h_s F10 f_s u54 u56 r29 u55 u74 bs _ n28 s_s_K0 s_s_US s_s_0 s_s_105 s_s_114 s_s_130 s_s_139 s_s_153 s_s_44 s_s_5 s_s_6 s_s_7 k72) wV_X10_355_X10_inBend dX10_line_266 hK hP hD hS hA [3, 4] [0, 1, 2, 5] rfl rfl (by decide) (by decide) (by decide) 0 10 rfl rfl GG.fb hG.at hl.1 rfl (Nat.le_of_ble_eq_true rfl) ⟨(Nat.le_of_ble_eq_true rfl), (Nat.le_of_ble_eq_true rfl)⟩ ⟨(Nat.le_of_ble_eq_true rfl), (Nat.le_of_ble_eq_true rfl)⟩ (fun r94 u H locs hp hP hD hS => ?_)
              obtain ⟨t95, t96, rfl⟩ := hp
              have hP : va_P D vwCl [(h_lineHeights, .inl (cI, 12, .inl g93)), (h_paceAt, .inl (cI, 40, .inl g16)), (h_kindOf, .inl (cI, 4, .inl g17)), (h_downs, .inl (cI, 31330, .inl w36)), (h0, .inr (10, vL 67 F10)), (h_s, .inl (cI, 335, .inl f_s))] H := hP
              have hD : va_D A [(h_lineHeights, .inl (cI, 12, .inl g93)), (h_paceAt, .inl (cI, 40, .inl g16)), (h_kindOf, .inl (cI, 4, .inl g17)), (h_downs, .inl (cI, 31330, .inl w36)), (h0, .inr (10, vL 67 F10)), (h_s, .inl (cI, 335, .inl f_s))] := hD
              refine W.widen (k := 0) (n := 0) (Nat.le_of_ble_eq_true rfl) (Nat.le_of_ble_eq_true rfl) ?_
              have h98 := line_nx (hv := u74) ⟨by omega, by omega⟩ ⟨by omega, by omega⟩ s_s_44 i38 t79 ev87 (by omega) (by omega) i61 t96
              refine lv_istore_n (lv' := [(3, .int r94), (6, .int u74), (5, .int u54), (4, .int u55), (2, .int v50), (1, .int r29), (0, .ref h0)]) hx hb dX10_line_269 rfl hl (by decide) rfl (fun ls hl => ?_)
              refine lv_iload hx hb dX10_line_270 (lv_at hl 1 rfl) ?_
              refine lv_istore (lv' := [(4, .int u74), (3, .int r94), (6, .int u74), (5, .int u54), (2, .int v50), (1, .int r29), (0, .ref h0)]) hx hb dX10_line_272 hl (by decide) rfl (fun ls hl => ?_)
              obtain ⟨v99, ev99⟩ : ∃ z : Int32, z = u54 + 1 := ⟨_, rfl⟩
              have bv99 : v99.toInt = u54.toInt + 1 := by rw [ev99]; exact add_k rfl rfl k72 ⟨Int.le_refl _, Int.le_refl _⟩ (by decide)
              have k100 : 1 ≤ v99.toInt ∧ v99.toInt ≤ 12 := add_r bv99 k72 ⟨Int.le_refl _, Int.le_refl _⟩ (by decide)
              refine lv_iinc (v := v99) (lv' := [(5, .int v99), (4, .int u74), (3, .int r94), (6, .int u74), (2, .int v50), (1, .int r29), (0, .ref h0)]) hx hb dX10_line_274 hl (k := 3) rfl (by rw [ev99]; rfl) (by decide) rfl (fun ls hl => ?_)
              refine lv_goto (tgt := 199) hx hb dX10_line_277 (by decide) ?_
              exact ih_199 (v99, u74, r94, g93) ⟨(ir_wk k100 (by decide) (by decide)), i75, t95, (show (w36 ((v99.toInt * 10 + u74.toInt) * 241 + r94.toInt - 10).toNat).toInt < 100000000 from (by rw [show ((v99.toInt * 10 + u74.toInt) * 241 + r94.toInt - 10).toNat = (((u54.toInt + 1) * 10 + u74.toInt) * 241 + r94.toInt - 10).toNat by omega]; exact h98))⟩ (by show (12 - v99.toInt).toNat < (12 - u54.toInt).toNat; omega) _ _ _ (hP.sub [3, 0, 1, 2, 4, 5] rfl) (hD.sub [3, 0, 1, 2, 4, 5] (by decide) rfl) hS (lv_sub hl [0, 1, 2, 4, 5, 6] rfl)
            · have dc89 : r77.toInt ≠ v87.toInt := ne_i (a := r77.toInt) (b := v87.toInt) rfl rfl c89
              have h101 := EXD.step i76 t79 rfl ev87 (by omega) (by omega) (rfl : u74.toInt + 1 = u74.toInt + 1)
              have dh101 := EXD.le h101
              obtain ⟨v102, ev102⟩ : ∃ z : Int32, z = u74 + 1 := ⟨_, rfl⟩
              have bv102 : v102.toInt = u74.toInt + 1 := by rw [ev102]; exact add_k rfl rfl i75 ⟨Int.le_refl _, Int.le_refl _⟩ (by decide)
              have k103 : 1 ≤ v102.toInt ∧ v102.toInt ≤ 10 := add_r bv102 i75 ⟨Int.le_refl _, Int.le_refl _⟩ (by decide)
              refine lv_iinc (v := v102) (lv' := [(6, .int v102), (5, .int u54), (4, .int u55), (3, .int u56), (2, .int v50), (1, .int r29), (0, .ref h0)]) hx hb dX10_line_242 hl (k := 0) rfl (by rw [ev102]; rfl) (by decide) rfl (fun ls hl => ?_)
              refine lv_goto (tgt := 214) hx hb dX10_line_245 (by decide) ?_
              exact ih_214 (v102) ⟨(show 0 ≤ v102.toInt ∧ v102.toInt ≤ 9 from ⟨by omega, by omega⟩), (show EXD f_s w36 r29 u54 u55 u56 (v102.toInt) from (by rw [show v102.toInt = u74.toInt + 1 by omega]; exact h101))⟩ (by show (9 - v102.toInt).toNat < (9 - u74.toInt).toNat; omega) _ _ _ (hP.sub [5, 0, 1, 2, 3, 4] rfl) (hD.sub [5, 0, 1, 2, 3, 4] (by decide) rfl) hS (lv_sub hl [0, 1, 2, 3, 4, 5, 6] rfl)
        · have dc52 : 100000000 ≤ v50.toInt := nlt_i (a := v50.toInt) (b := 100000000) rfl rfl c52
          have k104 : 100000000 ≤ v50.toInt ∧ v50.toInt ≤ 100000000 := ⟨Int.le_trans (Int.le_refl _) dc52, k51.2⟩
          refine lv_iconst (v := (-1)) hx hb dX10_line_186 (by decide) ?_
          exact ret_i (v := (-1)) hx hb hr hlocks hS (hP.sub (ws' := [(h0, .inr (10, vL 67 F10)), (h_s, .inl (cI, 335, .inl f_s)), (h_paceAt, .inl (cI, 40, .inl g16)), (h_kindOf, .inl (cI, 4, .inl g17)), (h_downs, .inl (cI, 31330, .inl w36)), (h_lineHeights, .inl (cI, 12, .inl f_lineHeights))]) [4, 5, 2, 3, 0, 1] rfl) (hD.sub (ws' := [(h0, .inr (10, vL 67 F10)), (h_s, .inl (cI, 335, .inl f_s)), (h_paceAt, .inl (cI, 40, .inl g16)), (h_kindOf, .inl (cI, 4, .inl g17)), (h_downs, .inl (cI, 31330, .inl w36)), (h_lineHeights, .inl (cI, 12, .inl f_lineHeights))]) [4, 5, 2, 3, 0, 1] (by decide) rfl) dX10_line_187 rfl (Nat.le_of_ble_eq_true rfl) (Nat.le_of_ble_eq_true rfl) ⟨F10, y11, y12, y13, y14, y15, x_hasLine, x_lineId, x_lineBends, g16, g17, w36, f_lineHeights, (SAME.tr (SAME.up eF1 SAME.rf (by decide)) t18 (by decide)), (SAME.at t18 (by decide) (get_eq eF1)), t19, t20, t22, t23, t24, t25, t26, (SAME.at t18 (by decide) (get_ne eF1 (by decide) e_hasLine)), i_x_hasLine, (SAME.at t18 (by decide) (get_ne eF1 (by decide) e_lineId)), (SAME.at t18 (by decide) (get_ne eF1 (by decide) e_lineBends)), i_x_lineBends, i38, rfl⟩
      · have dc40 : 0 ≤ u35.toInt := nlt_i (a := u35.toInt) (b := 0) rfl rfl c40
        have k105 : 0 ≤ u35.toInt ∧ u35.toInt ≤ 12 := ⟨Int.le_trans (Int.le_refl _) dc40, i37.2⟩
        refine lv_iconst (v := 0) hx hb dX10_line_47 (by decide) ?_
        refine lv_istore_n (lv' := [(3, .int 0), (2, .int u35), (1, .int r29), (0, .ref h0)]) hx hb dX10_line_48 rfl hl (by decide) rfl (fun ls hl => ?_)
        refine mloop (α := (Int32) × (Nat → Int32)) (nL := 7) (D := D) (A := A) (H0 := s.heap) (fun a => (10 - a.1.toInt).toNat) (fun a => IR 0 10 a.1 ∧ SG 0 31329 0 100000000 a.2 ∧ (DBL f_s a.2 r29 v33.toInt (u35.toInt) (a.1.toInt) 10)) (fun a => [(h_downs, .inl (cI, 31330, .inl a.2)), (h_lineHeights, .inl (cI, 12, .inl f_lineHeights)), (h_paceAt, .inl (cI, 40, .inl g16)), (h_kindOf, .inl (cI, 4, .inl g17)), (h0, .inr (10, vL 67 F10)), (h_s, .inl (cI, 335, .inl f_s))]) (fun a => [(3, .int a.1), (2, .int u35), (1, .int r29), (0, .ref h0)]) (fun H locs ls => W p l e ({ frames := 4, cells := 0, slots := 0, locals := 94 } : Room) s m [.ref h0].toArray below meth c H locs 0 0 (MQ below (va_Qi (fun (r : Int32) (u : va_W) => ∃ (Gh : Nat → Value) (y_lineTime : Int32) (y_linePace : Int32) (y_inside : Int32) (y_late : Int32) (y_seed : Int32) (y_hasLine : Int32) (y_lineId : Int32) (y_lineBends : Int32) (g_paceAt : Nat → Int32) (g_kindOf : Nat → Int32) (g_downs : Nat → Int32) (g_lineHeights : Nat → Int32), SAME [0, 27, 28, 29, 30, 31, 52, 55, 56] Fh Gh ∧ Gh 0 = .int 0 ∧ Gh 27 = .int y_lineTime ∧ Gh 28 = .int y_linePace ∧ Gh 29 = .int y_inside ∧ IR 0 15 y_inside ∧ Gh 30 = .int y_late ∧ IR 0 15 y_late ∧ Gh 31 = .int y_seed ∧ Gh 52 = .int y_hasLine ∧ IR 0 1 y_hasLine ∧ Gh 55 = .int y_lineId ∧ Gh 56 = .int y_lineBends ∧ IR 0 12 y_lineBends ∧ SG 0 31329 0 100000000 g_downs ∧ u = [(h0, .inr (10, vL 67 Gh)), (h_s, .inl (cI, 335, .inl f_s)), (h_paceAt, .inl (cI, 40, .inl g_paceAt)), (h_kindOf, .inl (cI, 4, .inl g_kindOf)), (h_downs, .inl (cI, 31330, .inl g_downs)), (h_lineHeights, .inl (cI, 12, .inl g_lineHeights))]) (PO D A) A) [.ref h0].toArray s 0 0 A) (F0 m 49 ls [])) ?_ (0, w36) ⟨(show 0 ≤ (0 : Int32).toInt ∧ (0 : Int32).toInt ≤ 10 by decide), i38, (show DBL f_s w36 r29 v33.toInt (u35.toInt) (0) 10 from i39)⟩ _ _ _ hP hD hS hl
        rintro ⟨u106, w107⟩ ⟨i108, i109, i110⟩ ih_49 H locs ls hP hD hS hl
        have i108 : 0 ≤ u106.toInt ∧ u106.toInt ≤ 10 := i108
        have i110 : DBL f_s w107 r29 v33.toInt (u35.toInt) (u106.toInt) 10 := i110
        have hP : va_P D vwCl [(h_downs, .inl (cI, 31330, .inl w107)), (h_lineHeights, .inl (cI, 12, .inl f_lineHeights)), (h_paceAt, .inl (cI, 40, .inl g16)), (h_kindOf, .inl (cI, 4, .inl g17)), (h0, .inr (10, vL 67 F10)), (h_s, .inl (cI, 335, .inl f_s))] H := hP
        have hD : va_D A [(h_downs, .inl (cI, 31330, .inl w107)), (h_lineHeights, .inl (cI, 12, .inl f_lineHeights)), (h_paceAt, .inl (cI, 40, .inl g16)), (h_kindOf, .inl (cI, 4, .inl g17)), (h0, .inr (10, vL 67 F10)), (h_s, .inl (cI, 335, .inl f_s))] := hD
        have hl : lv_has ls 7 [(3, .int u106), (2, .int u35), (1, .int r29), (0, .ref h0)] := hl
        refine lv_iload_n hx hb dX10_line_49 rfl (lv_at hl 0 rfl) ?_
        refine lv_bipush (v := 10) hx hb dX10_line_50 (by decide) ?_
        refine lv_icmp_ge (tgt := 158) hx hb dX10_line_52 (by decide) (fun c111 => ?_) (fun c111 => ?_)
        · have dc111 : 10 ≤ u106.toInt := le_i (a := 10) (b := u106.toInt) rfl rfl c111
          have k112 : 10 ≤ u106.toInt ∧ u106.toInt ≤ 10 := ⟨Int.le_trans (Int.le_refl _) dc111, i108.2⟩
          obtain ⟨v113, ev113⟩ : ∃ z : Int32, z = u35 + (-1) := ⟨_, rfl⟩
          have bv113 : v113.toInt = u35.toInt + (-1) := by rw [ev113]; exact add_k rfl rfl k105 ⟨Int.le_refl _, Int.le_refl _⟩ (by decide)
          have k114 : (-1) ≤ v113.toInt ∧ v113.toInt ≤ 11 := add_r bv113 k105 ⟨Int.le_refl _, Int.le_refl _⟩ (by decide)
          refine lv_iinc (v := v113) (lv' := [(2, .int v113), (3, .int u106), (1, .int r29), (0, .ref h0)]) hx hb dX10_line_158 hl (k := 1) rfl (by rw [ev113]; rfl) (by decide) rfl (fun ls hl => ?_)
          refine lv_goto (tgt := 43) hx hb dX10_line_161 (by decide) ?_
          exact ih (v113, w107) ⟨(ir_wk k114 (by decide) (by decide)), i109, (show DBL f_s w107 r29 v33.toInt (v113.toInt) 0 10 from (DBL.nb i110 (by omega) (by omega)))⟩ (by show (v113.toInt + 1).toNat < (u35.toInt + 1).toNat; omega) _ _ _ hP hD hS (lv_sub hl [0, 2, 3] rfl)
        · have dc111 : u106.toInt < 10 := nle_i (a := 10) (b := u106.toInt) rfl rfl c111
          have k115 : 0 ≤ u106.toInt ∧ u106.toInt ≤ 9 := ⟨i108.1, up_lt dc111 (Int.le_refl _) (by decide)⟩
          refine lv_bipush (v := 10) hx hb dX10_line_55 (by decide) ?_
          refine lv_istore (lv' := [(4, .int 10), (3, .int u106), (2, .int u35), (1, .int r29), (0, .ref h0)]) hx hb dX10_line_57 hl (by decide) rfl (fun ls hl => ?_)
          refine mloop (α := (Int32) × (Nat → Int32)) (nL := 7) (D := D) (A := A) (H0 := s.heap) (fun a => (251 - a.1.toInt).toNat) (fun a => IR 10 251 a.1 ∧ SG 0 31329 0 100000000 a.2 ∧ (DBL f_s a.2 r29 v33.toInt (u35.toInt) (u106.toInt) (a.1.toInt))) (fun a => [(h_downs, .inl (cI, 31330, .inl a.2)), (h_lineHeights, .inl (cI, 12, .inl f_lineHeights)), (h_paceAt, .inl (cI, 40, .inl g16)), (h_kindOf, .inl (cI, 4, .inl g17)), (h0, .inr (10, vL 67 F10)), (h_s, .inl (cI, 335, .inl f_s))]) (fun a => [(4, .int a.1), (3, .int u106), (2, .int u35), (1, .int r29), (0, .ref h0)]) (fun H locs ls => W p l e ({ frames := 4, cells := 0, slots := 0, locals := 94 } : Room) s m [.ref h0].toArray below meth c H locs 0 0 (MQ below (va_Qi (fun (r : Int32) (u : va_W) => ∃ (Gh : Nat → Value) (y_lineTime : Int32) (y_linePace : Int32) (y_inside : Int32) (y_late : Int32) (y_seed : Int32) (y_hasLine : Int32) (y_lineId : Int32) (y_lineBends : Int32) (g_paceAt : Nat → Int32) (g_kindOf : Nat → Int32) (g_downs : Nat → Int32) (g_lineHeights : Nat → Int32), SAME [0, 27, 28, 29, 30, 31, 52, 55, 56] Fh Gh ∧ Gh 0 = .int 0 ∧ Gh 27 = .int y_lineTime ∧ Gh 28 = .int y_linePace ∧ Gh 29 = .int y_inside ∧ IR 0 15 y_inside ∧ Gh 30 = .int y_late ∧ IR 0 15 y_late ∧ Gh 31 = .int y_seed ∧ Gh 52 = .int y_hasLine ∧ IR 0 1 y_hasLine ∧ Gh 55 = .int y_lineId ∧ Gh 56 = .int y_lineBends ∧ IR 0 12 y_lineBends ∧ SG 0 31329 0 100000000 g_downs ∧ u = [(h0, .inr (10, vL 67 Gh)), (h_s, .inl (cI, 335, .inl f_s)), (h_paceAt, .inl (cI, 40, .inl g_paceAt)), (h_kindOf, .inl (cI, 4, .inl g_kindOf)), (h_downs, .inl (cI, 31330, .inl g_downs)), (h_lineHeights, .inl (cI, 12, .inl g_lineHeights))]) (PO D A) A) [.ref h0].toArray s 0 0 A) (F0 m 59 ls [])) ?_ (10, w107) ⟨(show 10 ≤ (10 : Int32).toInt ∧ (10 : Int32).toInt ≤ 251 by decide), i109, (show DBL f_s w107 r29 v33.toInt (u35.toInt) (u106.toInt) (10) from i110)⟩ _ _ _ hP hD hS hl
          rintro ⟨u116, w117⟩ ⟨i118, i119, i120⟩ ih_59 H locs ls hP hD hS hl
          have i118 : 10 ≤ u116.toInt ∧ u116.toInt ≤ 251 := i118
          have i120 : DBL f_s w117 r29 v33.toInt (u35.toInt) (u106.toInt) (u116.toInt) := i120
          have hP : va_P D vwCl [(h_downs, .inl (cI, 31330, .inl w117)), (h_lineHeights, .inl (cI, 12, .inl f_lineHeights)), (h_paceAt, .inl (cI, 40, .inl g16)), (h_kindOf, .inl (cI, 4, .inl g17)), (h0, .inr (10, vL 67 F10)), (h_s, .inl (cI, 335, .inl f_s))] H := hP
          have hD : va_D A [(h_downs, .inl (cI, 31330, .inl w117)), (h_lineHeights, .inl (cI, 12, .inl f_lineHeights)), (h_paceAt, .inl (cI, 40, .inl g16)), (h_kindOf, .inl (cI, 4, .inl g17)), (h0, .inr (10, vL 67 F10)), (h_s, .inl (cI, 335, .inl f_s))] := hD
          have hl : lv_has ls 7 [(4, .int u116), (3, .int u106), (2, .int u35), (1, .int r29), (0, .ref h0)] := hl
          refine lv_iload hx hb dX10_line_59 (lv_at hl 0 rfl) ?_
          refine lv_sipush (v := 250) hx hb dX10_line_61 (by decide) ?_
          refine lv_icmp_gt (tgt := 152) hx hb dX10_line_64 (by decide) (fun c121 => ?_) (fun c121 => ?_)
          · have dc121 : 250 < u116.toInt := lt_i (a := 250) (b := u116.toInt) rfl rfl c121
            have k122 : 251 ≤ u116.toInt ∧ u116.toInt ≤ 251 := ⟨lo_lt dc121 (Int.le_refl _) (by decide), i118.2⟩
            obtain ⟨v123, ev123⟩ : ∃ z : Int32, z = u106 + 1 := ⟨_, rfl⟩
            have bv123 : v123.toInt = u106.toInt + 1 := by rw [ev123]; exact add_k rfl rfl k115 ⟨Int.le_refl _, Int.le_refl _⟩ (by decide)
            have k124 : 1 ≤ v123.toInt ∧ v123.toInt ≤ 10 := add_r bv123 k115 ⟨Int.le_refl _, Int.le_refl _⟩ (by decide)
            refine lv_iinc (v := v123) (lv' := [(3, .int v123), (4, .int u116), (2, .int u35), (1, .int r29), (0, .ref h0)]) hx hb dX10_line_152 hl (k := 1) rfl (by rw [ev123]; rfl) (by decide) rfl (fun ls hl => ?_)
            refine lv_goto (tgt := 49) hx hb dX10_line_155 (by decide) ?_
            exact ih_49 (v123, w117) ⟨(ir_wk k124 (by decide) (by decide)), i119, (show DBL f_s w117 r29 v33.toInt (u35.toInt) (v123.toInt) 10 from (DBL.na i120 (by omega) (by omega)))⟩ (by show (10 - v123.toInt).toNat < (10 - u106.toInt).toNat; omega) _ _ _ hP hD hS (lv_sub hl [0, 2, 3, 4] rfl)
          · have dc121 : u116.toInt ≤ 250 := nlt_i (a := 250) (b := u116.toInt) rfl rfl c121
            have k125 : 10 ≤ u116.toInt ∧ u116.toInt ≤ 250 := ⟨i118.1, Int.le_trans dc121 (Int.le_refl _)⟩
            refine lv_iload_n hx hb dX10_line_67 rfl (lv_at hl 2 rfl) ?_
            refine lv_aload_n hx hb dX10_line_68 rfl (lv_at hl 4 rfl) ?_
            refine get_f (D := D) (ci := 10) (v := .ref h_s) (C := RX10) (T := TX10) (N := 67) hx hb hw inAX10 hown hK hP 4 rfl rfl 6 (by decide) (hw _ q_1267) (fun _ h9 => h9) n28 dX10_line_69 ?_
            refine lv_bipush (v := 6) hx hb dX10_line_72 (by decide) ?_
            refine iald_n hx hb hK hP 5 0 rfl rfl 6 rfl (Nat.le_of_ble_eq_true rfl) (Nat.le_of_ble_eq_true rfl) rfl dX10_line_74 ?_
            refine lv_ci (y := v33) ev33.symm ?_
            refine lv_icmp_ne (tgt := 82) hx hb dX10_line_75 (by decide) (fun c126 => ?_) (fun c126 => ?_)
            · have dc126 : u35.toInt ≠ v33.toInt := ne_i (a := u35.toInt) (b := v33.toInt) rfl rfl c126
              refine lv_ldcw hx hb hown (hw _ q_1701) dX10_line_82 ?_
              refine lv_istore (lv' := [(5, .int 100000000), (4, .int u116), (3, .int u106), (2, .int u35), (1, .int r29), (0, .ref h0)]) hx hb dX10_line_85 hl (by decide) rfl (fun ls hl => ?_)
              refine lv_iconst (v := 0) hx hb dX10_line_87 (by decide) ?_
              refine lv_istore (lv' := [(6, .int 0), (5, .int 100000000), (4, .int u116), (3, .int u106), (2, .int u35), (1, .int r29), (0, .ref h0)]) hx hb dX10_line_88 hl (by decide) rfl (fun ls hl => ?_)
              refine mloop (α := (Int32) × (Int32)) (nL := 7) (D := D) (A := A) (H0 := s.heap) (fun a => (10 - a.1.toInt).toNat) (fun a => IR 0 10 a.1 ∧ IR 0 100000000 a.2 ∧ (VD f_s w117 r29 v33.toInt u35 u106 u116 a.2 (a.1.toInt))) (fun a => [(h_downs, .inl (cI, 31330, .inl w117)), (h_lineHeights, .inl (cI, 12, .inl f_lineHeights)), (h_paceAt, .inl (cI, 40, .inl g16)), (h_kindOf, .inl (cI, 4, .inl g17)), (h0, .inr (10, vL 67 F10)), (h_s, .inl (cI, 335, .inl f_s))]) (fun a => [(6, .int a.1), (5, .int a.2), (4, .int u116), (3, .int u106), (2, .int u35), (1, .int r29), (0, .ref h0)]) (fun H locs ls => W p l e ({ frames := 4, cells := 0, slots := 0, locals := 94 } : Room) s m [.ref h0].toArray below meth c H locs 0 0 (MQ below (va_Qi (fun (r : Int32) (u : va_W) => ∃ (Gh : Nat → Value) (y_lineTime : Int32) (y_linePace : Int32) (y_inside : Int32) (y_late : Int32) (y_seed : Int32) (y_hasLine : Int32) (y_lineId : Int32) (y_lineBends : Int32) (g_paceAt : Nat → Int32) (g_kindOf : Nat → Int32) (g_downs : Nat → Int32) (g_lineHeights : Nat → Int32), SAME [0, 27, 28, 29, 30, 31, 52, 55, 56] Fh Gh ∧ Gh 0 = .int 0 ∧ Gh 27 = .int y_lineTime ∧ Gh 28 = .int y_linePace ∧ Gh 29 = .int y_inside ∧ IR 0 15 y_inside ∧ Gh 30 = .int y_late ∧ IR 0 15 y_late ∧ Gh 31 = .int y_seed ∧ Gh 52 = .int y_hasLine ∧ IR 0 1 y_hasLine ∧ Gh 55 = .int y_lineId ∧ Gh 56 = .int y_lineBends ∧ IR 0 12 y_lineBends ∧ SG 0 31329 0 100000000 g_downs ∧ u = [(h0, .inr (10, vL 67 Gh)), (h_s, .inl (cI, 335, .inl f_s)), (h_paceAt, .inl (cI, 40, .inl g_paceAt)), (h_kindOf, .inl (cI, 4, .inl g_kindOf)), (h_downs, .inl (cI, 31330, .inl g_downs)), (h_lineHeights, .inl (cI, 12, .inl g_lineHeights))]) (PO D A) A) [.ref h0].toArray s 0 0 A) (F0 m 90 ls [])) ?_ (0, 100000000) ⟨(show 0 ≤ (0 : Int32).toInt ∧ (0 : Int32).toInt ≤ 10 by decide), (show 0 ≤ (100000000 : Int32).toInt ∧ (100000000 : Int32).toInt ≤ 100000000 by decide), (show VD f_s w117 r29 v33.toInt u35 u106 u116 (100000000 : Int32) (0) from (by intro q; first | exact Or.inl (by decide) | (exfalso; omega)))⟩ _ _ _ hP hD hS hl
              rintro ⟨u127, u128⟩ ⟨i129, i130, i131⟩ ih_90 H locs ls hP hD hS hl
              have i129 : 0 ≤ u127.toInt ∧ u127.toInt ≤ 10 := i129
              have i130 : 0 ≤ u128.toInt ∧ u128.toInt ≤ 100000000 := i130
              have i131 : VD f_s w117 r29 v33.toInt u35 u106 u116 u128 (u127.toInt) := i131
              have hP : va_P D vwCl [(h_downs, .inl (cI, 31330, .inl w117)), (h_lineHeights, .inl (cI, 12, .inl f_lineHeights)), (h_paceAt, .inl (cI, 40, .inl g16)), (h_kindOf, .inl (cI, 4, .inl g17)), (h0, .inr (10, vL 67 F10)), (h_s, .inl (cI, 335, .inl f_s))] H := hP
              have hD : va_D A [(h_downs, .inl (cI, 31330, .inl w117)), (h_lineHeights, .inl (cI, 12, .inl f_lineHeights)), (h_paceAt, .inl (cI, 40, .inl g16)), (h_kindOf, .inl (cI, 4, .inl g17)), (h0, .inr (10, vL 67 F10)), (h_s, .inl (cI, 335, .inl f_s))] := hD
              have hl : lv_has ls 7 [(6, .int u127), (5, .int u128), (4, .int u116), (3, .int u106), (2, .int u35), (1, .int r29), (0, .ref h0)] := hl
              refine lv_iload_n hx hb dX10_line_90 rfl (lv_at hl 4 rfl) ?_
              refine lv_aload_n hx hb dX10_line_91 rfl (lv_at hl 6 rfl) ?_
              refine get_f (D := D) (ci := 10) (v := .ref h_s) (C := RX10) (T := TX10) (N := 67) hx hb hw inAX10 hown hK hP 4 rfl rfl 6 (by decide) (hw _ q_1267) (fun _ h9 => h9) n28 dX10_line_92 ?_
              refine lv_bipush (v := 6) hx hb dX10_line_95 (by decide) ?_
              refine iald_n hx hb hK hP 5 0 rfl rfl 6 rfl (Nat.le_of_ble_eq_true rfl) (Nat.le_of_ble_eq_true rfl) rfl dX10_line_97 ?_
              refine lv_ci (y := v33) ev33.symm ?_
              refine lv_icmp_ge (tgt := 132) hx hb dX10_line_98 (by decide) (fun c132 => ?_) (fun c132 => ?_)
              · have dc132 : v33.toInt ≤ u35.toInt := le_i (a := v33.toInt) (b := u35.toInt) rfl rfl c132
                refine lv_aload_n hx hb dX10_line_132 rfl (lv_at hl 6 rfl) ?_
                have n133 : F1 53 = .ref h_downs := (get_ne eF1 (by decide) e_downs)
                have n134 : F10 53 = .ref h_downs := (SAME.at t18 (by decide) n133)
                refine get_f (D := D) (ci := 10) (v := .ref h_downs) (C := RX10) (T := TX10) (N := 67) hx hb hw inAX10 hown hK hP 4 rfl rfl 53 (by decide) (hw _ q_1314) (fun _ h9 => h9) n134 dX10_line_133 ?_
                refine lv_iload_n hx hb dX10_line_136 rfl (lv_at hl 4 rfl) ?_
                refine lv_iload_n hx hb dX10_line_137 rfl (lv_at hl 3 rfl) ?_
                refine lv_iload hx hb dX10_line_138 (lv_at hl 2 rfl) ?_
                refine call_Si (wr := [(h_downs, .inl (cI, 31330, .inl w117)), (h_lineHeights, .inl (cI, 12, .inl f_lineHeights)), (h_paceAt, .inl (cI, 40, .inl g16)), (h_kindOf, .inl (cI, 4, .inl g17)), (h0, .inr (10, vL 67 F10)), (h_s, .inl (cI, 335, .inl f_s))]) (As := [.int u35, .int u106, .int u116]) (rest := [.ref h_downs]) hx hb hml hown hw (m_X10_place l D cI cJ cB cP cM cZ u35 u106 u116 _ k105 k115 k125) wS_X10_407_X10_place dX10_line_140 hP hD hS hA [] [0, 1, 2, 3, 4, 5] rfl rfl (by decide) (by decide) (by decide) GG.fb hG.at hl.1 rfl (Nat.le_of_ble_eq_true rfl) ⟨(Nat.le_of_ble_eq_true rfl), (Nat.le_of_ble_eq_true rfl)⟩ ⟨(Nat.le_of_ble_eq_true rfl), (Nat.le_of_ble_eq_true rfl)⟩ (fun r135 u H locs hp hP hD hS => ?_)
                obtain ⟨t136, t137, t138, rfl⟩ := hp
                have hP : va_P D vwCl [(h_downs, .inl (cI, 31330, .inl w117)), (h_lineHeights, .inl (cI, 12, .inl f_lineHeights)), (h_paceAt, .inl (cI, 40, .inl g16)), (h_kindOf, .inl (cI, 4, .inl g17)), (h0, .inr (10, vL 67 F10)), (h_s, .inl (cI, 335, .inl f_s))] H := hP
                have hD : va_D A [(h_downs, .inl (cI, 31330, .inl w117)), (h_lineHeights, .inl (cI, 12, .inl f_lineHeights)), (h_paceAt, .inl (cI, 40, .inl g16)), (h_kindOf, .inl (cI, 4, .inl g17)), (h0, .inr (10, vL 67 F10)), (h_s, .inl (cI, 335, .inl f_s))] := hD
                refine W.widen (k := 0) (n := 0) (Nat.le_of_ble_eq_true rfl) (Nat.le_of_ble_eq_true rfl) ?_
                refine lv_iload hx hb dX10_line_143 (lv_at hl 1 rfl) ?_
                obtain ⟨g140, eg140⟩ : ∃ z : Nat → Int32, upd w117 r135.toNatClampNeg u128 = z := ⟨_, rfl⟩
                have r141 : SG 0 31329 0 100000000 g140 := by rw [← eg140]; exact i119.up (Int.le_trans (by decide) t136.1) (Or.inr (Or.inr (ir_wk i130 (by decide) (by decide))))
                refine iast_g hx hb hK hP hD hS 0 0 rfl rfl (ix_k t136 (by decide) (by decide)) eg140 dX10_line_145 (fun H locs hP hD hS => ?_)
                have hP : va_P D vwCl [(h_downs, .inl (cI, 31330, .inl g140)), (h_lineHeights, .inl (cI, 12, .inl f_lineHeights)), (h_paceAt, .inl (cI, 40, .inl g16)), (h_kindOf, .inl (cI, 4, .inl g17)), (h0, .inr (10, vL 67 F10)), (h_s, .inl (cI, 335, .inl f_s))] H := hP
                have hD : va_D A [(h_downs, .inl (cI, 31330, .inl g140)), (h_lineHeights, .inl (cI, 12, .inl f_lineHeights)), (h_paceAt, .inl (cI, 40, .inl g16)), (h_kindOf, .inl (cI, 4, .inl g17)), (h0, .inr (10, vL 67 F10)), (h_s, .inl (cI, 335, .inl f_s))] := hD
                obtain ⟨v142, ev142⟩ : ∃ z : Int32, z = u116 + 1 := ⟨_, rfl⟩
                have bv142 : v142.toInt = u116.toInt + 1 := by rw [ev142]; exact add_k rfl rfl k125 ⟨Int.le_refl _, Int.le_refl _⟩ (by decide)
                have k143 : 11 ≤ v142.toInt ∧ v142.toInt ≤ 251 := add_r bv142 k125 ⟨Int.le_refl _, Int.le_refl _⟩ (by decide)
                refine lv_iinc (v := v142) (lv' := [(4, .int v142), (6, .int u127), (5, .int u128), (3, .int u106), (2, .int u35), (1, .int r29), (0, .ref h0)]) hx hb dX10_line_146 hl (k := 2) rfl (by rw [ev142]; rfl) (by decide) rfl (fun ls hl => ?_)
                refine lv_goto (tgt := 59) hx hb dX10_line_149 (by decide) ?_
                exact ih_59 (v142, g140) ⟨(ir_wk k143 (by decide) (by decide)), r141, (show DBL f_s g140 r29 v33.toInt (u35.toInt) (u106.toInt) (v142.toInt) from (DBL.step i120 eg140 (bv := u35) (av := u106) (pv := u116) rfl rfl rfl (by omega) ⟨by omega, by omega⟩ (by omega) ⟨by omega, by omega⟩ ⟨by omega, by omega⟩ i131 (by omega) (by omega)))⟩ (by show (251 - v142.toInt).toNat < (251 - u116.toInt).toNat; omega) _ _ _ hP hD hS (lv_sub hl [0, 3, 4, 5, 6] rfl)
              · have dc132 : u35.toInt < v33.toInt := nle_i (a := v33.toInt) (b := u35.toInt) rfl rfl c132
                have k144 : 0 ≤ u35.toInt ∧ u35.toInt ≤ 11 := ⟨k105.1, up_lt dc132 k34.2 (by decide)⟩
                have k145 : 1 ≤ v33.toInt ∧ v33.toInt ≤ 12 := ⟨lo_lt dc132 k105.1 (by decide), k34.2⟩
                refine lv_iload hx hb dX10_line_101 (lv_at hl 0 rfl) ?_
                refine lv_bipush (v := 10) hx hb dX10_line_103 (by decide) ?_
                refine lv_icmp_ge (tgt := 132) hx hb dX10_line_105 (by decide) (fun c146 => ?_) (fun c146 => ?_)
                · have dc146 : 10 ≤ u127.toInt := le_i (a := 10) (b := u127.toInt) rfl rfl c146
                  have k147 : 10 ≤ u127.toInt ∧ u127.toInt ≤ 10 := ⟨Int.le_trans (Int.le_refl _) dc146, i129.2⟩
                  refine lv_aload_n hx hb dX10_line_132 rfl (lv_at hl 6 rfl) ?_
                  have n148 : F1 53 = .ref h_downs := (get_ne eF1 (by decide) e_downs)
                  have n149 : F10 53 = .ref h_downs := (SAME.at t18 (by decide) n148)
                  refine get_f (D := D) (ci := 10) (v := .ref h_downs) (C := RX10) (T := TX10) (N := 67) hx hb hw inAX10 hown hK hP 4 rfl rfl 53 (by decide) (hw _ q_1314) (fun _ h9 => h9) n149 dX10_line_133 ?_
                  refine lv_iload_n hx hb dX10_line_136 rfl (lv_at hl 4 rfl) ?_
                  refine lv_iload_n hx hb dX10_line_137 rfl (lv_at hl 3 rfl) ?_
                  refine lv_iload hx hb dX10_line_138 (lv_at hl 2 rfl) ?_
                  refine call_Si (wr := [(h_downs, .inl (cI, 31330, .inl w117)), (h_lineHeights, .inl (cI, 12, .inl f_lineHeights)), (h_paceAt, .inl (cI, 40, .inl g16)), (h_kindOf, .inl (cI, 4, .inl g17)), (h0, .inr (10, vL 67 F10)), (h_s, .inl (cI, 335, .inl f_s))]) (As := [.int u35, .int u106, .int u116]) (rest := [.ref h_downs]) hx hb hml hown hw (m_X10_place l D cI cJ cB cP cM cZ u35 u106 u116 _ (ir_wk k144 (by decide) (by decide)) k115 k125) wS_X10_407_X10_place dX10_line_140 hP hD hS hA [] [0, 1, 2, 3, 4, 5] rfl rfl (by decide) (by decide) (by decide) GG.fb hG.at hl.1 rfl (Nat.le_of_ble_eq_true rfl) ⟨(Nat.le_of_ble_eq_true rfl), (Nat.le_of_ble_eq_true rfl)⟩ ⟨(Nat.le_of_ble_eq_true rfl), (Nat.le_of_ble_eq_true rfl)⟩ (fun r150 u H locs hp hP hD hS => ?_)
                  obtain ⟨t151, t152, t153, rfl⟩ := hp
                  have hP : va_P D vwCl [(h_downs, .inl (cI, 31330, .inl w117)), (h_lineHeights, .inl (cI, 12, .inl f_lineHeights)), (h_paceAt, .inl (cI, 40, .inl g16)), (h_kindOf, .inl (cI, 4, .inl g17)), (h0, .inr (10, vL 67 F10)), (h_s, .inl (cI, 335, .inl f_s))] H := hP
                  have hD : va_D A [(h_downs, .inl (cI, 31330, .inl w117)), (h_lineHeights, .inl (cI, 12, .inl f_lineHeights)), (h_paceAt, .inl (cI, 40, .inl g16)), (h_kindOf, .inl (cI, 4, .inl g17)), (h0, .inr (10, vL 67 F10)), (h_s, .inl (cI, 335, .inl f_s))] := hD
                  refine W.widen (k := 0) (n := 0) (Nat.le_of_ble_eq_true rfl) (Nat.le_of_ble_eq_true rfl) ?_
                  have k155 : 0 ≤ r150.toInt ∧ r150.toInt ≤ 28919 := ⟨by omega, by omega⟩
                  refine lv_iload hx hb dX10_line_143 (lv_at hl 1 rfl) ?_
                  obtain ⟨g156, eg156⟩ : ∃ z : Nat → Int32, upd w117 r150.toNatClampNeg u128 = z := ⟨_, rfl⟩
                  have r157 : SG 0 31329 0 100000000 g156 := by rw [← eg156]; exact i119.up (Int.le_trans (by decide) k155.1) (Or.inr (Or.inr (ir_wk i130 (by decide) (by decide))))
                  refine iast_g hx hb hK hP hD hS 0 0 rfl rfl (ix_k k155 (by decide) (by decide)) eg156 dX10_line_145 (fun H locs hP hD hS => ?_)
                  have hP : va_P D vwCl [(h_downs, .inl (cI, 31330, .inl g156)), (h_lineHeights, .inl (cI, 12, .inl f_lineHeights)), (h_paceAt, .inl (cI, 40, .inl g16)), (h_kindOf, .inl (cI, 4, .inl g17)), (h0, .inr (10, vL 67 F10)), (h_s, .inl (cI, 335, .inl f_s))] H := hP
                  have hD : va_D A [(h_downs, .inl (cI, 31330, .inl g156)), (h_lineHeights, .inl (cI, 12, .inl f_lineHeights)), (h_paceAt, .inl (cI, 40, .inl g16)), (h_kindOf, .inl (cI, 4, .inl g17)), (h0, .inr (10, vL 67 F10)), (h_s, .inl (cI, 335, .inl f_s))] := hD
                  obtain ⟨v158, ev158⟩ : ∃ z : Int32, z = u116 + 1 := ⟨_, rfl⟩
                  have bv158 : v158.toInt = u116.toInt + 1 := by rw [ev158]; exact add_k rfl rfl k125 ⟨Int.le_refl _, Int.le_refl _⟩ (by decide)
                  have k159 : 11 ≤ v158.toInt ∧ v158.toInt ≤ 251 := add_r bv158 k125 ⟨Int.le_refl _, Int.le_refl _⟩ (by decide)
                  refine lv_iinc (v := v158) (lv' := [(4, .int v158), (6, .int u127), (5, .int u128), (3, .int u106), (2, .int u35), (1, .int r29), (0, .ref h0)]) hx hb dX10_line_146 hl (k := 2) rfl (by rw [ev158]; rfl) (by decide) rfl (fun ls hl => ?_)
                  refine lv_goto (tgt := 59) hx hb dX10_line_149 (by decide) ?_
                  exact ih_59 (v158, g156) ⟨(ir_wk k159 (by decide) (by decide)), r157, (show DBL f_s g156 r29 v33.toInt (u35.toInt) (u106.toInt) (v158.toInt) from (DBL.step i120 eg156 (bv := u35) (av := u106) (pv := u116) rfl rfl rfl (by omega) ⟨by omega, by omega⟩ (by omega) ⟨by omega, by omega⟩ ⟨by omega, by omega⟩ i131 (by omega) (by omega)))⟩ (by show (251 - v158.toInt).toNat < (251 - u116.toInt).toNat; omega) _ _ _ hP hD hS (lv_sub hl [0, 3, 4, 5, 6] rfl)
                · have dc146 : u127.toInt < 10 := nle_i (a := 10) (b := u127.toInt) rfl rfl c146
                  have k160 : 0 ≤ u127.toInt ∧ u127.toInt ≤ 9 := ⟨i129.1, up_lt dc146 (Int.le_refl _) (by decide)⟩
                  refine lv_iload hx hb dX10_line_108 (lv_at hl 1 rfl) ?_
                  refine lv_aload_n hx hb dX10_line_110 rfl (lv_at hl 6 rfl) ?_
                  refine lv_iload_n hx hb dX10_line_111 rfl (lv_at hl 4 rfl) ?_
                  refine lv_iload_n hx hb dX10_line_112 rfl (lv_at hl 3 rfl) ?_
                  refine lv_iload hx hb dX10_line_113 (lv_at hl 2 rfl) ?_
                  refine lv_iload_n hx hb dX10_line_115 rfl (lv_at hl 5 rfl) ?_
                  refine lv_iload hx hb dX10_line_116 (lv_at hl 0 rfl) ?_
                  have n161 : F1 53 = .ref h_downs := (get_ne eF1 (by decide) e_downs)
                  have n162 : F10 53 = .ref h_downs := (SAME.at t18 (by decide) n161)
                  refine call_Vi (wr := [(h_lineHeights, .inl (cI, 12, .inl f_lineHeights)), (h_paceAt, .inl (cI, 40, .inl g16)), (h_kindOf, .inl (cI, 4, .inl g17))]) (As := [.int u35, .int u106, .int u116, .int r29, .int u127]) (rest := [.int u128]) hx hb hml hown hw (m_X10_downBy l D cI cJ cB cP cM cZ h0 h_s h_downs F10 f_s w117 u35 u106 u116 r29 u127 bs _ n28 n162 s_s_K0 s_s_US s_s_0 s_s_105 s_s_114 s_s_130 s_s_139 s_s_153 s_s_44 s_s_5 s_s_6 s_s_7 i119 k144 k115 k125 k160) wV_X10_410_X10_downBy dX10_line_118 hK hP hD hS hA [4, 5, 0] [1, 2, 3] rfl rfl (by decide) (by decide) (by decide) 0 10 rfl rfl GG.fb hG.at hl.1 rfl (Nat.le_of_ble_eq_true rfl) ⟨(Nat.le_of_ble_eq_true rfl), (Nat.le_of_ble_eq_true rfl)⟩ ⟨(Nat.le_of_ble_eq_true rfl), (Nat.le_of_ble_eq_true rfl)⟩ (fun r163 u H locs hp hP hD hS => ?_)
                  obtain ⟨t164, t165, rfl⟩ := hp
                  have hP : va_P D vwCl [(h_lineHeights, .inl (cI, 12, .inl f_lineHeights)), (h_paceAt, .inl (cI, 40, .inl g16)), (h_kindOf, .inl (cI, 4, .inl g17)), (h0, .inr (10, vL 67 F10)), (h_s, .inl (cI, 335, .inl f_s)), (h_downs, .inl (cI, 31330, .inl w117))] H := hP
                  have hD : va_D A [(h_lineHeights, .inl (cI, 12, .inl f_lineHeights)), (h_paceAt, .inl (cI, 40, .inl g16)), (h_kindOf, .inl (cI, 4, .inl g17)), (h0, .inr (10, vL 67 F10)), (h_s, .inl (cI, 335, .inl f_s)), (h_downs, .inl (cI, 31330, .inl w117))] := hD
                  refine W.widen (k := 0) (n := 0) (Nat.le_of_ble_eq_true rfl) (Nat.le_of_ble_eq_true rfl) ?_
                  refine call_Si (wr := [(h_lineHeights, .inl (cI, 12, .inl f_lineHeights)), (h_paceAt, .inl (cI, 40, .inl g16)), (h_kindOf, .inl (cI, 4, .inl g17)), (h0, .inr (10, vL 67 F10)), (h_s, .inl (cI, 335, .inl f_s)), (h_downs, .inl (cI, 31330, .inl w117))]) (As := [.int u128, .int r163]) (rest := []) hx hb hml hown hw (m_X10_lesser l D cI cJ cB cP cM cZ u128 r163 _ ) wS_X10_27_X10_lesser dX10_line_121 hP hD hS hA [] [0, 1, 2, 3, 4, 5] rfl rfl (by decide) (by decide) (by decide) GG.fb hG.at hl.1 rfl (Nat.le_of_ble_eq_true rfl) ⟨(Nat.le_of_ble_eq_true rfl), (Nat.le_of_ble_eq_true rfl)⟩ ⟨(Nat.le_of_ble_eq_true rfl), (Nat.le_of_ble_eq_true rfl)⟩ (fun r167 u H locs hp hP hD hS => ?_)
                  obtain ⟨t168, t169, rfl⟩ := hp
                  have hP : va_P D vwCl [(h_lineHeights, .inl (cI, 12, .inl f_lineHeights)), (h_paceAt, .inl (cI, 40, .inl g16)), (h_kindOf, .inl (cI, 4, .inl g17)), (h0, .inr (10, vL 67 F10)), (h_s, .inl (cI, 335, .inl f_s)), (h_downs, .inl (cI, 31330, .inl w117))] H := hP
                  have hD : va_D A [(h_lineHeights, .inl (cI, 12, .inl f_lineHeights)), (h_paceAt, .inl (cI, 40, .inl g16)), (h_kindOf, .inl (cI, 4, .inl g17)), (h0, .inr (10, vL 67 F10)), (h_s, .inl (cI, 335, .inl f_s)), (h_downs, .inl (cI, 31330, .inl w117))] := hD
                  refine W.widen (k := 0) (n := 0) (Nat.le_of_ble_eq_true rfl) (Nat.le_of_ble_eq_true rfl) ?_
                  have k171 : 0 ≤ r167.toInt ∧ r167.toInt ≤ 100000000 := ⟨by omega, by omega⟩
                  refine lv_istore (lv' := [(5, .int r167), (6, .int u127), (4, .int u116), (3, .int u106), (2, .int u35), (1, .int r29), (0, .ref h0)]) hx hb dX10_line_124 hl (by decide) rfl (fun ls hl => ?_)
                  obtain ⟨v172, ev172⟩ : ∃ z : Int32, z = u127 + 1 := ⟨_, rfl⟩
                  have bv172 : v172.toInt = u127.toInt + 1 := by rw [ev172]; exact add_k rfl rfl k160 ⟨Int.le_refl _, Int.le_refl _⟩ (by decide)
                  have k173 : 1 ≤ v172.toInt ∧ v172.toInt ≤ 10 := add_r bv172 k160 ⟨Int.le_refl _, Int.le_refl _⟩ (by decide)
                  refine lv_iinc (v := v172) (lv' := [(6, .int v172), (5, .int r167), (4, .int u116), (3, .int u106), (2, .int u35), (1, .int r29), (0, .ref h0)]) hx hb dX10_line_126 hl (k := 1) rfl (by rw [ev172]; rfl) (by decide) rfl (fun ls hl => ?_)
                  refine lv_goto (tgt := 90) hx hb dX10_line_129 (by decide) ?_
                  exact ih_90 (v172, r167) ⟨(ir_wk k173 (by decide) (by decide)), k171, (show VD f_s w117 r29 v33.toInt u35 u106 u116 r167 (v172.toInt) from (VD.step i131 t165 t169 (by omega) (by omega) (by omega)))⟩ (by show (10 - v172.toInt).toNat < (10 - u127.toInt).toNat; omega) _ _ _ (hP.sub [5, 0, 1, 2, 3, 4] rfl) (hD.sub [5, 0, 1, 2, 3, 4] (by decide) rfl) hS (lv_sub hl [0, 1, 2, 3, 4, 5, 6] rfl)
            · have dc126 : u35.toInt = v33.toInt := eq_i (a := u35.toInt) (b := v33.toInt) rfl rfl c126
              refine lv_iconst (v := 0) hx hb dX10_line_78 (by decide) ?_
              refine lv_goto (tgt := 85) hx hb dX10_line_79 (by decide) ?_
              refine lv_istore (lv' := [(5, .int 0), (4, .int u116), (3, .int u106), (2, .int u35), (1, .int r29), (0, .ref h0)]) hx hb dX10_line_85 hl (by decide) rfl (fun ls hl => ?_)
              refine lv_iconst (v := 0) hx hb dX10_line_87 (by decide) ?_
              refine lv_istore (lv' := [(6, .int 0), (5, .int 0), (4, .int u116), (3, .int u106), (2, .int u35), (1, .int r29), (0, .ref h0)]) hx hb dX10_line_88 hl (by decide) rfl (fun ls hl => ?_)
              refine mloop (α := (Int32) × (Int32)) (nL := 7) (D := D) (A := A) (H0 := s.heap) (fun a => (10 - a.1.toInt).toNat) (fun a => IR 0 10 a.1 ∧ IR 0 100000000 a.2 ∧ (VD f_s w117 r29 v33.toInt u35 u106 u116 a.2 (a.1.toInt))) (fun a => [(h_downs, .inl (cI, 31330, .inl w117)), (h_lineHeights, .inl (cI, 12, .inl f_lineHeights)), (h_paceAt, .inl (cI, 40, .inl g16)), (h_kindOf, .inl (cI, 4, .inl g17)), (h0, .inr (10, vL 67 F10)), (h_s, .inl (cI, 335, .inl f_s))]) (fun a => [(6, .int a.1), (5, .int a.2), (4, .int u116), (3, .int u106), (2, .int u35), (1, .int r29), (0, .ref h0)]) (fun H locs ls => W p l e ({ frames := 4, cells := 0, slots := 0, locals := 94 } : Room) s m [.ref h0].toArray below meth c H locs 0 0 (MQ below (va_Qi (fun (r : Int32) (u : va_W) => ∃ (Gh : Nat → Value) (y_lineTime : Int32) (y_linePace : Int32) (y_inside : Int32) (y_late : Int32) (y_seed : Int32) (y_hasLine : Int32) (y_lineId : Int32) (y_lineBends : Int32) (g_paceAt : Nat → Int32) (g_kindOf : Nat → Int32) (g_downs : Nat → Int32) (g_lineHeights : Nat → Int32), SAME [0, 27, 28, 29, 30, 31, 52, 55, 56] Fh Gh ∧ Gh 0 = .int 0 ∧ Gh 27 = .int y_lineTime ∧ Gh 28 = .int y_linePace ∧ Gh 29 = .int y_inside ∧ IR 0 15 y_inside ∧ Gh 30 = .int y_late ∧ IR 0 15 y_late ∧ Gh 31 = .int y_seed ∧ Gh 52 = .int y_hasLine ∧ IR 0 1 y_hasLine ∧ Gh 55 = .int y_lineId ∧ Gh 56 = .int y_lineBends ∧ IR 0 12 y_lineBends ∧ SG 0 31329 0 100000000 g_downs ∧ u = [(h0, .inr (10, vL 67 Gh)), (h_s, .inl (cI, 335, .inl f_s)), (h_paceAt, .inl (cI, 40, .inl g_paceAt)), (h_kindOf, .inl (cI, 4, .inl g_kindOf)), (h_downs, .inl (cI, 31330, .inl g_downs)), (h_lineHeights, .inl (cI, 12, .inl g_lineHeights))]) (PO D A) A) [.ref h0].toArray s 0 0 A) (F0 m 90 ls [])) ?_ (0, 0) ⟨(show 0 ≤ (0 : Int32).toInt ∧ (0 : Int32).toInt ≤ 10 by decide), (show 0 ≤ (0 : Int32).toInt ∧ (0 : Int32).toInt ≤ 100000000 by decide), (show VD f_s w117 r29 v33.toInt u35 u106 u116 (0 : Int32) (0) from (by intro q; first | exact Or.inl (by decide) | (exfalso; omega)))⟩ _ _ _ hP hD hS hl
              rintro ⟨u174, u175⟩ ⟨i176, i177, i178⟩ ih_90 H locs ls hP hD hS hl
              have i176 : 0 ≤ u174.toInt ∧ u174.toInt ≤ 10 := i176
              have i177 : 0 ≤ u175.toInt ∧ u175.toInt ≤ 100000000 := i177
              have i178 : VD f_s w117 r29 v33.toInt u35 u106 u116 u175 (u174.toInt) := i178
              have hP : va_P D vwCl [(h_downs, .inl (cI, 31330, .inl w117)), (h_lineHeights, .inl (cI, 12, .inl f_lineHeights)), (h_paceAt, .inl (cI, 40, .inl g16)), (h_kindOf, .inl (cI, 4, .inl g17)), (h0, .inr (10, vL 67 F10)), (h_s, .inl (cI, 335, .inl f_s))] H := hP
              have hD : va_D A [(h_downs, .inl (cI, 31330, .inl w117)), (h_lineHeights, .inl (cI, 12, .inl f_lineHeights)), (h_paceAt, .inl (cI, 40, .inl g16)), (h_kindOf, .inl (cI, 4, .inl g17)), (h0, .inr (10, vL 67 F10)), (h_s, .inl (cI, 335, .inl f_s))] := hD
              have hl : lv_has ls 7 [(6, .int u174), (5, .int u175), (4, .int u116), (3, .int u106), (2, .int u35), (1, .int r29), (0, .ref h0)] := hl
              refine lv_iload_n hx hb dX10_line_90 rfl (lv_at hl 4 rfl) ?_
              refine lv_aload_n hx hb dX10_line_91 rfl (lv_at hl 6 rfl) ?_
              refine get_f (D := D) (ci := 10) (v := .ref h_s) (C := RX10) (T := TX10) (N := 67) hx hb hw inAX10 hown hK hP 4 rfl rfl 6 (by decide) (hw _ q_1267) (fun _ h9 => h9) n28 dX10_line_92 ?_
              refine lv_bipush (v := 6) hx hb dX10_line_95 (by decide) ?_
              refine iald_n hx hb hK hP 5 0 rfl rfl 6 rfl (Nat.le_of_ble_eq_true rfl) (Nat.le_of_ble_eq_true rfl) rfl dX10_line_97 ?_
              refine lv_ci (y := v33) ev33.symm ?_
              refine lv_icmp_ge (tgt := 132) hx hb dX10_line_98 (by decide) (fun c179 => ?_) (fun c179 => ?_)
              · have dc179 : v33.toInt ≤ u35.toInt := le_i (a := v33.toInt) (b := u35.toInt) rfl rfl c179
                refine lv_aload_n hx hb dX10_line_132 rfl (lv_at hl 6 rfl) ?_
                have n180 : F1 53 = .ref h_downs := (get_ne eF1 (by decide) e_downs)
                have n181 : F10 53 = .ref h_downs := (SAME.at t18 (by decide) n180)
                refine get_f (D := D) (ci := 10) (v := .ref h_downs) (C := RX10) (T := TX10) (N := 67) hx hb hw inAX10 hown hK hP 4 rfl rfl 53 (by decide) (hw _ q_1314) (fun _ h9 => h9) n181 dX10_line_133 ?_
                refine lv_iload_n hx hb dX10_line_136 rfl (lv_at hl 4 rfl) ?_
                refine lv_iload_n hx hb dX10_line_137 rfl (lv_at hl 3 rfl) ?_
                refine lv_iload hx hb dX10_line_138 (lv_at hl 2 rfl) ?_
                refine call_Si (wr := [(h_downs, .inl (cI, 31330, .inl w117)), (h_lineHeights, .inl (cI, 12, .inl f_lineHeights)), (h_paceAt, .inl (cI, 40, .inl g16)), (h_kindOf, .inl (cI, 4, .inl g17)), (h0, .inr (10, vL 67 F10)), (h_s, .inl (cI, 335, .inl f_s))]) (As := [.int u35, .int u106, .int u116]) (rest := [.ref h_downs]) hx hb hml hown hw (m_X10_place l D cI cJ cB cP cM cZ u35 u106 u116 _ k105 k115 k125) wS_X10_407_X10_place dX10_line_140 hP hD hS hA [] [0, 1, 2, 3, 4, 5] rfl rfl (by decide) (by decide) (by decide) GG.fb hG.at hl.1 rfl (Nat.le_of_ble_eq_true rfl) ⟨(Nat.le_of_ble_eq_true rfl), (Nat.le_of_ble_eq_true rfl)⟩ ⟨(Nat.le_of_ble_eq_true rfl), (Nat.le_of_ble_eq_true rfl)⟩ (fun r182 u H locs hp hP hD hS => ?_)
                obtain ⟨t183, t184, t185, rfl⟩ := hp
                have hP : va_P D vwCl [(h_downs, .inl (cI, 31330, .inl w117)), (h_lineHeights, .inl (cI, 12, .inl f_lineHeights)), (h_paceAt, .inl (cI, 40, .inl g16)), (h_kindOf, .inl (cI, 4, .inl g17)), (h0, .inr (10, vL 67 F10)), (h_s, .inl (cI, 335, .inl f_s))] H := hP
                have hD : va_D A [(h_downs, .inl (cI, 31330, .inl w117)), (h_lineHeights, .inl (cI, 12, .inl f_lineHeights)), (h_paceAt, .inl (cI, 40, .inl g16)), (h_kindOf, .inl (cI, 4, .inl g17)), (h0, .inr (10, vL 67 F10)), (h_s, .inl (cI, 335, .inl f_s))] := hD
                refine W.widen (k := 0) (n := 0) (Nat.le_of_ble_eq_true rfl) (Nat.le_of_ble_eq_true rfl) ?_
                refine lv_iload hx hb dX10_line_143 (lv_at hl 1 rfl) ?_
                obtain ⟨g187, eg187⟩ : ∃ z : Nat → Int32, upd w117 r182.toNatClampNeg u175 = z := ⟨_, rfl⟩
                have r188 : SG 0 31329 0 100000000 g187 := by rw [← eg187]; exact i119.up (Int.le_trans (by decide) t183.1) (Or.inr (Or.inr (ir_wk i177 (by decide) (by decide))))
                refine iast_g hx hb hK hP hD hS 0 0 rfl rfl (ix_k t183 (by decide) (by decide)) eg187 dX10_line_145 (fun H locs hP hD hS => ?_)
                have hP : va_P D vwCl [(h_downs, .inl (cI, 31330, .inl g187)), (h_lineHeights, .inl (cI, 12, .inl f_lineHeights)), (h_paceAt, .inl (cI, 40, .inl g16)), (h_kindOf, .inl (cI, 4, .inl g17)), (h0, .inr (10, vL 67 F10)), (h_s, .inl (cI, 335, .inl f_s))] H := hP
                have hD : va_D A [(h_downs, .inl (cI, 31330, .inl g187)), (h_lineHeights, .inl (cI, 12, .inl f_lineHeights)), (h_paceAt, .inl (cI, 40, .inl g16)), (h_kindOf, .inl (cI, 4, .inl g17)), (h0, .inr (10, vL 67 F10)), (h_s, .inl (cI, 335, .inl f_s))] := hD
                obtain ⟨v189, ev189⟩ : ∃ z : Int32, z = u116 + 1 := ⟨_, rfl⟩
                have bv189 : v189.toInt = u116.toInt + 1 := by rw [ev189]; exact add_k rfl rfl k125 ⟨Int.le_refl _, Int.le_refl _⟩ (by decide)
                have k190 : 11 ≤ v189.toInt ∧ v189.toInt ≤ 251 := add_r bv189 k125 ⟨Int.le_refl _, Int.le_refl _⟩ (by decide)
                refine lv_iinc (v := v189) (lv' := [(4, .int v189), (6, .int u174), (5, .int u175), (3, .int u106), (2, .int u35), (1, .int r29), (0, .ref h0)]) hx hb dX10_line_146 hl (k := 2) rfl (by rw [ev189]; rfl) (by decide) rfl (fun ls hl => ?_)
                refine lv_goto (tgt := 59) hx hb dX10_line_149 (by decide) ?_
                exact ih_59 (v189, g187) ⟨(ir_wk k190 (by decide) (by decide)), r188, (show DBL f_s g187 r29 v33.toInt (u35.toInt) (u106.toInt) (v189.toInt) from (DBL.step i120 eg187 (bv := u35) (av := u106) (pv := u116) rfl rfl rfl (by omega) ⟨by omega, by omega⟩ (by omega) ⟨by omega, by omega⟩ ⟨by omega, by omega⟩ i178 (by omega) (by omega)))⟩ (by show (251 - v189.toInt).toNat < (251 - u116.toInt).toNat; omega) _ _ _ hP hD hS (lv_sub hl [0, 3, 4, 5, 6] rfl)
              · have dc179 : u35.toInt < v33.toInt := nle_i (a := v33.toInt) (b := u35.toInt) rfl rfl c179
                have k191 : 0 ≤ u35.toInt ∧ u35.toInt ≤ 11 := ⟨k105.1, up_lt dc179 k34.2 (by decide)⟩
                have k192 : 1 ≤ v33.toInt ∧ v33.toInt ≤ 12 := ⟨lo_lt dc179 k105.1 (by decide), k34.2⟩
                refine lv_iload hx hb dX10_line_101 (lv_at hl 0 rfl) ?_
                refine lv_bipush (v := 10) hx hb dX10_line_103 (by decide) ?_
                refine lv_icmp_ge (tgt := 132) hx hb dX10_line_105 (by decide) (fun c193 => ?_) (fun c193 => ?_)
                · have dc193 : 10 ≤ u174.toInt := le_i (a := 10) (b := u174.toInt) rfl rfl c193
                  have k194 : 10 ≤ u174.toInt ∧ u174.toInt ≤ 10 := ⟨Int.le_trans (Int.le_refl _) dc193, i176.2⟩
                  refine lv_aload_n hx hb dX10_line_132 rfl (lv_at hl 6 rfl) ?_
                  have n195 : F1 53 = .ref h_downs := (get_ne eF1 (by decide) e_downs)
                  have n196 : F10 53 = .ref h_downs := (SAME.at t18 (by decide) n195)
                  refine get_f (D := D) (ci := 10) (v := .ref h_downs) (C := RX10) (T := TX10) (N := 67) hx hb hw inAX10 hown hK hP 4 rfl rfl 53 (by decide) (hw _ q_1314) (fun _ h9 => h9) n196 dX10_line_133 ?_
                  refine lv_iload_n hx hb dX10_line_136 rfl (lv_at hl 4 rfl) ?_
                  refine lv_iload_n hx hb dX10_line_137 rfl (lv_at hl 3 rfl) ?_
                  refine lv_iload hx hb dX10_line_138 (lv_at hl 2 rfl) ?_
                  refine call_Si (wr := [(h_downs, .inl (cI, 31330, .inl w117)), (h_lineHeights, .inl (cI, 12, .inl f_lineHeights)), (h_paceAt, .inl (cI, 40, .inl g16)), (h_kindOf, .inl (cI, 4, .inl g17)), (h0, .inr (10, vL 67 F10)), (h_s, .inl (cI, 335, .inl f_s))]) (As := [.int u35, .int u106, .int u116]) (rest := [.ref h_downs]) hx hb hml hown hw (m_X10_place l D cI cJ cB cP cM cZ u35 u106 u116 _ (ir_wk k191 (by decide) (by decide)) k115 k125) wS_X10_407_X10_place dX10_line_140 hP hD hS hA [] [0, 1, 2, 3, 4, 5] rfl rfl (by decide) (by decide) (by decide) GG.fb hG.at hl.1 rfl (Nat.le_of_ble_eq_true rfl) ⟨(Nat.le_of_ble_eq_true rfl), (Nat.le_of_ble_eq_true rfl)⟩ ⟨(Nat.le_of_ble_eq_true rfl), (Nat.le_of_ble_eq_true rfl)⟩ (fun r197 u H locs hp hP hD hS => ?_)
                  obtain ⟨t198, t199, t200, rfl⟩ := hp
                  have hP : va_P D vwCl [(h_downs, .inl (cI, 31330, .inl w117)), (h_lineHeights, .inl (cI, 12, .inl f_lineHeights)), (h_paceAt, .inl (cI, 40, .inl g16)), (h_kindOf, .inl (cI, 4, .inl g17)), (h0, .inr (10, vL 67 F10)), (h_s, .inl (cI, 335, .inl f_s))] H := hP
                  have hD : va_D A [(h_downs, .inl (cI, 31330, .inl w117)), (h_lineHeights, .inl (cI, 12, .inl f_lineHeights)), (h_paceAt, .inl (cI, 40, .inl g16)), (h_kindOf, .inl (cI, 4, .inl g17)), (h0, .inr (10, vL 67 F10)), (h_s, .inl (cI, 335, .inl f_s))] := hD
                  refine W.widen (k := 0) (n := 0) (Nat.le_of_ble_eq_true rfl) (Nat.le_of_ble_eq_true rfl) ?_
                  have k202 : 0 ≤ r197.toInt ∧ r197.toInt ≤ 28919 := ⟨by omega, by omega⟩
                  refine lv_iload hx hb dX10_line_143 (lv_at hl 1 rfl) ?_
                  obtain ⟨g203, eg203⟩ : ∃ z : Nat → Int32, upd w117 r197.toNatClampNeg u175 = z := ⟨_, rfl⟩
                  have r204 : SG 0 31329 0 100000000 g203 := by rw [← eg203]; exact i119.up (Int.le_trans (by decide) k202.1) (Or.inr (Or.inr (ir_wk i177 (by decide) (by decide))))
                  refine iast_g hx hb hK hP hD hS 0 0 rfl rfl (ix_k k202 (by decide) (by decide)) eg203 dX10_line_145 (fun H locs hP hD hS => ?_)
                  have hP : va_P D vwCl [(h_downs, .inl (cI, 31330, .inl g203)), (h_lineHeights, .inl (cI, 12, .inl f_lineHeights)), (h_paceAt, .inl (cI, 40, .inl g16)), (h_kindOf, .inl (cI, 4, .inl g17)), (h0, .inr (10, vL 67 F10)), (h_s, .inl (cI, 335, .inl f_s))] H := hP
                  have hD : va_D A [(h_downs, .inl (cI, 31330, .inl g203)), (h_lineHeights, .inl (cI, 12, .inl f_lineHeights)), (h_paceAt, .inl (cI, 40, .inl g16)), (h_kindOf, .inl (cI, 4, .inl g17)), (h0, .inr (10, vL 67 F10)), (h_s, .inl (cI, 335, .inl f_s))] := hD
                  obtain ⟨v205, ev205⟩ : ∃ z : Int32, z = u116 + 1 := ⟨_, rfl⟩
                  have bv205 : v205.toInt = u116.toInt + 1 := by rw [ev205]; exact add_k rfl rfl k125 ⟨Int.le_refl _, Int.le_refl _⟩ (by decide)
                  have k206 : 11 ≤ v205.toInt ∧ v205.toInt ≤ 251 := add_r bv205 k125 ⟨Int.le_refl _, Int.le_refl _⟩ (by decide)
                  refine lv_iinc (v := v205) (lv' := [(4, .int v205), (6, .int u174), (5, .int u175), (3, .int u106), (2, .int u35), (1, .int r29), (0, .ref h0)]) hx hb dX10_line_146 hl (k := 2) rfl (by rw [ev205]; rfl) (by decide) rfl (fun ls hl => ?_)
                  refine lv_goto (tgt := 59) hx hb dX10_line_149 (by decide) ?_
                  exact ih_59 (v205, g203) ⟨(ir_wk k206 (by decide) (by decide)), r204, (show DBL f_s g203 r29 v33.toInt (u35.toInt) (u106.toInt) (v205.toInt) from (DBL.step i120 eg203 (bv := u35) (av := u106) (pv := u116) rfl rfl rfl (by omega) ⟨by omega, by omega⟩ (by omega) ⟨by omega, by omega⟩ ⟨by omega, by omega⟩ i178 (by omega) (by omega)))⟩ (by show (251 - v205.toInt).toNat < (251 - u116.toInt).toNat; omega) _ _ _ hP hD hS (lv_sub hl [0, 3, 4, 5, 6] rfl)
                · have dc193 : u174.toInt < 10 := nle_i (a := 10) (b := u174.toInt) rfl rfl c193
                  have k207 : 0 ≤ u174.toInt ∧ u174.toInt ≤ 9 := ⟨i176.1, up_lt dc193 (Int.le_refl _) (by decide)⟩
                  refine lv_iload hx hb dX10_line_108 (lv_at hl 1 rfl) ?_
                  refine lv_aload_n hx hb dX10_line_110 rfl (lv_at hl 6 rfl) ?_
                  refine lv_iload_n hx hb dX10_line_111 rfl (lv_at hl 4 rfl) ?_
                  refine lv_iload_n hx hb dX10_line_112 rfl (lv_at hl 3 rfl) ?_
                  refine lv_iload hx hb dX10_line_113 (lv_at hl 2 rfl) ?_
                  refine lv_iload_n hx hb dX10_line_115 rfl (lv_at hl 5 rfl) ?_
                  refine lv_iload hx hb dX10_line_116 (lv_at hl 0 rfl) ?_
                  have n208 : F1 53 = .ref h_downs := (get_ne eF1 (by decide) e_downs)
                  have n209 : F10 53 = .ref h_downs := (SAME.at t18 (by decide) n208)
                  refine call_Vi (wr := [(h_lineHeights, .inl (cI, 12, .inl f_lineHeights)), (h_paceAt, .inl (cI, 40, .inl g16)), (h_kindOf, .inl (cI, 4, .inl g17))]) (As := [.int u35, .int u106, .int u116, .int r29, .int u174]) (rest := [.int u175]) hx hb hml hown hw (m_X10_downBy l D cI cJ cB cP cM cZ h0 h_s h_downs F10 f_s w117 u35 u106 u116 r29 u174 bs _ n28 n209 s_s_K0 s_s_US s_s_0 s_s_105 s_s_114 s_s_130 s_s_139 s_s_153 s_s_44 s_s_5 s_s_6 s_s_7 i119 k191 k115 k125 k207) wV_X10_410_X10_downBy dX10_line_118 hK hP hD hS hA [4, 5, 0] [1, 2, 3] rfl rfl (by decide) (by decide) (by decide) 0 10 rfl rfl GG.fb hG.at hl.1 rfl (Nat.le_of_ble_eq_true rfl) ⟨(Nat.le_of_ble_eq_true rfl), (Nat.le_of_ble_eq_true rfl)⟩ ⟨(Nat.le_of_ble_eq_true rfl), (Nat.le_of_ble_eq_true rfl)⟩ (fun r210 u H locs hp hP hD hS => ?_)
                  obtain ⟨t211, t212, rfl⟩ := hp
                  have hP : va_P D vwCl [(h_lineHeights, .inl (cI, 12, .inl f_lineHeights)), (h_paceAt, .inl (cI, 40, .inl g16)), (h_kindOf, .inl (cI, 4, .inl g17)), (h0, .inr (10, vL 67 F10)), (h_s, .inl (cI, 335, .inl f_s)), (h_downs, .inl (cI, 31330, .inl w117))] H := hP
                  have hD : va_D A [(h_lineHeights, .inl (cI, 12, .inl f_lineHeights)), (h_paceAt, .inl (cI, 40, .inl g16)), (h_kindOf, .inl (cI, 4, .inl g17)), (h0, .inr (10, vL 67 F10)), (h_s, .inl (cI, 335, .inl f_s)), (h_downs, .inl (cI, 31330, .inl w117))] := hD
                  refine W.widen (k := 0) (n := 0) (Nat.le_of_ble_eq_true rfl) (Nat.le_of_ble_eq_true rfl) ?_
                  refine call_Si (wr := [(h_lineHeights, .inl (cI, 12, .inl f_lineHeights)), (h_paceAt, .inl (cI, 40, .inl g16)), (h_kindOf, .inl (cI, 4, .inl g17)), (h0, .inr (10, vL 67 F10)), (h_s, .inl (cI, 335, .inl f_s)), (h_downs, .inl (cI, 31330, .inl w117))]) (As := [.int u175, .int r210]) (rest := []) hx hb hml hown hw (m_X10_lesser l D cI cJ cB cP cM cZ u175 r210 _ ) wS_X10_27_X10_lesser dX10_line_121 hP hD hS hA [] [0, 1, 2, 3, 4, 5] rfl rfl (by decide) (by decide) (by decide) GG.fb hG.at hl.1 rfl (Nat.le_of_ble_eq_true rfl) ⟨(Nat.le_of_ble_eq_true rfl), (Nat.le_of_ble_eq_true rfl)⟩ ⟨(Nat.le_of_ble_eq_true rfl), (Nat.le_of_ble_eq_true rfl)⟩ (fun r214 u H locs hp hP hD hS => ?_)
                  obtain ⟨t215, t216, rfl⟩ := hp
                  have hP : va_P D vwCl [(h_lineHeights, .inl (cI, 12, .inl f_lineHeights)), (h_paceAt, .inl (cI, 40, .inl g16)), (h_kindOf, .inl (cI, 4, .inl g17)), (h0, .inr (10, vL 67 F10)), (h_s, .inl (cI, 335, .inl f_s)), (h_downs, .inl (cI, 31330, .inl w117))] H := hP
                  have hD : va_D A [(h_lineHeights, .inl (cI, 12, .inl f_lineHeights)), (h_paceAt, .inl (cI, 40, .inl g16)), (h_kindOf, .inl (cI, 4, .inl g17)), (h0, .inr (10, vL 67 F10)), (h_s, .inl (cI, 335, .inl f_s)), (h_downs, .inl (cI, 31330, .inl w117))] := hD
                  refine W.widen (k := 0) (n := 0) (Nat.le_of_ble_eq_true rfl) (Nat.le_of_ble_eq_true rfl) ?_
                  have k218 : 0 ≤ r214.toInt ∧ r214.toInt ≤ 100000000 := ⟨by omega, by omega⟩
                  refine lv_istore (lv' := [(5, .int r214), (6, .int u174), (4, .int u116), (3, .int u106), (2, .int u35), (1, .int r29), (0, .ref h0)]) hx hb dX10_line_124 hl (by decide) rfl (fun ls hl => ?_)
                  obtain ⟨v219, ev219⟩ : ∃ z : Int32, z = u174 + 1 := ⟨_, rfl⟩
                  have bv219 : v219.toInt = u174.toInt + 1 := by rw [ev219]; exact add_k rfl rfl k207 ⟨Int.le_refl _, Int.le_refl _⟩ (by decide)
                  have k220 : 1 ≤ v219.toInt ∧ v219.toInt ≤ 10 := add_r bv219 k207 ⟨Int.le_refl _, Int.le_refl _⟩ (by decide)
                  refine lv_iinc (v := v219) (lv' := [(6, .int v219), (5, .int r214), (4, .int u116), (3, .int u106), (2, .int u35), (1, .int r29), (0, .ref h0)]) hx hb dX10_line_126 hl (k := 1) rfl (by rw [ev219]; rfl) (by decide) rfl (fun ls hl => ?_)
                  refine lv_goto (tgt := 90) hx hb dX10_line_129 (by decide) ?_
                  exact ih_90 (v219, r214) ⟨(ir_wk k220 (by decide) (by decide)), k218, (show VD f_s w117 r29 v33.toInt u35 u106 u116 r214 (v219.toInt) from (VD.step i178 t212 t216 (by omega) (by omega) (by omega)))⟩ (by show (10 - v219.toInt).toNat < (10 - u174.toInt).toNat; omega) _ _ _ (hP.sub [5, 0, 1, 2, 3, 4] rfl) (hD.sub [5, 0, 1, 2, 3, 4] (by decide) rfl) hS (lv_sub hl [0, 1, 2, 3, 4, 5, 6] rfl)
    · have dc32 : v31.toInt < r29.toInt := nle_i (a := r29.toInt) (b := v31.toInt) rfl rfl c32
      have k221 : (-2147483648) ≤ v31.toInt ∧ v31.toInt ≤ 2147483646 := ⟨(ir_any _).1, up_lt dc32 (ir_any _).2 (by decide)⟩
      have k222 : (-2147483647) ≤ r29.toInt ∧ r29.toInt ≤ 2147483647 := ⟨lo_lt dc32 (ir_any _).1 (by decide), (ir_any _).2⟩
      refine lv_iconst (v := (-1)) hx hb dX10_line_33 (by decide) ?_
      exact ret_i (v := (-1)) hx hb hr hlocks hS (hP.sub (ws' := [(h0, .inr (10, vL 67 F10)), (h_s, .inl (cI, 335, .inl f_s)), (h_paceAt, .inl (cI, 40, .inl g16)), (h_kindOf, .inl (cI, 4, .inl g17)), (h_downs, .inl (cI, 31330, .inl f_downs)), (h_lineHeights, .inl (cI, 12, .inl f_lineHeights))]) [4, 5, 2, 3, 0, 1] rfl) (hD.sub (ws' := [(h0, .inr (10, vL 67 F10)), (h_s, .inl (cI, 335, .inl f_s)), (h_paceAt, .inl (cI, 40, .inl g16)), (h_kindOf, .inl (cI, 4, .inl g17)), (h_downs, .inl (cI, 31330, .inl f_downs)), (h_lineHeights, .inl (cI, 12, .inl f_lineHeights))]) [4, 5, 2, 3, 0, 1] (by decide) rfl) dX10_line_34 rfl (Nat.le_of_ble_eq_true rfl) (Nat.le_of_ble_eq_true rfl) ⟨F10, y11, y12, y13, y14, y15, x_hasLine, x_lineId, x_lineBends, g16, g17, f_downs, f_lineHeights, (SAME.tr (SAME.up eF1 SAME.rf (by decide)) t18 (by decide)), (SAME.at t18 (by decide) (get_eq eF1)), t19, t20, t22, t23, t24, t25, t26, (SAME.at t18 (by decide) (get_ne eF1 (by decide) e_hasLine)), i_x_hasLine, (SAME.at t18 (by decide) (get_ne eF1 (by decide) e_lineId)), (SAME.at t18 (by decide) (get_ne eF1 (by decide) e_lineBends)), i_x_lineBends, s_downs_0, rfl⟩
set_option maxHeartbeats 4000000 in
set_option maxRecDepth 100000 in
theorem m_X10_height (l : Launch) (D : va_G) (cI cJ cB cP cM cZ : ClassId) (h0 : Nat) (h_lineHeights : Nat) (Fh : Nat → Value) (x_hasLine : Int32) (x_lineBends : Int32) (f_lineHeights : Nat → Int32) (p0 : Int32) (sz : Nat) (e_hasLine : Fh 52 = .int x_hasLine) (i_x_hasLine : IR 0 1 x_hasLine) (e_lineHeights : Fh 54 = .ref h_lineHeights) (e_lineBends : Fh 56 = .int x_lineBends) (i_x_lineBends : IR 0 12 x_lineBends) : CI l yX10_height cX10_height 2 (some .int) { frames := 1, cells := 0, slots := 0, locals := 22 } (GG D cI cJ cB cP cM cZ) D [(h0, .inr (10, vL 67 Fh)), (h_lineHeights, .inl (cI, 12, .inl f_lineHeights))] sz [.ref h0, .int p0] (fun (r : Int32) (u : va_W) => ∃ (Gh : Nat → Value), SAME [0] Fh Gh ∧ Gh 0 = .int 0 ∧ u = [(h0, .inr (10, vL 67 Gh)), (h_lineHeights, .inl (cI, 12, .inl f_lineHeights))]) := by
  refine CI_mk (by decide) (Nat.le_of_ble_eq_true rfl) ?_
  intro p e s m below meth c A ls E hAe hG hsz hP hD hA hS hl
  obtain ⟨hx, hb, hr, hw, hown, hlocks, hml, hnm⟩ := E
  have hK := hG.1
  have i_x_hasLine : 0 ≤ x_hasLine.toInt ∧ x_hasLine.toInt ≤ 1 := i_x_hasLine
  have i_x_lineBends : 0 ≤ x_lineBends.toInt ∧ x_lineBends.toInt ≤ 12 := i_x_lineBends
  have hl : lv_has ls 2 [(0, .ref h0), (1, .int p0)] := hl
  refine lv_aload_n hx hb dX10_height_0 rfl (lv_at hl 0 rfl) ?_
  refine lv_iconst (v := 0) hx hb dX10_height_1 (by decide) ?_
  refine put_f (D := D) (ci := 10) (v := .int 0) (ty := .int) (C := RX10) (T := TX10) (N := 67) hx hb hw inAX10 tyX10 tyX10_ok nmX10 hown hK hP hD hS 0 rfl rfl 0 (by decide) (hw _ q_1261) (fun _ h9 => h9) rfl (by decide +kernel) rfl rfl dX10_height_2 (fun H locs F1 eF1 hP hD hS => ?_)
  have hP : va_P D vwCl [(h0, .inr (10, vL 67 F1)), (h_lineHeights, .inl (cI, 12, .inl f_lineHeights))] H := hP
  have hD : va_D A [(h0, .inr (10, vL 67 F1)), (h_lineHeights, .inl (cI, 12, .inl f_lineHeights))] := hD
  refine lv_aload_n hx hb dX10_height_5 rfl (lv_at hl 0 rfl) ?_
  have n2 : F1 52 = .int x_hasLine := (get_ne eF1 (by decide) e_hasLine)
  refine get_f (D := D) (ci := 10) (v := .int x_hasLine) (C := RX10) (T := TX10) (N := 67) hx hb hw inAX10 hown hK hP 0 rfl rfl 52 (by decide) (hw _ q_1313) (fun _ h9 => h9) n2 dX10_height_6 ?_
  refine lv_if_eq (tgt := 35) hx hb dX10_height_9 (by decide) (fun c3 => ?_) (fun c3 => ?_)
  · have dc3 : x_hasLine.toInt = 0 := eq_i (a := x_hasLine.toInt) (b := 0) rfl rfl c3
    have k4 : 0 ≤ x_hasLine.toInt ∧ x_hasLine.toInt ≤ 0 := ⟨i_x_hasLine.1, Int.le_trans (Int.le_of_eq dc3) (Int.le_refl _)⟩
    refine lv_iconst (v := (-1)) hx hb dX10_height_35 (by decide) ?_
    exact ret_i (v := (-1)) hx hb hr hlocks hS hP hD dX10_height_36 rfl (Nat.le_of_ble_eq_true rfl) (Nat.le_of_ble_eq_true rfl) ⟨F1, (SAME.up eF1 SAME.rf (by decide)), (get_eq eF1), rfl⟩
  · have dc3 : x_hasLine.toInt ≠ 0 := ne_i (a := x_hasLine.toInt) (b := 0) rfl rfl c3
    have k5 : 1 ≤ x_hasLine.toInt ∧ x_hasLine.toInt ≤ 1 := ⟨ne_lo dc3 i_x_hasLine.1 ⟨Int.le_refl _, Int.le_refl _⟩ (by decide), i_x_hasLine.2⟩
    refine lv_iload_n hx hb dX10_height_12 rfl (lv_at hl 1 rfl) ?_
    refine lv_iconst (v := 0) hx hb dX10_height_13 (by decide) ?_
    refine lv_aload_n hx hb dX10_height_14 rfl (lv_at hl 0 rfl) ?_
    have n6 : F1 56 = .int x_lineBends := (get_ne eF1 (by decide) e_lineBends)
    refine get_f (D := D) (ci := 10) (v := .int x_lineBends) (C := RX10) (T := TX10) (N := 67) hx hb hw inAX10 hown hK hP 0 rfl rfl 56 (by decide) (hw _ q_1317) (fun _ h9 => h9) n6 dX10_height_15 ?_
    refine lv_iconst (v := 1) hx hb dX10_height_18 (by decide) ?_
    refine lv_isub hx hb dX10_height_19 ?_
    refine lv_topi (fun v7 ev7 => ?_)
    have bv7 : v7.toInt = x_lineBends.toInt - 1 := by rw [ev7]; exact sub_k rfl rfl i_x_lineBends ⟨Int.le_refl _, Int.le_refl _⟩ (by decide)
    have k8 : (-1) ≤ v7.toInt ∧ v7.toInt ≤ 11 := sub_r bv7 i_x_lineBends ⟨Int.le_refl _, Int.le_refl _⟩ (by decide)
    refine call_Si (wr := [(h0, .inr (10, vL 67 F1)), (h_lineHeights, .inl (cI, 12, .inl f_lineHeights))]) (As := [.int p0, .int 0, .int v7]) (rest := []) hx hb hml hown hw (m_X10_isIn l D cI cJ cB cP cM cZ p0 0 v7 _ ) wS_X10_211_X10_isIn dX10_height_20 hP hD hS hA [] [0, 1] rfl rfl (by decide) (by decide) (by decide) GG.fb hG.at hl.1 rfl (Nat.le_of_ble_eq_true rfl) ⟨(Nat.le_of_ble_eq_true rfl), (Nat.le_of_ble_eq_true rfl)⟩ ⟨(Nat.le_of_ble_eq_true rfl), (Nat.le_of_ble_eq_true rfl)⟩ (fun r9 u H locs hp hP hD hS => ?_)
    have zl0 : (0 : Int32).toInt = 0 := by decide
    rcases hp with ⟨t10, rfl, rfl⟩ | ⟨t11, t12, rfl, rfl⟩ | ⟨t13, t14, rfl, rfl⟩
    · have hP : va_P D vwCl [(h0, .inr (10, vL 67 F1)), (h_lineHeights, .inl (cI, 12, .inl f_lineHeights))] H := hP
      have hD : va_D A [(h0, .inr (10, vL 67 F1)), (h_lineHeights, .inl (cI, 12, .inl f_lineHeights))] := hD
      refine W.widen (k := 0) (n := 0) (Nat.le_of_ble_eq_true rfl) (Nat.le_of_ble_eq_true rfl) ?_
      have k16 : (-2147483648) ≤ p0.toInt ∧ p0.toInt ≤ (-1) := ⟨(ir_any _).1, up_lt t10 (Int.le_refl _) (by decide)⟩
      refine lv_if_eq (tgt := 35) hx hb dX10_height_23 (by decide) (fun _ => ?_) (fun g => absurd (by decide) g)
      refine lv_iconst (v := (-1)) hx hb dX10_height_35 (by decide) ?_
      exact ret_i (v := (-1)) hx hb hr hlocks hS hP hD dX10_height_36 rfl (Nat.le_of_ble_eq_true rfl) (Nat.le_of_ble_eq_true rfl) ⟨F1, (SAME.up eF1 SAME.rf (by decide)), (get_eq eF1), rfl⟩
    · have hP : va_P D vwCl [(h0, .inr (10, vL 67 F1)), (h_lineHeights, .inl (cI, 12, .inl f_lineHeights))] H := hP
      have hD : va_D A [(h0, .inr (10, vL 67 F1)), (h_lineHeights, .inl (cI, 12, .inl f_lineHeights))] := hD
      refine W.widen (k := 0) (n := 0) (Nat.le_of_ble_eq_true rfl) (Nat.le_of_ble_eq_true rfl) ?_
      have k17 : 0 ≤ p0.toInt ∧ p0.toInt ≤ 2147483647 := ⟨Int.le_trans (Int.le_refl _) t11, (ir_any _).2⟩
      refine lv_if_eq (tgt := 35) hx hb dX10_height_23 (by decide) (fun _ => ?_) (fun g => absurd (by decide) g)
      refine lv_iconst (v := (-1)) hx hb dX10_height_35 (by decide) ?_
      exact ret_i (v := (-1)) hx hb hr hlocks hS hP hD dX10_height_36 rfl (Nat.le_of_ble_eq_true rfl) (Nat.le_of_ble_eq_true rfl) ⟨F1, (SAME.up eF1 SAME.rf (by decide)), (get_eq eF1), rfl⟩
    · have hP : va_P D vwCl [(h0, .inr (10, vL 67 F1)), (h_lineHeights, .inl (cI, 12, .inl f_lineHeights))] H := hP
      have hD : va_D A [(h0, .inr (10, vL 67 F1)), (h_lineHeights, .inl (cI, 12, .inl f_lineHeights))] := hD
      refine W.widen (k := 0) (n := 0) (Nat.le_of_ble_eq_true rfl) (Nat.le_of_ble_eq_true rfl) ?_
      have k18 : 0 ≤ p0.toInt ∧ p0.toInt ≤ 2147483647 := ⟨Int.le_trans (Int.le_refl _) t13, (ir_any _).2⟩
      have k19 : 0 ≤ p0.toInt ∧ p0.toInt ≤ 11 := ⟨k18.1, Int.le_trans t14 k8.2⟩
      have k20 : 0 ≤ v7.toInt ∧ v7.toInt ≤ 11 := ⟨Int.le_trans k18.1 t14, k8.2⟩
      have k21 : 1 ≤ x_lineBends.toInt ∧ x_lineBends.toInt ≤ 12 := ⟨lin_lo (lin_m bv7) k20.1 (by decide), i_x_lineBends.2⟩
      refine lv_if_eq (tgt := 35) hx hb dX10_height_23 (by decide) (fun g => absurd g (by decide)) (fun _ => ?_)
      refine lv_aload_n hx hb dX10_height_26 rfl (lv_at hl 0 rfl) ?_
      have n22 : F1 54 = .ref h_lineHeights := (get_ne eF1 (by decide) e_lineHeights)
      refine get_f (D := D) (ci := 10) (v := .ref h_lineHeights) (C := RX10) (T := TX10) (N := 67) hx hb hw inAX10 hown hK hP 0 rfl rfl 54 (by decide) (hw _ q_1315) (fun _ h9 => h9) n22 dX10_height_27 ?_
      refine lv_iload_n hx hb dX10_height_30 rfl (lv_at hl 1 rfl) ?_
      refine va_iald hx hb hK hP 1 0 rfl rfl (ix_k k19 (by decide) (by decide)) dX10_height_31 ?_
      refine lv_topi (fun v23 ev23 => ?_)
      refine lv_goto (tgt := 36) hx hb dX10_height_32 (by decide) ?_
      exact ret_i (v := v23) hx hb hr hlocks hS hP hD dX10_height_36 rfl (Nat.le_of_ble_eq_true rfl) (Nat.le_of_ble_eq_true rfl) ⟨F1, (SAME.up eF1 SAME.rf (by decide)), (get_eq eF1), rfl⟩
set_option maxHeartbeats 4000000 in
set_option maxRecDepth 100000 in
theorem m_X10_take (l : Launch) (D : va_G) (cI cJ cB cP cM cZ : ClassId) (h0 : Nat) (h_s : Nat) (h_undone : Nat) (h_bestYard : Nat) (h_bestCrew : Nat) (h_lineHeights : Nat) (Fh : Nat → Value) (x_undoMany : Int32) (x_bestId : Int32) (x_hasBest : Int32) (x_hasLine : Int32) (x_lineId : Int32) (f_s : Nat → Int32) (f_undone : Nat → Int32) (f_bestYard : Nat → Int32) (f_bestCrew : Nat → Int32) (f_lineHeights : Nat → Int32) (p0 : Int32) (bs : Nat → Int32) (sz : Nat) (e_s : Fh 6 = .ref h_s) (e_undone : Fh 39 = .ref h_undone) (e_undoMany : Fh 41 = .int x_undoMany) (i_x_undoMany : IR 0 8 x_undoMany) (e_bestYard : Fh 43 = .ref h_bestYard) (e_bestCrew : Fh 44 = .ref h_bestCrew) (e_bestId : Fh 45 = .int x_bestId) (e_hasBest : Fh 51 = .int x_hasBest) (i_x_hasBest : IR 0 1 x_hasBest) (e_hasLine : Fh 52 = .int x_hasLine) (i_x_hasLine : IR 0 1 x_hasLine) (e_lineHeights : Fh 54 = .ref h_lineHeights) (e_lineId : Fh 55 = .int x_lineId) (s_s_K0 : KW 0 f_s) (s_s_US : US bs f_s) (s_s_0 : SG 0 0 0 40 f_s) (s_s_105 : SG 105 108 0 11 f_s) (s_s_114 : SG 114 114 0 5 f_s) (s_s_130 : SG 130 133 0 11 f_s) (s_s_139 : SG 139 139 0 5 f_s) (s_s_153 : SG 153 153 0 44 f_s) (s_s_44 : SG 44 55 0 9 f_s) (s_s_5 : SG 5 5 0 12 f_s) (s_s_6 : SG 6 6 0 12 f_s) (s_s_7 : SG 7 7 0 6 f_s) (s_undone_1 : SG 1 4 0 11 f_undone) (s_undone_10 : SG 10 10 0 5 f_undone) (s_undone_106 : SG 106 106 0 5 f_undone) (s_undone_121 : SG 121 124 0 11 f_undone) (s_undone_130 : SG 130 130 0 5 f_undone) (s_undone_145 : SG 145 148 0 11 f_undone) (s_undone_154 : SG 154 154 0 5 f_undone) (s_undone_169 : SG 169 172 0 11 f_undone) (s_undone_178 : SG 178 178 0 5 f_undone) (s_undone_25 : SG 25 28 0 11 f_undone) (s_undone_34 : SG 34 34 0 5 f_undone) (s_undone_49 : SG 49 52 0 11 f_undone) (s_undone_58 : SG 58 58 0 5 f_undone) (s_undone_73 : SG 73 76 0 11 f_undone) (s_undone_82 : SG 82 82 0 5 f_undone) (s_undone_97 : SG 97 100 0 11 f_undone) : CI l yX10_take cX10_take 4 (some .boolean) { frames := 1, cells := 0, slots := 0, locals := 21 } (GG D cI cJ cB cP cM cZ) D [(h0, .inr (10, vL 67 Fh)), (h_s, .inl (cI, 335, .inl f_s)), (h_undone, .inl (cI, 192, .inl f_undone)), (h_bestYard, .inl (cI, 4, .inl f_bestYard)), (h_bestCrew, .inl (cI, 4, .inl f_bestCrew)), (h_lineHeights, .inl (cI, 12, .inl f_lineHeights))] sz [.ref h0, .int p0] (fun (r : Int32) (u : va_W) => ∃ (Gh : Nat → Value) (y_undoMany : Int32) (g_s : Nat → Int32) (g_undone : Nat → Int32), SAME [0, 41] Fh Gh ∧ Gh 0 = .int 0 ∧ Gh 41 = .int y_undoMany ∧ IR 0 8 y_undoMany ∧ SG 153 153 0 44 g_s ∧ SG 0 0 0 40 g_s ∧ SG 5 5 0 12 g_s ∧ SG 6 6 0 12 g_s ∧ SG 7 7 0 6 g_s ∧ SG 44 55 0 9 g_s ∧ KW 0 g_s ∧ SG 105 108 0 11 g_s ∧ SG 114 114 0 5 g_s ∧ SG 130 133 0 11 g_s ∧ SG 139 139 0 5 g_s ∧ US bs g_s ∧ SG 1 4 0 11 g_undone ∧ SG 10 10 0 5 g_undone ∧ SG 25 28 0 11 g_undone ∧ SG 34 34 0 5 g_undone ∧ SG 49 52 0 11 g_undone ∧ SG 58 58 0 5 g_undone ∧ SG 73 76 0 11 g_undone ∧ SG 82 82 0 5 g_undone ∧ SG 97 100 0 11 g_undone ∧ SG 106 106 0 5 g_undone ∧ SG 121 124 0 11 g_undone ∧ SG 130 130 0 5 g_undone ∧ SG 145 148 0 11 g_undone ∧ SG 154 154 0 5 g_undone ∧ SG 169 172 0 11 g_undone ∧ SG 178 178 0 5 g_undone ∧ IR 0 1 r ∧ u = [(h0, .inr (10, vL 67 Gh)), (h_s, .inl (cI, 335, .inl g_s)), (h_undone, .inl (cI, 192, .inl g_undone)), (h_bestYard, .inl (cI, 4, .inl f_bestYard)), (h_bestCrew, .inl (cI, 4, .inl f_bestCrew)), (h_lineHeights, .inl (cI, 12, .inl f_lineHeights))]) := by
  refine CI_mk (by decide) (Nat.le_of_ble_eq_true rfl) ?_
  intro p e s m below meth c A ls E hAe hG hsz hP hD hA hS hl
  obtain ⟨hx, hb, hr, hw, hown, hlocks, hml, hnm⟩ := E
  have hK := hG.1
  have i_x_undoMany : 0 ≤ x_undoMany.toInt ∧ x_undoMany.toInt ≤ 8 := i_x_undoMany
  have i_x_hasBest : 0 ≤ x_hasBest.toInt ∧ x_hasBest.toInt ≤ 1 := i_x_hasBest
  have i_x_hasLine : 0 ≤ x_hasLine.toInt ∧ x_hasLine.toInt ≤ 1 := i_x_hasLine
  have hl : lv_has ls 4 [(0, .ref h0), (1, .int p0)] := hl
  refine lv_aload_n hx hb dX10_take_0 rfl (lv_at hl 0 rfl) ?_
  refine lv_iconst (v := 0) hx hb dX10_take_1 (by decide) ?_
  refine put_f (D := D) (ci := 10) (v := .int 0) (ty := .int) (C := RX10) (T := TX10) (N := 67) hx hb hw inAX10 tyX10 tyX10_ok nmX10 hown hK hP hD hS 0 rfl rfl 0 (by decide) (hw _ q_1261) (fun _ h9 => h9) rfl (by decide +kernel) rfl rfl dX10_take_2 (fun H locs F1 eF1 hP hD hS => ?_)
  have hP : va_P D vwCl [(h0, .inr (10, vL 67 F1)), (h_s, .inl (cI, 335, .inl f_s)), (h_undone, .inl (cI, 192, .inl f_undone)), (h_bestYard, .inl (cI, 4, .inl f_bestYard)), (h_bestCrew, .inl (cI, 4, .inl f_bestCrew)), (h_lineHeights, .inl (cI, 12, .inl f_lineHeights))] H := hP
  have hD : va_D A [(h0, .inr (10, vL 67 F1)), (h_s, .inl (cI, 335, .inl f_s)), (h_undone, .inl (cI, 192, .inl f_undone)), (h_bestYard, .inl (cI, 4, .inl f_bestYard)), (h_bestCrew, .inl (cI, 4, .inl f_bestCrew)), (h_lineHeights, .inl (cI, 12, .inl f_lineHeights))] := hD
  refine lv_iload_n hx hb dX10_take_5 rfl (lv_at hl 1 rfl) ?_
  refine lv_if_ne (tgt := 73) hx hb dX10_take_6 (by decide) (fun c2 => ?_) (fun c2 => ?_)
  · have dc2 : p0.toInt ≠ 0 := ne_i (a := p0.toInt) (b := 0) rfl rfl c2
    refine lv_iload_n hx hb dX10_take_73 rfl (lv_at hl 1 rfl) ?_
    refine lv_iconst (v := 1) hx hb dX10_take_74 (by decide) ?_
    refine lv_icmp_ne (tgt := 111) hx hb dX10_take_75 (by decide) (fun c3 => ?_) (fun c3 => ?_)
    · have dc3 : p0.toInt ≠ 1 := ne_i (a := p0.toInt) (b := 1) rfl rfl c3
      refine lv_iconst (v := 0) hx hb dX10_take_111 (by decide) ?_
      refine lv_istore_n (lv' := [(2, .int 0), (0, .ref h0), (1, .int p0)]) hx hb dX10_take_112 rfl hl (by decide) rfl (fun ls hl => ?_)
      refine lv_iconst (v := 0) hx hb dX10_take_113 (by decide) ?_
      refine lv_istore_n (lv' := [(3, .int 0), (2, .int 0), (0, .ref h0), (1, .int p0)]) hx hb dX10_take_114 rfl hl (by decide) rfl (fun ls hl => ?_)
      refine mloop (α := (Int32) × (Int32)) (nL := 4) (D := D) (A := A) (H0 := s.heap) (fun a => (0 - a.1.toInt).toNat) (fun a => IR 0 0 a.1 ∧ IR 0 0 a.2) (fun a => [(h0, .inr (10, vL 67 F1)), (h_s, .inl (cI, 335, .inl f_s)), (h_undone, .inl (cI, 192, .inl f_undone)), (h_bestYard, .inl (cI, 4, .inl f_bestYard)), (h_bestCrew, .inl (cI, 4, .inl f_bestCrew)), (h_lineHeights, .inl (cI, 12, .inl f_lineHeights))]) (fun a => [(3, .int a.1), (2, .int a.2), (0, .ref h0), (1, .int p0)]) (fun H locs ls => W p l e ({ frames := 1, cells := 0, slots := 0, locals := 21 } : Room) s m [.ref h0, .int p0].toArray below meth c H locs 0 0 (MQ below (va_Qi (fun (r : Int32) (u : va_W) => ∃ (Gh : Nat → Value) (y_undoMany : Int32) (g_s : Nat → Int32) (g_undone : Nat → Int32), SAME [0, 41] Fh Gh ∧ Gh 0 = .int 0 ∧ Gh 41 = .int y_undoMany ∧ IR 0 8 y_undoMany ∧ SG 153 153 0 44 g_s ∧ SG 0 0 0 40 g_s ∧ SG 5 5 0 12 g_s ∧ SG 6 6 0 12 g_s ∧ SG 7 7 0 6 g_s ∧ SG 44 55 0 9 g_s ∧ KW 0 g_s ∧ SG 105 108 0 11 g_s ∧ SG 114 114 0 5 g_s ∧ SG 130 133 0 11 g_s ∧ SG 139 139 0 5 g_s ∧ US bs g_s ∧ SG 1 4 0 11 g_undone ∧ SG 10 10 0 5 g_undone ∧ SG 25 28 0 11 g_undone ∧ SG 34 34 0 5 g_undone ∧ SG 49 52 0 11 g_undone ∧ SG 58 58 0 5 g_undone ∧ SG 73 76 0 11 g_undone ∧ SG 82 82 0 5 g_undone ∧ SG 97 100 0 11 g_undone ∧ SG 106 106 0 5 g_undone ∧ SG 121 124 0 11 g_undone ∧ SG 130 130 0 5 g_undone ∧ SG 145 148 0 11 g_undone ∧ SG 154 154 0 5 g_undone ∧ SG 169 172 0 11 g_undone ∧ SG 178 178 0 5 g_undone ∧ IR 0 1 r ∧ u = [(h0, .inr (10, vL 67 Gh)), (h_s, .inl (cI, 335, .inl g_s)), (h_undone, .inl (cI, 192, .inl g_undone)), (h_bestYard, .inl (cI, 4, .inl f_bestYard)), (h_bestCrew, .inl (cI, 4, .inl f_bestCrew)), (h_lineHeights, .inl (cI, 12, .inl f_lineHeights))]) (PO D A) A) [.ref h0, .int p0].toArray s 0 0 A) (F0 m 115 ls [])) ?_ (0, 0) ⟨(show 0 ≤ (0 : Int32).toInt ∧ (0 : Int32).toInt ≤ 0 by decide), (show 0 ≤ (0 : Int32).toInt ∧ (0 : Int32).toInt ≤ 0 by decide)⟩ _ _ _ hP hD hS hl
      rintro ⟨u4, u5⟩ ⟨i6, i7⟩ ih H locs ls hP hD hS hl
      have i6 : 0 ≤ u4.toInt ∧ u4.toInt ≤ 0 := i6
      have i7 : 0 ≤ u5.toInt ∧ u5.toInt ≤ 0 := i7
      have hP : va_P D vwCl [(h0, .inr (10, vL 67 F1)), (h_s, .inl (cI, 335, .inl f_s)), (h_undone, .inl (cI, 192, .inl f_undone)), (h_bestYard, .inl (cI, 4, .inl f_bestYard)), (h_bestCrew, .inl (cI, 4, .inl f_bestCrew)), (h_lineHeights, .inl (cI, 12, .inl f_lineHeights))] H := hP
      have hD : va_D A [(h0, .inr (10, vL 67 F1)), (h_s, .inl (cI, 335, .inl f_s)), (h_undone, .inl (cI, 192, .inl f_undone)), (h_bestYard, .inl (cI, 4, .inl f_bestYard)), (h_bestCrew, .inl (cI, 4, .inl f_bestCrew)), (h_lineHeights, .inl (cI, 12, .inl f_lineHeights))] := hD
      have hl : lv_has ls 4 [(3, .int u4), (2, .int u5), (0, .ref h0), (1, .int p0)] := hl
      refine lv_iload_n hx hb dX10_take_115 rfl (lv_at hl 0 rfl) ?_
      refine lv_iconst (v := 4) hx hb dX10_take_116 (by decide) ?_
      refine lv_icmp_ge (tgt := 154) hx hb dX10_take_117 (by decide) (fun c8 => False.elim (bad_le (le_i (a := 4) (b := u4.toInt) rfl rfl c8) (Int.le_refl _) i6.2 (by decide))) (fun c8 => ?_)
      have dc8 : u4.toInt < 4 := nle_i (a := 4) (b := u4.toInt) rfl rfl c8
      refine lv_iload_n hx hb dX10_take_120 rfl (lv_at hl 1 rfl) ?_
      refine lv_if_eq (tgt := 154) hx hb dX10_take_121 (by decide) (fun c9 => ?_) (fun c9 => False.elim (bad_ne (ne_i (a := u5.toInt) (b := 0) rfl rfl c9) i7 ⟨Int.le_refl _, Int.le_refl _⟩ (by decide)))
      have dc9 : u5.toInt = 0 := eq_i (a := u5.toInt) (b := 0) rfl rfl c9
      refine lv_iload_n hx hb dX10_take_154 rfl (lv_at hl 1 rfl) ?_
      refine lv_if_ne (tgt := 160) hx hb dX10_take_155 (by decide) (fun c10 => False.elim (bad_ne (ne_i (a := u5.toInt) (b := 0) rfl rfl c10) i7 ⟨Int.le_refl _, Int.le_refl _⟩ (by decide))) (fun c10 => ?_)
      have dc10 : u5.toInt = 0 := eq_i (a := u5.toInt) (b := 0) rfl rfl c10
      refine lv_iconst (v := 0) hx hb dX10_take_158 (by decide) ?_
      exact ret_i (v := 0) hx hb hr hlocks hS hP hD dX10_take_159 rfl (Nat.le_of_ble_eq_true rfl) (Nat.le_of_ble_eq_true rfl) ⟨F1, x_undoMany, f_s, f_undone, (SAME.up eF1 SAME.rf (by decide)), (get_eq eF1), (get_ne eF1 (by decide) e_undoMany), i_x_undoMany, s_s_153, s_s_0, s_s_5, s_s_6, s_s_7, s_s_44, s_s_K0, s_s_105, s_s_114, s_s_130, s_s_139, s_s_US, s_undone_1, s_undone_10, s_undone_25, s_undone_34, s_undone_49, s_undone_58, s_undone_73, s_undone_82, s_undone_97, s_undone_106, s_undone_121, s_undone_130, s_undone_145, s_undone_154, s_undone_169, s_undone_178, (show 0 ≤ (0 : Int32).toInt ∧ (0 : Int32).toInt ≤ 1 by decide), rfl⟩
    · have dc3 : p0.toInt = 1 := eq_i (a := p0.toInt) (b := 1) rfl rfl c3
      have k11 : 1 ≤ p0.toInt ∧ p0.toInt ≤ 1 := ⟨Int.le_trans (Int.le_refl _) (Int.le_of_eq dc3.symm), Int.le_trans (Int.le_of_eq dc3) (Int.le_refl _)⟩
      refine lv_aload_n hx hb dX10_take_78 rfl (lv_at hl 0 rfl) ?_
      have n12 : F1 51 = .int x_hasBest := (get_ne eF1 (by decide) e_hasBest)
      refine get_f (D := D) (ci := 10) (v := .int x_hasBest) (C := RX10) (T := TX10) (N := 67) hx hb hw inAX10 hown hK hP 0 rfl rfl 51 (by decide) (hw _ q_1312) (fun _ h9 => h9) n12 dX10_take_79 ?_
      refine lv_if_eq (tgt := 111) hx hb dX10_take_82 (by decide) (fun c13 => ?_) (fun c13 => ?_)
      · have dc13 : x_hasBest.toInt = 0 := eq_i (a := x_hasBest.toInt) (b := 0) rfl rfl c13
        have k14 : 0 ≤ x_hasBest.toInt ∧ x_hasBest.toInt ≤ 0 := ⟨i_x_hasBest.1, Int.le_trans (Int.le_of_eq dc13) (Int.le_refl _)⟩
        refine lv_iconst (v := 0) hx hb dX10_take_111 (by decide) ?_
        refine lv_istore_n (lv' := [(2, .int 0), (0, .ref h0), (1, .int p0)]) hx hb dX10_take_112 rfl hl (by decide) rfl (fun ls hl => ?_)
        refine lv_iconst (v := 0) hx hb dX10_take_113 (by decide) ?_
        refine lv_istore_n (lv' := [(3, .int 0), (2, .int 0), (0, .ref h0), (1, .int p0)]) hx hb dX10_take_114 rfl hl (by decide) rfl (fun ls hl => ?_)
        refine mloop (α := (Int32) × (Int32)) (nL := 4) (D := D) (A := A) (H0 := s.heap) (fun a => (0 - a.1.toInt).toNat) (fun a => IR 0 0 a.1 ∧ IR 0 0 a.2) (fun a => [(h0, .inr (10, vL 67 F1)), (h_s, .inl (cI, 335, .inl f_s)), (h_undone, .inl (cI, 192, .inl f_undone)), (h_bestYard, .inl (cI, 4, .inl f_bestYard)), (h_bestCrew, .inl (cI, 4, .inl f_bestCrew)), (h_lineHeights, .inl (cI, 12, .inl f_lineHeights))]) (fun a => [(3, .int a.1), (2, .int a.2), (0, .ref h0), (1, .int p0)]) (fun H locs ls => W p l e ({ frames := 1, cells := 0, slots := 0, locals := 21 } : Room) s m [.ref h0, .int p0].toArray below meth c H locs 0 0 (MQ below (va_Qi (fun (r : Int32) (u : va_W) => ∃ (Gh : Nat → Value) (y_undoMany : Int32) (g_s : Nat → Int32) (g_undone : Nat → Int32), SAME [0, 41] Fh Gh ∧ Gh 0 = .int 0 ∧ Gh 41 = .int y_undoMany ∧ IR 0 8 y_undoMany ∧ SG 153 153 0 44 g_s ∧ SG 0 0 0 40 g_s ∧ SG 5 5 0 12 g_s ∧ SG 6 6 0 12 g_s ∧ SG 7 7 0 6 g_s ∧ SG 44 55 0 9 g_s ∧ KW 0 g_s ∧ SG 105 108 0 11 g_s ∧ SG 114 114 0 5 g_s ∧ SG 130 133 0 11 g_s ∧ SG 139 139 0 5 g_s ∧ US bs g_s ∧ SG 1 4 0 11 g_undone ∧ SG 10 10 0 5 g_undone ∧ SG 25 28 0 11 g_undone ∧ SG 34 34 0 5 g_undone ∧ SG 49 52 0 11 g_undone ∧ SG 58 58 0 5 g_undone ∧ SG 73 76 0 11 g_undone ∧ SG 82 82 0 5 g_undone ∧ SG 97 100 0 11 g_undone ∧ SG 106 106 0 5 g_undone ∧ SG 121 124 0 11 g_undone ∧ SG 130 130 0 5 g_undone ∧ SG 145 148 0 11 g_undone ∧ SG 154 154 0 5 g_undone ∧ SG 169 172 0 11 g_undone ∧ SG 178 178 0 5 g_undone ∧ IR 0 1 r ∧ u = [(h0, .inr (10, vL 67 Gh)), (h_s, .inl (cI, 335, .inl g_s)), (h_undone, .inl (cI, 192, .inl g_undone)), (h_bestYard, .inl (cI, 4, .inl f_bestYard)), (h_bestCrew, .inl (cI, 4, .inl f_bestCrew)), (h_lineHeights, .inl (cI, 12, .inl f_lineHeights))]) (PO D A) A) [.ref h0, .int p0].toArray s 0 0 A) (F0 m 115 ls [])) ?_ (0, 0) ⟨(show 0 ≤ (0 : Int32).toInt ∧ (0 : Int32).toInt ≤ 0 by decide), (show 0 ≤ (0 : Int32).toInt ∧ (0 : Int32).toInt ≤ 0 by decide)⟩ _ _ _ hP hD hS hl
        rintro ⟨u15, u16⟩ ⟨i17, i18⟩ ih H locs ls hP hD hS hl
        have i17 : 0 ≤ u15.toInt ∧ u15.toInt ≤ 0 := i17
        have i18 : 0 ≤ u16.toInt ∧ u16.toInt ≤ 0 := i18
        have hP : va_P D vwCl [(h0, .inr (10, vL 67 F1)), (h_s, .inl (cI, 335, .inl f_s)), (h_undone, .inl (cI, 192, .inl f_undone)), (h_bestYard, .inl (cI, 4, .inl f_bestYard)), (h_bestCrew, .inl (cI, 4, .inl f_bestCrew)), (h_lineHeights, .inl (cI, 12, .inl f_lineHeights))] H := hP
        have hD : va_D A [(h0, .inr (10, vL 67 F1)), (h_s, .inl (cI, 335, .inl f_s)), (h_undone, .inl (cI, 192, .inl f_undone)), (h_bestYard, .inl (cI, 4, .inl f_bestYard)), (h_bestCrew, .inl (cI, 4, .inl f_bestCrew)), (h_lineHeights, .inl (cI, 12, .inl f_lineHeights))] := hD
        have hl : lv_has ls 4 [(3, .int u15), (2, .int u16), (0, .ref h0), (1, .int p0)] := hl
        refine lv_iload_n hx hb dX10_take_115 rfl (lv_at hl 0 rfl) ?_
        refine lv_iconst (v := 4) hx hb dX10_take_116 (by decide) ?_
        refine lv_icmp_ge (tgt := 154) hx hb dX10_take_117 (by decide) (fun c19 => False.elim (bad_le (le_i (a := 4) (b := u15.toInt) rfl rfl c19) (Int.le_refl _) i17.2 (by decide))) (fun c19 => ?_)
        have dc19 : u15.toInt < 4 := nle_i (a := 4) (b := u15.toInt) rfl rfl c19
        refine lv_iload_n hx hb dX10_take_120 rfl (lv_at hl 1 rfl) ?_
        refine lv_if_eq (tgt := 154) hx hb dX10_take_121 (by decide) (fun c20 => ?_) (fun c20 => False.elim (bad_ne (ne_i (a := u16.toInt) (b := 0) rfl rfl c20) i18 ⟨Int.le_refl _, Int.le_refl _⟩ (by decide)))
        have dc20 : u16.toInt = 0 := eq_i (a := u16.toInt) (b := 0) rfl rfl c20
        refine lv_iload_n hx hb dX10_take_154 rfl (lv_at hl 1 rfl) ?_
        refine lv_if_ne (tgt := 160) hx hb dX10_take_155 (by decide) (fun c21 => False.elim (bad_ne (ne_i (a := u16.toInt) (b := 0) rfl rfl c21) i18 ⟨Int.le_refl _, Int.le_refl _⟩ (by decide))) (fun c21 => ?_)
        have dc21 : u16.toInt = 0 := eq_i (a := u16.toInt) (b := 0) rfl rfl c21
        refine lv_iconst (v := 0) hx hb dX10_take_158 (by decide) ?_
        exact ret_i (v := 0) hx hb hr hlocks hS hP hD dX10_take_159 rfl (Nat.le_of_ble_eq_true rfl) (Nat.le_of_ble_eq_true rfl) ⟨F1, x_undoMany, f_s, f_undone, (SAME.up eF1 SAME.rf (by decide)), (get_eq eF1), (get_ne eF1 (by decide) e_undoMany), i_x_undoMany, s_s_153, s_s_0, s_s_5, s_s_6, s_s_7, s_s_44, s_s_K0, s_s_105, s_s_114, s_s_130, s_s_139, s_s_US, s_undone_1, s_undone_10, s_undone_25, s_undone_34, s_undone_49, s_undone_58, s_undone_73, s_undone_82, s_undone_97, s_undone_106, s_undone_121, s_undone_130, s_undone_145, s_undone_154, s_undone_169, s_undone_178, (show 0 ≤ (0 : Int32).toInt ∧ (0 : Int32).toInt ≤ 1 by decide), rfl⟩
      · have dc13 : x_hasBest.toInt ≠ 0 := ne_i (a := x_hasBest.toInt) (b := 0) rfl rfl c13
        have k22 : 1 ≤ x_hasBest.toInt ∧ x_hasBest.toInt ≤ 1 := ⟨ne_lo dc13 i_x_hasBest.1 ⟨Int.le_refl _, Int.le_refl _⟩ (by decide), i_x_hasBest.2⟩
        refine lv_aload_n hx hb dX10_take_85 rfl (lv_at hl 0 rfl) ?_
        have n23 : F1 45 = .int x_bestId := (get_ne eF1 (by decide) e_bestId)
        refine get_f (D := D) (ci := 10) (v := .int x_bestId) (C := RX10) (T := TX10) (N := 67) hx hb hw inAX10 hown hK hP 0 rfl rfl 45 (by decide) (hw _ q_1306) (fun _ h9 => h9) n23 dX10_take_86 ?_
        refine lv_aload_n hx hb dX10_take_89 rfl (lv_at hl 0 rfl) ?_
        have n24 : F1 6 = .ref h_s := (get_ne eF1 (by decide) e_s)
        refine get_f (D := D) (ci := 10) (v := .ref h_s) (C := RX10) (T := TX10) (N := 67) hx hb hw inAX10 hown hK hP 0 rfl rfl 6 (by decide) (hw _ q_1267) (fun _ h9 => h9) n24 dX10_take_90 ?_
        refine lv_sipush (v := 334) hx hb dX10_take_93 (by decide) ?_
        refine iald_n hx hb hK hP 1 0 rfl rfl 334 rfl (Nat.le_of_ble_eq_true rfl) (Nat.le_of_ble_eq_true rfl) rfl dX10_take_96 ?_
        refine lv_topi (fun v25 ev25 => ?_)
        refine lv_icmp_ne (tgt := 111) hx hb dX10_take_97 (by decide) (fun c26 => ?_) (fun c26 => ?_)
        · have dc26 : x_bestId.toInt ≠ v25.toInt := ne_i (a := x_bestId.toInt) (b := v25.toInt) rfl rfl c26
          refine lv_iconst (v := 0) hx hb dX10_take_111 (by decide) ?_
          refine lv_istore_n (lv' := [(2, .int 0), (0, .ref h0), (1, .int p0)]) hx hb dX10_take_112 rfl hl (by decide) rfl (fun ls hl => ?_)
          refine lv_iconst (v := 0) hx hb dX10_take_113 (by decide) ?_
          refine lv_istore_n (lv' := [(3, .int 0), (2, .int 0), (0, .ref h0), (1, .int p0)]) hx hb dX10_take_114 rfl hl (by decide) rfl (fun ls hl => ?_)
          refine mloop (α := (Int32) × (Int32)) (nL := 4) (D := D) (A := A) (H0 := s.heap) (fun a => (0 - a.1.toInt).toNat) (fun a => IR 0 0 a.1 ∧ IR 0 0 a.2) (fun a => [(h0, .inr (10, vL 67 F1)), (h_s, .inl (cI, 335, .inl f_s)), (h_undone, .inl (cI, 192, .inl f_undone)), (h_bestYard, .inl (cI, 4, .inl f_bestYard)), (h_bestCrew, .inl (cI, 4, .inl f_bestCrew)), (h_lineHeights, .inl (cI, 12, .inl f_lineHeights))]) (fun a => [(3, .int a.1), (2, .int a.2), (0, .ref h0), (1, .int p0)]) (fun H locs ls => W p l e ({ frames := 1, cells := 0, slots := 0, locals := 21 } : Room) s m [.ref h0, .int p0].toArray below meth c H locs 0 0 (MQ below (va_Qi (fun (r : Int32) (u : va_W) => ∃ (Gh : Nat → Value) (y_undoMany : Int32) (g_s : Nat → Int32) (g_undone : Nat → Int32), SAME [0, 41] Fh Gh ∧ Gh 0 = .int 0 ∧ Gh 41 = .int y_undoMany ∧ IR 0 8 y_undoMany ∧ SG 153 153 0 44 g_s ∧ SG 0 0 0 40 g_s ∧ SG 5 5 0 12 g_s ∧ SG 6 6 0 12 g_s ∧ SG 7 7 0 6 g_s ∧ SG 44 55 0 9 g_s ∧ KW 0 g_s ∧ SG 105 108 0 11 g_s ∧ SG 114 114 0 5 g_s ∧ SG 130 133 0 11 g_s ∧ SG 139 139 0 5 g_s ∧ US bs g_s ∧ SG 1 4 0 11 g_undone ∧ SG 10 10 0 5 g_undone ∧ SG 25 28 0 11 g_undone ∧ SG 34 34 0 5 g_undone ∧ SG 49 52 0 11 g_undone ∧ SG 58 58 0 5 g_undone ∧ SG 73 76 0 11 g_undone ∧ SG 82 82 0 5 g_undone ∧ SG 97 100 0 11 g_undone ∧ SG 106 106 0 5 g_undone ∧ SG 121 124 0 11 g_undone ∧ SG 130 130 0 5 g_undone ∧ SG 145 148 0 11 g_undone ∧ SG 154 154 0 5 g_undone ∧ SG 169 172 0 11 g_undone ∧ SG 178 178 0 5 g_undone ∧ IR 0 1 r ∧ u = [(h0, .inr (10, vL 67 Gh)), (h_s, .inl (cI, 335, .inl g_s)), (h_undone, .inl (cI, 192, .inl g_undone)), (h_bestYard, .inl (cI, 4, .inl f_bestYard)), (h_bestCrew, .inl (cI, 4, .inl f_bestCrew)), (h_lineHeights, .inl (cI, 12, .inl f_lineHeights))]) (PO D A) A) [.ref h0, .int p0].toArray s 0 0 A) (F0 m 115 ls [])) ?_ (0, 0) ⟨(show 0 ≤ (0 : Int32).toInt ∧ (0 : Int32).toInt ≤ 0 by decide), (show 0 ≤ (0 : Int32).toInt ∧ (0 : Int32).toInt ≤ 0 by decide)⟩ _ _ _ hP hD hS hl
          rintro ⟨u27, u28⟩ ⟨i29, i30⟩ ih H locs ls hP hD hS hl
          have i29 : 0 ≤ u27.toInt ∧ u27.toInt ≤ 0 := i29
          have i30 : 0 ≤ u28.toInt ∧ u28.toInt ≤ 0 := i30
          have hP : va_P D vwCl [(h0, .inr (10, vL 67 F1)), (h_s, .inl (cI, 335, .inl f_s)), (h_undone, .inl (cI, 192, .inl f_undone)), (h_bestYard, .inl (cI, 4, .inl f_bestYard)), (h_bestCrew, .inl (cI, 4, .inl f_bestCrew)), (h_lineHeights, .inl (cI, 12, .inl f_lineHeights))] H := hP
          have hD : va_D A [(h0, .inr (10, vL 67 F1)), (h_s, .inl (cI, 335, .inl f_s)), (h_undone, .inl (cI, 192, .inl f_undone)), (h_bestYard, .inl (cI, 4, .inl f_bestYard)), (h_bestCrew, .inl (cI, 4, .inl f_bestCrew)), (h_lineHeights, .inl (cI, 12, .inl f_lineHeights))] := hD
          have hl : lv_has ls 4 [(3, .int u27), (2, .int u28), (0, .ref h0), (1, .int p0)] := hl
          refine lv_iload_n hx hb dX10_take_115 rfl (lv_at hl 0 rfl) ?_
          refine lv_iconst (v := 4) hx hb dX10_take_116 (by decide) ?_
          refine lv_icmp_ge (tgt := 154) hx hb dX10_take_117 (by decide) (fun c31 => False.elim (bad_le (le_i (a := 4) (b := u27.toInt) rfl rfl c31) (Int.le_refl _) i29.2 (by decide))) (fun c31 => ?_)
          have dc31 : u27.toInt < 4 := nle_i (a := 4) (b := u27.toInt) rfl rfl c31
          refine lv_iload_n hx hb dX10_take_120 rfl (lv_at hl 1 rfl) ?_
          refine lv_if_eq (tgt := 154) hx hb dX10_take_121 (by decide) (fun c32 => ?_) (fun c32 => False.elim (bad_ne (ne_i (a := u28.toInt) (b := 0) rfl rfl c32) i30 ⟨Int.le_refl _, Int.le_refl _⟩ (by decide)))
          have dc32 : u28.toInt = 0 := eq_i (a := u28.toInt) (b := 0) rfl rfl c32
          refine lv_iload_n hx hb dX10_take_154 rfl (lv_at hl 1 rfl) ?_
          refine lv_if_ne (tgt := 160) hx hb dX10_take_155 (by decide) (fun c33 => False.elim (bad_ne (ne_i (a := u28.toInt) (b := 0) rfl rfl c33) i30 ⟨Int.le_refl _, Int.le_refl _⟩ (by decide))) (fun c33 => ?_)
          have dc33 : u28.toInt = 0 := eq_i (a := u28.toInt) (b := 0) rfl rfl c33
          refine lv_iconst (v := 0) hx hb dX10_take_158 (by decide) ?_
          exact ret_i (v := 0) hx hb hr hlocks hS hP hD dX10_take_159 rfl (Nat.le_of_ble_eq_true rfl) (Nat.le_of_ble_eq_true rfl) ⟨F1, x_undoMany, f_s, f_undone, (SAME.up eF1 SAME.rf (by decide)), (get_eq eF1), (get_ne eF1 (by decide) e_undoMany), i_x_undoMany, s_s_153, s_s_0, s_s_5, s_s_6, s_s_7, s_s_44, s_s_K0, s_s_105, s_s_114, s_s_130, s_s_139, s_s_US, s_undone_1, s_undone_10, s_undone_25, s_undone_34, s_undone_49, s_undone_58, s_undone_73, s_undone_82, s_undone_97, s_undone_106, s_undone_121, s_undone_130, s_undone_145, s_undone_154, s_undone_169, s_undone_178, (show 0 ≤ (0 : Int32).toInt ∧ (0 : Int32).toInt ≤ 1 by decide), rfl⟩
        · have dc26 : x_bestId.toInt = v25.toInt := eq_i (a := x_bestId.toInt) (b := v25.toInt) rfl rfl c26
          refine lv_aload_n hx hb dX10_take_100 rfl (lv_at hl 0 rfl) ?_
          refine call_Vi (wr := [(h_undone, .inl (cI, 192, .inl f_undone)), (h_bestYard, .inl (cI, 4, .inl f_bestYard)), (h_bestCrew, .inl (cI, 4, .inl f_bestCrew)), (h_lineHeights, .inl (cI, 12, .inl f_lineHeights))]) (As := []) (rest := []) hx hb hml hown hw (m_X10_hasCrew l D cI cJ cB cP cM cZ h0 h_s F1 f_s bs _ n24 s_s_K0 s_s_US s_s_0 s_s_105 s_s_114 s_s_130 s_s_139 s_s_153 s_s_44 s_s_5 s_s_6 s_s_7) wV_X10_281_X10_hasCrew dX10_take_101 hK hP hD hS hA [0, 1] [2, 3, 4, 5] rfl rfl (by decide) (by decide) (by decide) 0 10 rfl rfl GG.fb hG.at hl.1 rfl (Nat.le_of_ble_eq_true rfl) ⟨(Nat.le_of_ble_eq_true rfl), (Nat.le_of_ble_eq_true rfl)⟩ ⟨(Nat.le_of_ble_eq_true rfl), (Nat.le_of_ble_eq_true rfl)⟩ (fun r34 u H locs hp hP hD hS => ?_)
          rcases hp with ⟨rfl, rfl⟩ | ⟨rfl, rfl⟩
          · have hP : va_P D vwCl [(h_undone, .inl (cI, 192, .inl f_undone)), (h_bestYard, .inl (cI, 4, .inl f_bestYard)), (h_bestCrew, .inl (cI, 4, .inl f_bestCrew)), (h_lineHeights, .inl (cI, 12, .inl f_lineHeights)), (h0, .inr (10, vL 67 F1)), (h_s, .inl (cI, 335, .inl f_s))] H := hP
            have hD : va_D A [(h_undone, .inl (cI, 192, .inl f_undone)), (h_bestYard, .inl (cI, 4, .inl f_bestYard)), (h_bestCrew, .inl (cI, 4, .inl f_bestCrew)), (h_lineHeights, .inl (cI, 12, .inl f_lineHeights)), (h0, .inr (10, vL 67 F1)), (h_s, .inl (cI, 335, .inl f_s))] := hD
            refine W.widen (k := 0) (n := 0) (Nat.le_of_ble_eq_true rfl) (Nat.le_of_ble_eq_true rfl) ?_
            refine lv_if_eq (tgt := 111) hx hb dX10_take_104 (by decide) (fun _ => ?_) (fun g => absurd (by decide) g)
            refine lv_iconst (v := 0) hx hb dX10_take_111 (by decide) ?_
            refine lv_istore_n (lv' := [(2, .int 0), (0, .ref h0), (1, .int p0)]) hx hb dX10_take_112 rfl hl (by decide) rfl (fun ls hl => ?_)
            refine lv_iconst (v := 0) hx hb dX10_take_113 (by decide) ?_
            refine lv_istore_n (lv' := [(3, .int 0), (2, .int 0), (0, .ref h0), (1, .int p0)]) hx hb dX10_take_114 rfl hl (by decide) rfl (fun ls hl => ?_)
            refine mloop (α := (Int32) × (Int32)) (nL := 4) (D := D) (A := A) (H0 := s.heap) (fun a => (0 - a.1.toInt).toNat) (fun a => IR 0 0 a.1 ∧ IR 0 0 a.2) (fun a => [(h_undone, .inl (cI, 192, .inl f_undone)), (h_bestYard, .inl (cI, 4, .inl f_bestYard)), (h_bestCrew, .inl (cI, 4, .inl f_bestCrew)), (h_lineHeights, .inl (cI, 12, .inl f_lineHeights)), (h0, .inr (10, vL 67 F1)), (h_s, .inl (cI, 335, .inl f_s))]) (fun a => [(3, .int a.1), (2, .int a.2), (0, .ref h0), (1, .int p0)]) (fun H locs ls => W p l e ({ frames := 1, cells := 0, slots := 0, locals := 21 } : Room) s m [.ref h0, .int p0].toArray below meth c H locs 0 0 (MQ below (va_Qi (fun (r : Int32) (u : va_W) => ∃ (Gh : Nat → Value) (y_undoMany : Int32) (g_s : Nat → Int32) (g_undone : Nat → Int32), SAME [0, 41] Fh Gh ∧ Gh 0 = .int 0 ∧ Gh 41 = .int y_undoMany ∧ IR 0 8 y_undoMany ∧ SG 153 153 0 44 g_s ∧ SG 0 0 0 40 g_s ∧ SG 5 5 0 12 g_s ∧ SG 6 6 0 12 g_s ∧ SG 7 7 0 6 g_s ∧ SG 44 55 0 9 g_s ∧ KW 0 g_s ∧ SG 105 108 0 11 g_s ∧ SG 114 114 0 5 g_s ∧ SG 130 133 0 11 g_s ∧ SG 139 139 0 5 g_s ∧ US bs g_s ∧ SG 1 4 0 11 g_undone ∧ SG 10 10 0 5 g_undone ∧ SG 25 28 0 11 g_undone ∧ SG 34 34 0 5 g_undone ∧ SG 49 52 0 11 g_undone ∧ SG 58 58 0 5 g_undone ∧ SG 73 76 0 11 g_undone ∧ SG 82 82 0 5 g_undone ∧ SG 97 100 0 11 g_undone ∧ SG 106 106 0 5 g_undone ∧ SG 121 124 0 11 g_undone ∧ SG 130 130 0 5 g_undone ∧ SG 145 148 0 11 g_undone ∧ SG 154 154 0 5 g_undone ∧ SG 169 172 0 11 g_undone ∧ SG 178 178 0 5 g_undone ∧ IR 0 1 r ∧ u = [(h0, .inr (10, vL 67 Gh)), (h_s, .inl (cI, 335, .inl g_s)), (h_undone, .inl (cI, 192, .inl g_undone)), (h_bestYard, .inl (cI, 4, .inl f_bestYard)), (h_bestCrew, .inl (cI, 4, .inl f_bestCrew)), (h_lineHeights, .inl (cI, 12, .inl f_lineHeights))]) (PO D A) A) [.ref h0, .int p0].toArray s 0 0 A) (F0 m 115 ls [])) ?_ (0, 0) ⟨(show 0 ≤ (0 : Int32).toInt ∧ (0 : Int32).toInt ≤ 0 by decide), (show 0 ≤ (0 : Int32).toInt ∧ (0 : Int32).toInt ≤ 0 by decide)⟩ _ _ _ hP hD hS hl
            rintro ⟨u36, u37⟩ ⟨i38, i39⟩ ih H locs ls hP hD hS hl
            have i38 : 0 ≤ u36.toInt ∧ u36.toInt ≤ 0 := i38
            have i39 : 0 ≤ u37.toInt ∧ u37.toInt ≤ 0 := i39
            have hP : va_P D vwCl [(h_undone, .inl (cI, 192, .inl f_undone)), (h_bestYard, .inl (cI, 4, .inl f_bestYard)), (h_bestCrew, .inl (cI, 4, .inl f_bestCrew)), (h_lineHeights, .inl (cI, 12, .inl f_lineHeights)), (h0, .inr (10, vL 67 F1)), (h_s, .inl (cI, 335, .inl f_s))] H := hP
            have hD : va_D A [(h_undone, .inl (cI, 192, .inl f_undone)), (h_bestYard, .inl (cI, 4, .inl f_bestYard)), (h_bestCrew, .inl (cI, 4, .inl f_bestCrew)), (h_lineHeights, .inl (cI, 12, .inl f_lineHeights)), (h0, .inr (10, vL 67 F1)), (h_s, .inl (cI, 335, .inl f_s))] := hD
            have hl : lv_has ls 4 [(3, .int u36), (2, .int u37), (0, .ref h0), (1, .int p0)] := hl
            refine lv_iload_n hx hb dX10_take_115 rfl (lv_at hl 0 rfl) ?_
            refine lv_iconst (v := 4) hx hb dX10_take_116 (by decide) ?_
            refine lv_icmp_ge (tgt := 154) hx hb dX10_take_117 (by decide) (fun c40 => False.elim (bad_le (le_i (a := 4) (b := u36.toInt) rfl rfl c40) (Int.le_refl _) i38.2 (by decide))) (fun c40 => ?_)
            have dc40 : u36.toInt < 4 := nle_i (a := 4) (b := u36.toInt) rfl rfl c40
            refine lv_iload_n hx hb dX10_take_120 rfl (lv_at hl 1 rfl) ?_
            refine lv_if_eq (tgt := 154) hx hb dX10_take_121 (by decide) (fun c41 => ?_) (fun c41 => False.elim (bad_ne (ne_i (a := u37.toInt) (b := 0) rfl rfl c41) i39 ⟨Int.le_refl _, Int.le_refl _⟩ (by decide)))
            have dc41 : u37.toInt = 0 := eq_i (a := u37.toInt) (b := 0) rfl rfl c41
            refine lv_iload_n hx hb dX10_take_154 rfl (lv_at hl 1 rfl) ?_
            refine lv_if_ne (tgt := 160) hx hb dX10_take_155 (by decide) (fun c42 => False.elim (bad_ne (ne_i (a := u37.toInt) (b := 0) rfl rfl c42) i39 ⟨Int.le_refl _, Int.le_refl _⟩ (by decide))) (fun c42 => ?_)
            have dc42 : u37.toInt = 0 := eq_i (a := u37.toInt) (b := 0) rfl rfl c42
            refine lv_iconst (v := 0) hx hb dX10_take_158 (by decide) ?_
            exact ret_i (v := 0) hx hb hr hlocks hS (hP.sub (ws' := [(h0, .inr (10, vL 67 F1)), (h_s, .inl (cI, 335, .inl f_s)), (h_undone, .inl (cI, 192, .inl f_undone)), (h_bestYard, .inl (cI, 4, .inl f_bestYard)), (h_bestCrew, .inl (cI, 4, .inl f_bestCrew)), (h_lineHeights, .inl (cI, 12, .inl f_lineHeights))]) [4, 5, 0, 1, 2, 3] rfl) (hD.sub (ws' := [(h0, .inr (10, vL 67 F1)), (h_s, .inl (cI, 335, .inl f_s)), (h_undone, .inl (cI, 192, .inl f_undone)), (h_bestYard, .inl (cI, 4, .inl f_bestYard)), (h_bestCrew, .inl (cI, 4, .inl f_bestCrew)), (h_lineHeights, .inl (cI, 12, .inl f_lineHeights))]) [4, 5, 0, 1, 2, 3] (by decide) rfl) dX10_take_159 rfl (Nat.le_of_ble_eq_true rfl) (Nat.le_of_ble_eq_true rfl) ⟨F1, x_undoMany, f_s, f_undone, (SAME.up eF1 SAME.rf (by decide)), (get_eq eF1), (get_ne eF1 (by decide) e_undoMany), i_x_undoMany, s_s_153, s_s_0, s_s_5, s_s_6, s_s_7, s_s_44, s_s_K0, s_s_105, s_s_114, s_s_130, s_s_139, s_s_US, s_undone_1, s_undone_10, s_undone_25, s_undone_34, s_undone_49, s_undone_58, s_undone_73, s_undone_82, s_undone_97, s_undone_106, s_undone_121, s_undone_130, s_undone_145, s_undone_154, s_undone_169, s_undone_178, (show 0 ≤ (0 : Int32).toInt ∧ (0 : Int32).toInt ≤ 1 by decide), rfl⟩
          · have hP : va_P D vwCl [(h_undone, .inl (cI, 192, .inl f_undone)), (h_bestYard, .inl (cI, 4, .inl f_bestYard)), (h_bestCrew, .inl (cI, 4, .inl f_bestCrew)), (h_lineHeights, .inl (cI, 12, .inl f_lineHeights)), (h0, .inr (10, vL 67 F1)), (h_s, .inl (cI, 335, .inl f_s))] H := hP
            have hD : va_D A [(h_undone, .inl (cI, 192, .inl f_undone)), (h_bestYard, .inl (cI, 4, .inl f_bestYard)), (h_bestCrew, .inl (cI, 4, .inl f_bestCrew)), (h_lineHeights, .inl (cI, 12, .inl f_lineHeights)), (h0, .inr (10, vL 67 F1)), (h_s, .inl (cI, 335, .inl f_s))] := hD
            refine W.widen (k := 0) (n := 0) (Nat.le_of_ble_eq_true rfl) (Nat.le_of_ble_eq_true rfl) ?_
            refine lv_if_eq (tgt := 111) hx hb dX10_take_104 (by decide) (fun g => absurd g (by decide)) (fun _ => ?_)
            refine lv_iconst (v := 1) hx hb dX10_take_107 (by decide) ?_
            refine lv_goto (tgt := 112) hx hb dX10_take_108 (by decide) ?_
            refine lv_istore_n (lv' := [(2, .int 1), (0, .ref h0), (1, .int p0)]) hx hb dX10_take_112 rfl hl (by decide) rfl (fun ls hl => ?_)
            refine lv_iconst (v := 0) hx hb dX10_take_113 (by decide) ?_
            refine lv_istore_n (lv' := [(3, .int 0), (2, .int 1), (0, .ref h0), (1, .int p0)]) hx hb dX10_take_114 rfl hl (by decide) rfl (fun ls hl => ?_)
            refine mloop (α := (Int32) × (Int32)) (nL := 4) (D := D) (A := A) (H0 := s.heap) (fun a => (4 - a.1.toInt).toNat) (fun a => IR 0 4 a.1 ∧ IR 0 1 a.2) (fun a => [(h_undone, .inl (cI, 192, .inl f_undone)), (h_bestYard, .inl (cI, 4, .inl f_bestYard)), (h_bestCrew, .inl (cI, 4, .inl f_bestCrew)), (h_lineHeights, .inl (cI, 12, .inl f_lineHeights)), (h0, .inr (10, vL 67 F1)), (h_s, .inl (cI, 335, .inl f_s))]) (fun a => [(3, .int a.1), (2, .int a.2), (0, .ref h0), (1, .int p0)]) (fun H locs ls => W p l e ({ frames := 1, cells := 0, slots := 0, locals := 21 } : Room) s m [.ref h0, .int p0].toArray below meth c H locs 0 0 (MQ below (va_Qi (fun (r : Int32) (u : va_W) => ∃ (Gh : Nat → Value) (y_undoMany : Int32) (g_s : Nat → Int32) (g_undone : Nat → Int32), SAME [0, 41] Fh Gh ∧ Gh 0 = .int 0 ∧ Gh 41 = .int y_undoMany ∧ IR 0 8 y_undoMany ∧ SG 153 153 0 44 g_s ∧ SG 0 0 0 40 g_s ∧ SG 5 5 0 12 g_s ∧ SG 6 6 0 12 g_s ∧ SG 7 7 0 6 g_s ∧ SG 44 55 0 9 g_s ∧ KW 0 g_s ∧ SG 105 108 0 11 g_s ∧ SG 114 114 0 5 g_s ∧ SG 130 133 0 11 g_s ∧ SG 139 139 0 5 g_s ∧ US bs g_s ∧ SG 1 4 0 11 g_undone ∧ SG 10 10 0 5 g_undone ∧ SG 25 28 0 11 g_undone ∧ SG 34 34 0 5 g_undone ∧ SG 49 52 0 11 g_undone ∧ SG 58 58 0 5 g_undone ∧ SG 73 76 0 11 g_undone ∧ SG 82 82 0 5 g_undone ∧ SG 97 100 0 11 g_undone ∧ SG 106 106 0 5 g_undone ∧ SG 121 124 0 11 g_undone ∧ SG 130 130 0 5 g_undone ∧ SG 145 148 0 11 g_undone ∧ SG 154 154 0 5 g_undone ∧ SG 169 172 0 11 g_undone ∧ SG 178 178 0 5 g_undone ∧ IR 0 1 r ∧ u = [(h0, .inr (10, vL 67 Gh)), (h_s, .inl (cI, 335, .inl g_s)), (h_undone, .inl (cI, 192, .inl g_undone)), (h_bestYard, .inl (cI, 4, .inl f_bestYard)), (h_bestCrew, .inl (cI, 4, .inl f_bestCrew)), (h_lineHeights, .inl (cI, 12, .inl f_lineHeights))]) (PO D A) A) [.ref h0, .int p0].toArray s 0 0 A) (F0 m 115 ls [])) ?_ (0, 1) ⟨(show 0 ≤ (0 : Int32).toInt ∧ (0 : Int32).toInt ≤ 4 by decide), (show 0 ≤ (1 : Int32).toInt ∧ (1 : Int32).toInt ≤ 1 by decide)⟩ _ _ _ hP hD hS hl
            rintro ⟨u43, u44⟩ ⟨i45, i46⟩ ih H locs ls hP hD hS hl
            have i45 : 0 ≤ u43.toInt ∧ u43.toInt ≤ 4 := i45
            have i46 : 0 ≤ u44.toInt ∧ u44.toInt ≤ 1 := i46
            have hP : va_P D vwCl [(h_undone, .inl (cI, 192, .inl f_undone)), (h_bestYard, .inl (cI, 4, .inl f_bestYard)), (h_bestCrew, .inl (cI, 4, .inl f_bestCrew)), (h_lineHeights, .inl (cI, 12, .inl f_lineHeights)), (h0, .inr (10, vL 67 F1)), (h_s, .inl (cI, 335, .inl f_s))] H := hP
            have hD : va_D A [(h_undone, .inl (cI, 192, .inl f_undone)), (h_bestYard, .inl (cI, 4, .inl f_bestYard)), (h_bestCrew, .inl (cI, 4, .inl f_bestCrew)), (h_lineHeights, .inl (cI, 12, .inl f_lineHeights)), (h0, .inr (10, vL 67 F1)), (h_s, .inl (cI, 335, .inl f_s))] := hD
            have hl : lv_has ls 4 [(3, .int u43), (2, .int u44), (0, .ref h0), (1, .int p0)] := hl
            refine lv_iload_n hx hb dX10_take_115 rfl (lv_at hl 0 rfl) ?_
            refine lv_iconst (v := 4) hx hb dX10_take_116 (by decide) ?_
            refine lv_icmp_ge (tgt := 154) hx hb dX10_take_117 (by decide) (fun c47 => ?_) (fun c47 => ?_)
            · have dc47 : 4 ≤ u43.toInt := le_i (a := 4) (b := u43.toInt) rfl rfl c47
              have k48 : 4 ≤ u43.toInt ∧ u43.toInt ≤ 4 := ⟨Int.le_trans (Int.le_refl _) dc47, i45.2⟩
              refine lv_iload_n hx hb dX10_take_154 rfl (lv_at hl 1 rfl) ?_
              refine lv_if_ne (tgt := 160) hx hb dX10_take_155 (by decide) (fun c49 => ?_) (fun c49 => ?_)
              · have dc49 : u44.toInt ≠ 0 := ne_i (a := u44.toInt) (b := 0) rfl rfl c49
                have k50 : 1 ≤ u44.toInt ∧ u44.toInt ≤ 1 := ⟨ne_lo dc49 i46.1 ⟨Int.le_refl _, Int.le_refl _⟩ (by decide), i46.2⟩
                refine lv_aload_n hx hb dX10_take_160 rfl (lv_at hl 2 rfl) ?_
                have n51 : F1 39 = .ref h_undone := (get_ne eF1 (by decide) e_undone)
                have n52 : F1 41 = .int x_undoMany := (get_ne eF1 (by decide) e_undoMany)
                refine call_Vv (wr := [(h_bestYard, .inl (cI, 4, .inl f_bestYard)), (h_bestCrew, .inl (cI, 4, .inl f_bestCrew)), (h_lineHeights, .inl (cI, 12, .inl f_lineHeights))]) (As := []) (rest := []) hx hb hml hown hw (m_X10_keeps l D cI cJ cB cP cM cZ h0 h_s h_undone F1 x_undoMany f_s f_undone bs _ n24 n51 n52 i_x_undoMany s_s_K0 s_s_US s_s_0 s_s_105 s_s_114 s_s_130 s_s_139 s_s_153 s_s_44 s_s_5 s_s_6 s_s_7 s_undone_1 s_undone_10 s_undone_106 s_undone_121 s_undone_130 s_undone_145 s_undone_154 s_undone_169 s_undone_178 s_undone_25 s_undone_34 s_undone_49 s_undone_58 s_undone_73 s_undone_82 s_undone_97) wV_X10_371_X10_keeps dX10_take_161 hK hP hD hS hA [4, 5, 0] [1, 2, 3] rfl rfl (by decide) (by decide) (by decide) 0 10 rfl rfl GG.fb hG.at hl.1 rfl (Nat.le_of_ble_eq_true rfl) ⟨(Nat.le_of_ble_eq_true rfl), (Nat.le_of_ble_eq_true rfl)⟩ ⟨(Nat.le_of_ble_eq_true rfl), (Nat.le_of_ble_eq_true rfl)⟩ (fun u H locs hp hP hD hS => ?_)
                obtain ⟨F54, y55, g56, t57, t58, t59, t60, t61, t62, t63, t64, t65, t66, t67, t68, t69, t70, t71, t72, t73, t74, t75, rfl⟩ := hp
                have hP : va_P D vwCl [(h_bestYard, .inl (cI, 4, .inl f_bestYard)), (h_bestCrew, .inl (cI, 4, .inl f_bestCrew)), (h_lineHeights, .inl (cI, 12, .inl f_lineHeights)), (h0, .inr (10, vL 67 F54)), (h_s, .inl (cI, 335, .inl f_s)), (h_undone, .inl (cI, 192, .inl g56))] H := hP
                have hD : va_D A [(h_bestYard, .inl (cI, 4, .inl f_bestYard)), (h_bestCrew, .inl (cI, 4, .inl f_bestCrew)), (h_lineHeights, .inl (cI, 12, .inl f_lineHeights)), (h0, .inr (10, vL 67 F54)), (h_s, .inl (cI, 335, .inl f_s)), (h_undone, .inl (cI, 192, .inl g56))] := hD
                refine W.widen (k := 0) (n := 0) (Nat.le_of_ble_eq_true rfl) (Nat.le_of_ble_eq_true rfl) ?_
                refine lv_iconst (v := 0) hx hb dX10_take_164 (by decide) ?_
                refine lv_istore_n (lv' := [(3, .int 0), (2, .int u44), (0, .ref h0), (1, .int p0)]) hx hb dX10_take_165 rfl hl (by decide) rfl (fun ls hl => ?_)
                refine mloop (α := (Int32) × (Nat → Int32)) (nL := 4) (D := D) (A := A) (H0 := s.heap) (fun a => (4 - a.1.toInt).toNat) (fun a => IR 0 4 a.1 ∧ KW 0 a.2 ∧ US bs a.2 ∧ SG 0 0 0 40 a.2 ∧ SG 105 108 0 11 a.2 ∧ SG 114 114 0 5 a.2 ∧ SG 130 133 0 11 a.2 ∧ SG 139 139 0 5 a.2 ∧ SG 153 153 0 44 a.2 ∧ SG 44 55 0 9 a.2 ∧ SG 5 5 0 12 a.2 ∧ SG 6 6 0 12 a.2 ∧ SG 7 7 0 6 a.2) (fun a => [(h_bestYard, .inl (cI, 4, .inl f_bestYard)), (h_bestCrew, .inl (cI, 4, .inl f_bestCrew)), (h_lineHeights, .inl (cI, 12, .inl f_lineHeights)), (h0, .inr (10, vL 67 F54)), (h_s, .inl (cI, 335, .inl a.2)), (h_undone, .inl (cI, 192, .inl g56))]) (fun a => [(3, .int a.1), (2, .int u44), (0, .ref h0), (1, .int p0)]) (fun H locs ls => W p l e ({ frames := 1, cells := 0, slots := 0, locals := 21 } : Room) s m [.ref h0, .int p0].toArray below meth c H locs 0 0 (MQ below (va_Qi (fun (r : Int32) (u : va_W) => ∃ (Gh : Nat → Value) (y_undoMany : Int32) (g_s : Nat → Int32) (g_undone : Nat → Int32), SAME [0, 41] Fh Gh ∧ Gh 0 = .int 0 ∧ Gh 41 = .int y_undoMany ∧ IR 0 8 y_undoMany ∧ SG 153 153 0 44 g_s ∧ SG 0 0 0 40 g_s ∧ SG 5 5 0 12 g_s ∧ SG 6 6 0 12 g_s ∧ SG 7 7 0 6 g_s ∧ SG 44 55 0 9 g_s ∧ KW 0 g_s ∧ SG 105 108 0 11 g_s ∧ SG 114 114 0 5 g_s ∧ SG 130 133 0 11 g_s ∧ SG 139 139 0 5 g_s ∧ US bs g_s ∧ SG 1 4 0 11 g_undone ∧ SG 10 10 0 5 g_undone ∧ SG 25 28 0 11 g_undone ∧ SG 34 34 0 5 g_undone ∧ SG 49 52 0 11 g_undone ∧ SG 58 58 0 5 g_undone ∧ SG 73 76 0 11 g_undone ∧ SG 82 82 0 5 g_undone ∧ SG 97 100 0 11 g_undone ∧ SG 106 106 0 5 g_undone ∧ SG 121 124 0 11 g_undone ∧ SG 130 130 0 5 g_undone ∧ SG 145 148 0 11 g_undone ∧ SG 154 154 0 5 g_undone ∧ SG 169 172 0 11 g_undone ∧ SG 178 178 0 5 g_undone ∧ IR 0 1 r ∧ u = [(h0, .inr (10, vL 67 Gh)), (h_s, .inl (cI, 335, .inl g_s)), (h_undone, .inl (cI, 192, .inl g_undone)), (h_bestYard, .inl (cI, 4, .inl f_bestYard)), (h_bestCrew, .inl (cI, 4, .inl f_bestCrew)), (h_lineHeights, .inl (cI, 12, .inl f_lineHeights))]) (PO D A) A) [.ref h0, .int p0].toArray s 0 0 A) (F0 m 166 ls [])) ?_ (0, f_s) ⟨(show 0 ≤ (0 : Int32).toInt ∧ (0 : Int32).toInt ≤ 4 by decide), s_s_K0, s_s_US, s_s_0, s_s_105, s_s_114, s_s_130, s_s_139, s_s_153, s_s_44, s_s_5, s_s_6, s_s_7⟩ _ _ _ hP hD hS hl
                rintro ⟨u77, w78⟩ ⟨i79, i80, i81, i82, i83, i84, i85, i86, i87, i88, i89, i90, i91⟩ ih_166 H locs ls hP hD hS hl
                have i79 : 0 ≤ u77.toInt ∧ u77.toInt ≤ 4 := i79
                have hP : va_P D vwCl [(h_bestYard, .inl (cI, 4, .inl f_bestYard)), (h_bestCrew, .inl (cI, 4, .inl f_bestCrew)), (h_lineHeights, .inl (cI, 12, .inl f_lineHeights)), (h0, .inr (10, vL 67 F54)), (h_s, .inl (cI, 335, .inl w78)), (h_undone, .inl (cI, 192, .inl g56))] H := hP
                have hD : va_D A [(h_bestYard, .inl (cI, 4, .inl f_bestYard)), (h_bestCrew, .inl (cI, 4, .inl f_bestCrew)), (h_lineHeights, .inl (cI, 12, .inl f_lineHeights)), (h0, .inr (10, vL 67 F54)), (h_s, .inl (cI, 335, .inl w78)), (h_undone, .inl (cI, 192, .inl g56))] := hD
                have hl : lv_has ls 4 [(3, .int u77), (2, .int u44), (0, .ref h0), (1, .int p0)] := hl
                refine lv_iload_n hx hb dX10_take_166 rfl (lv_at hl 0 rfl) ?_
                refine lv_iconst (v := 4) hx hb dX10_take_167 (by decide) ?_
                refine lv_icmp_ge (tgt := 192) hx hb dX10_take_168 (by decide) (fun c92 => ?_) (fun c92 => ?_)
                · have dc92 : 4 ≤ u77.toInt := le_i (a := 4) (b := u77.toInt) rfl rfl c92
                  have k93 : 4 ≤ u77.toInt ∧ u77.toInt ≤ 4 := ⟨Int.le_trans (Int.le_refl _) dc92, i79.2⟩
                  refine lv_iconst (v := 1) hx hb dX10_take_192 (by decide) ?_
                  exact ret_i (v := 1) hx hb hr hlocks hS (hP.sub (ws' := [(h0, .inr (10, vL 67 F54)), (h_s, .inl (cI, 335, .inl w78)), (h_undone, .inl (cI, 192, .inl g56)), (h_bestYard, .inl (cI, 4, .inl f_bestYard)), (h_bestCrew, .inl (cI, 4, .inl f_bestCrew)), (h_lineHeights, .inl (cI, 12, .inl f_lineHeights))]) [3, 4, 5, 0, 1, 2] rfl) (hD.sub (ws' := [(h0, .inr (10, vL 67 F54)), (h_s, .inl (cI, 335, .inl w78)), (h_undone, .inl (cI, 192, .inl g56)), (h_bestYard, .inl (cI, 4, .inl f_bestYard)), (h_bestCrew, .inl (cI, 4, .inl f_bestCrew)), (h_lineHeights, .inl (cI, 12, .inl f_lineHeights))]) [3, 4, 5, 0, 1, 2] (by decide) rfl) dX10_take_193 rfl (Nat.le_of_ble_eq_true rfl) (Nat.le_of_ble_eq_true rfl) ⟨F54, y55, w78, g56, (SAME.tr (SAME.up eF1 SAME.rf (by decide)) t57 (by decide)), (SAME.at t57 (by decide) (get_eq eF1)), t58, (ir_wk t59 (by decide) (by decide)), i87, i82, i89, i90, i91, i88, i80, i83, i84, i85, i86, i81, t60, t61, t62, t63, t64, t65, t66, t67, t68, t69, t70, t71, t72, t73, t74, t75, (show 0 ≤ (1 : Int32).toInt ∧ (1 : Int32).toInt ≤ 1 by decide), rfl⟩
                · have dc92 : u77.toInt < 4 := nle_i (a := 4) (b := u77.toInt) rfl rfl c92
                  have k94 : 0 ≤ u77.toInt ∧ u77.toInt ≤ 3 := ⟨i79.1, up_lt dc92 (Int.le_refl _) (by decide)⟩
                  refine lv_aload_n hx hb dX10_take_171 rfl (lv_at hl 2 rfl) ?_
                  have n95 : F54 6 = .ref h_s := (SAME.at t57 (by decide) n24)
                  refine get_f (D := D) (ci := 10) (v := .ref h_s) (C := RX10) (T := TX10) (N := 67) hx hb hw inAX10 hown hK hP 3 rfl rfl 6 (by decide) (hw _ q_1267) (fun _ h9 => h9) n95 dX10_take_172 ?_
                  refine lv_bipush (v := 109) hx hb dX10_take_175 (by decide) ?_
                  refine lv_iload_n hx hb dX10_take_177 rfl (lv_at hl 0 rfl) ?_
                  refine lv_iadd hx hb dX10_take_178 ?_
                  refine lv_topi (fun v96 ev96 => ?_)
                  have bv96 : v96.toInt = 109 + u77.toInt := by rw [ev96]; exact add_k rfl rfl ⟨Int.le_refl _, Int.le_refl _⟩ k94 (by decide)
                  have k97 : 109 ≤ v96.toInt ∧ v96.toInt ≤ 112 := add_r bv96 ⟨Int.le_refl _, Int.le_refl _⟩ k94 (by decide)
                  refine lv_aload_n hx hb dX10_take_179 rfl (lv_at hl 2 rfl) ?_
                  have n98 : F1 43 = .ref h_bestYard := (get_ne eF1 (by decide) e_bestYard)
                  have n99 : F54 43 = .ref h_bestYard := (SAME.at t57 (by decide) n98)
                  refine get_f (D := D) (ci := 10) (v := .ref h_bestYard) (C := RX10) (T := TX10) (N := 67) hx hb hw inAX10 hown hK hP 3 rfl rfl 43 (by decide) (hw _ q_1304) (fun _ h9 => h9) n99 dX10_take_180 ?_
                  refine lv_iload_n hx hb dX10_take_183 rfl (lv_at hl 0 rfl) ?_
                  refine va_iald hx hb hK hP 0 0 rfl rfl (ix_k k94 (by decide) (by decide)) dX10_take_184 ?_
                  refine lv_topi (fun v100 ev100 => ?_)
                  obtain ⟨g101, eg101⟩ : ∃ z : Nat → Int32, upd w78 v96.toNatClampNeg v100 = z := ⟨_, rfl⟩
                  have r102 : KW 0 g101 := by rw [← eg101]; exact i80.up (Int.le_trans (by decide) k97.1) (Or.inl (lt_dec k97.2 (by decide)))
                  have r103 : US bs g101 := by rw [← eg101]; exact US.up i81 (Int.le_trans (by decide) k97.1)
                  have r104 : SG 0 0 0 40 g101 := by rw [← eg101]; exact i82.up (Int.le_trans (by decide) k97.1) (Or.inr (Or.inl (dec_lt k97.1 (by decide))))
                  have r105 : SG 105 108 0 11 g101 := by rw [← eg101]; exact i83.up (Int.le_trans (by decide) k97.1) (Or.inr (Or.inl (dec_lt k97.1 (by decide))))
                  have r106 : SG 114 114 0 5 g101 := by rw [← eg101]; exact i84.up (Int.le_trans (by decide) k97.1) (Or.inl (lt_dec k97.2 (by decide)))
                  have r107 : SG 130 133 0 11 g101 := by rw [← eg101]; exact i85.up (Int.le_trans (by decide) k97.1) (Or.inl (lt_dec k97.2 (by decide)))
                  have r108 : SG 139 139 0 5 g101 := by rw [← eg101]; exact i86.up (Int.le_trans (by decide) k97.1) (Or.inl (lt_dec k97.2 (by decide)))
                  have r109 : SG 153 153 0 44 g101 := by rw [← eg101]; exact i87.up (Int.le_trans (by decide) k97.1) (Or.inl (lt_dec k97.2 (by decide)))
                  have r110 : SG 44 55 0 9 g101 := by rw [← eg101]; exact i88.up (Int.le_trans (by decide) k97.1) (Or.inr (Or.inl (dec_lt k97.1 (by decide))))
                  have r111 : SG 5 5 0 12 g101 := by rw [← eg101]; exact i89.up (Int.le_trans (by decide) k97.1) (Or.inr (Or.inl (dec_lt k97.1 (by decide))))
                  have r112 : SG 6 6 0 12 g101 := by rw [← eg101]; exact i90.up (Int.le_trans (by decide) k97.1) (Or.inr (Or.inl (dec_lt k97.1 (by decide))))
                  have r113 : SG 7 7 0 6 g101 := by rw [← eg101]; exact i91.up (Int.le_trans (by decide) k97.1) (Or.inr (Or.inl (dec_lt k97.1 (by decide))))
                  refine iast_g hx hb hK hP hD hS 4 0 rfl rfl (ix_k k97 (by decide) (by decide)) eg101 dX10_take_185 (fun H locs hP hD hS => ?_)
                  have hP : va_P D vwCl [(h_bestYard, .inl (cI, 4, .inl f_bestYard)), (h_bestCrew, .inl (cI, 4, .inl f_bestCrew)), (h_lineHeights, .inl (cI, 12, .inl f_lineHeights)), (h0, .inr (10, vL 67 F54)), (h_s, .inl (cI, 335, .inl g101)), (h_undone, .inl (cI, 192, .inl g56))] H := hP
                  have hD : va_D A [(h_bestYard, .inl (cI, 4, .inl f_bestYard)), (h_bestCrew, .inl (cI, 4, .inl f_bestCrew)), (h_lineHeights, .inl (cI, 12, .inl f_lineHeights)), (h0, .inr (10, vL 67 F54)), (h_s, .inl (cI, 335, .inl g101)), (h_undone, .inl (cI, 192, .inl g56))] := hD
                  obtain ⟨v114, ev114⟩ : ∃ z : Int32, z = u77 + 1 := ⟨_, rfl⟩
                  have bv114 : v114.toInt = u77.toInt + 1 := by rw [ev114]; exact add_k rfl rfl k94 ⟨Int.le_refl _, Int.le_refl _⟩ (by decide)
                  have k115 : 1 ≤ v114.toInt ∧ v114.toInt ≤ 4 := add_r bv114 k94 ⟨Int.le_refl _, Int.le_refl _⟩ (by decide)
                  refine lv_iinc (v := v114) (lv' := [(3, .int v114), (2, .int u44), (0, .ref h0), (1, .int p0)]) hx hb dX10_take_186 hl (k := 0) rfl (by rw [ev114]; rfl) (by decide) rfl (fun ls hl => ?_)
                  refine lv_goto (tgt := 166) hx hb dX10_take_189 (by decide) ?_
                  exact ih_166 (v114, g101) ⟨(ir_wk k115 (by decide) (by decide)), r102, r103, r104, r105, r106, r107, r108, r109, r110, r111, r112, r113⟩ (by show (4 - v114.toInt).toNat < (4 - u77.toInt).toNat; omega) _ _ _ hP hD hS (lv_sub hl [0, 1, 2, 3] rfl)
              · have dc49 : u44.toInt = 0 := eq_i (a := u44.toInt) (b := 0) rfl rfl c49
                have k116 : 0 ≤ u44.toInt ∧ u44.toInt ≤ 0 := ⟨i46.1, Int.le_trans (Int.le_of_eq dc49) (Int.le_refl _)⟩
                refine lv_iconst (v := 0) hx hb dX10_take_158 (by decide) ?_
                exact ret_i (v := 0) hx hb hr hlocks hS (hP.sub (ws' := [(h0, .inr (10, vL 67 F1)), (h_s, .inl (cI, 335, .inl f_s)), (h_undone, .inl (cI, 192, .inl f_undone)), (h_bestYard, .inl (cI, 4, .inl f_bestYard)), (h_bestCrew, .inl (cI, 4, .inl f_bestCrew)), (h_lineHeights, .inl (cI, 12, .inl f_lineHeights))]) [4, 5, 0, 1, 2, 3] rfl) (hD.sub (ws' := [(h0, .inr (10, vL 67 F1)), (h_s, .inl (cI, 335, .inl f_s)), (h_undone, .inl (cI, 192, .inl f_undone)), (h_bestYard, .inl (cI, 4, .inl f_bestYard)), (h_bestCrew, .inl (cI, 4, .inl f_bestCrew)), (h_lineHeights, .inl (cI, 12, .inl f_lineHeights))]) [4, 5, 0, 1, 2, 3] (by decide) rfl) dX10_take_159 rfl (Nat.le_of_ble_eq_true rfl) (Nat.le_of_ble_eq_true rfl) ⟨F1, x_undoMany, f_s, f_undone, (SAME.up eF1 SAME.rf (by decide)), (get_eq eF1), (get_ne eF1 (by decide) e_undoMany), i_x_undoMany, s_s_153, s_s_0, s_s_5, s_s_6, s_s_7, s_s_44, s_s_K0, s_s_105, s_s_114, s_s_130, s_s_139, s_s_US, s_undone_1, s_undone_10, s_undone_25, s_undone_34, s_undone_49, s_undone_58, s_undone_73, s_undone_82, s_undone_97, s_undone_106, s_undone_121, s_undone_130, s_undone_145, s_undone_154, s_undone_169, s_undone_178, (show 0 ≤ (0 : Int32).toInt ∧ (0 : Int32).toInt ≤ 1 by decide), rfl⟩
            · have dc47 : u43.toInt < 4 := nle_i (a := 4) (b := u43.toInt) rfl rfl c47
              have k117 : 0 ≤ u43.toInt ∧ u43.toInt ≤ 3 := ⟨i45.1, up_lt dc47 (Int.le_refl _) (by decide)⟩
              refine lv_iload_n hx hb dX10_take_120 rfl (lv_at hl 1 rfl) ?_
              refine lv_if_eq (tgt := 154) hx hb dX10_take_121 (by decide) (fun c118 => ?_) (fun c118 => ?_)
              · have dc118 : u44.toInt = 0 := eq_i (a := u44.toInt) (b := 0) rfl rfl c118
                have k119 : 0 ≤ u44.toInt ∧ u44.toInt ≤ 0 := ⟨i46.1, Int.le_trans (Int.le_of_eq dc118) (Int.le_refl _)⟩
                refine lv_iload_n hx hb dX10_take_154 rfl (lv_at hl 1 rfl) ?_
                refine lv_if_ne (tgt := 160) hx hb dX10_take_155 (by decide) (fun c120 => False.elim (bad_ne (ne_i (a := u44.toInt) (b := 0) rfl rfl c120) k119 ⟨Int.le_refl _, Int.le_refl _⟩ (by decide))) (fun c120 => ?_)
                have dc120 : u44.toInt = 0 := eq_i (a := u44.toInt) (b := 0) rfl rfl c120
                refine lv_iconst (v := 0) hx hb dX10_take_158 (by decide) ?_
                exact ret_i (v := 0) hx hb hr hlocks hS (hP.sub (ws' := [(h0, .inr (10, vL 67 F1)), (h_s, .inl (cI, 335, .inl f_s)), (h_undone, .inl (cI, 192, .inl f_undone)), (h_bestYard, .inl (cI, 4, .inl f_bestYard)), (h_bestCrew, .inl (cI, 4, .inl f_bestCrew)), (h_lineHeights, .inl (cI, 12, .inl f_lineHeights))]) [4, 5, 0, 1, 2, 3] rfl) (hD.sub (ws' := [(h0, .inr (10, vL 67 F1)), (h_s, .inl (cI, 335, .inl f_s)), (h_undone, .inl (cI, 192, .inl f_undone)), (h_bestYard, .inl (cI, 4, .inl f_bestYard)), (h_bestCrew, .inl (cI, 4, .inl f_bestCrew)), (h_lineHeights, .inl (cI, 12, .inl f_lineHeights))]) [4, 5, 0, 1, 2, 3] (by decide) rfl) dX10_take_159 rfl (Nat.le_of_ble_eq_true rfl) (Nat.le_of_ble_eq_true rfl) ⟨F1, x_undoMany, f_s, f_undone, (SAME.up eF1 SAME.rf (by decide)), (get_eq eF1), (get_ne eF1 (by decide) e_undoMany), i_x_undoMany, s_s_153, s_s_0, s_s_5, s_s_6, s_s_7, s_s_44, s_s_K0, s_s_105, s_s_114, s_s_130, s_s_139, s_s_US, s_undone_1, s_undone_10, s_undone_25, s_undone_34, s_undone_49, s_undone_58, s_undone_73, s_undone_82, s_undone_97, s_undone_106, s_undone_121, s_undone_130, s_undone_145, s_undone_154, s_undone_169, s_undone_178, (show 0 ≤ (0 : Int32).toInt ∧ (0 : Int32).toInt ≤ 1 by decide), rfl⟩
              · have dc118 : u44.toInt ≠ 0 := ne_i (a := u44.toInt) (b := 0) rfl rfl c118
                have k121 : 1 ≤ u44.toInt ∧ u44.toInt ≤ 1 := ⟨ne_lo dc118 i46.1 ⟨Int.le_refl _, Int.le_refl _⟩ (by decide), i46.2⟩
                refine lv_aload_n hx hb dX10_take_124 rfl (lv_at hl 2 rfl) ?_
                refine get_f (D := D) (ci := 10) (v := .ref h_s) (C := RX10) (T := TX10) (N := 67) hx hb hw inAX10 hown hK hP 4 rfl rfl 6 (by decide) (hw _ q_1267) (fun _ h9 => h9) n24 dX10_take_125 ?_
                refine lv_bipush (v := 105) hx hb dX10_take_128 (by decide) ?_
                refine lv_iload_n hx hb dX10_take_130 rfl (lv_at hl 0 rfl) ?_
                refine lv_iadd hx hb dX10_take_131 ?_
                refine lv_topi (fun v122 ev122 => ?_)
                have bv122 : v122.toInt = 105 + u43.toInt := by rw [ev122]; exact add_k rfl rfl ⟨Int.le_refl _, Int.le_refl _⟩ k117 (by decide)
                have k123 : 105 ≤ v122.toInt ∧ v122.toInt ≤ 108 := add_r bv122 ⟨Int.le_refl _, Int.le_refl _⟩ k117 (by decide)
                refine va_iald hx hb hK hP 5 0 rfl rfl (ix_k k123 (by decide) (by decide)) dX10_take_132 ?_
                refine lv_topi (fun v124 ev124 => ?_)
                have k125 : 0 ≤ v124.toInt ∧ v124.toInt ≤ 11 := by rw [ev124]; exact s_s_105.at _ (Int.le_trans (by decide) k123.1) (Int.le_trans k123.2 (by decide))
                refine lv_aload_n hx hb dX10_take_133 rfl (lv_at hl 2 rfl) ?_
                have n126 : F1 44 = .ref h_bestCrew := (get_ne eF1 (by decide) e_bestCrew)
                refine get_f (D := D) (ci := 10) (v := .ref h_bestCrew) (C := RX10) (T := TX10) (N := 67) hx hb hw inAX10 hown hK hP 4 rfl rfl 44 (by decide) (hw _ q_1305) (fun _ h9 => h9) n126 dX10_take_134 ?_
                refine lv_iload_n hx hb dX10_take_137 rfl (lv_at hl 0 rfl) ?_
                refine va_iald hx hb hK hP 2 0 rfl rfl (ix_k k117 (by decide) (by decide)) dX10_take_138 ?_
                refine lv_topi (fun v127 ev127 => ?_)
                refine lv_icmp_ne (tgt := 146) hx hb dX10_take_139 (by decide) (fun c128 => ?_) (fun c128 => ?_)
                · have dc128 : v124.toInt ≠ v127.toInt := ne_i (a := v124.toInt) (b := v127.toInt) rfl rfl c128
                  refine lv_iconst (v := 0) hx hb dX10_take_146 (by decide) ?_
                  refine lv_istore_n (lv' := [(2, .int 0), (3, .int u43), (0, .ref h0), (1, .int p0)]) hx hb dX10_take_147 rfl hl (by decide) rfl (fun ls hl => ?_)
                  obtain ⟨v129, ev129⟩ : ∃ z : Int32, z = u43 + 1 := ⟨_, rfl⟩
                  have bv129 : v129.toInt = u43.toInt + 1 := by rw [ev129]; exact add_k rfl rfl k117 ⟨Int.le_refl _, Int.le_refl _⟩ (by decide)
                  have k130 : 1 ≤ v129.toInt ∧ v129.toInt ≤ 4 := add_r bv129 k117 ⟨Int.le_refl _, Int.le_refl _⟩ (by decide)
                  refine lv_iinc (v := v129) (lv' := [(3, .int v129), (2, .int 0), (0, .ref h0), (1, .int p0)]) hx hb dX10_take_148 hl (k := 1) rfl (by rw [ev129]; rfl) (by decide) rfl (fun ls hl => ?_)
                  refine lv_goto (tgt := 115) hx hb dX10_take_151 (by decide) ?_
                  exact ih (v129, 0) ⟨(ir_wk k130 (by decide) (by decide)), (show 0 ≤ (0 : Int32).toInt ∧ (0 : Int32).toInt ≤ 1 by decide)⟩ (by show (4 - v129.toInt).toNat < (4 - u43.toInt).toNat; omega) _ _ _ hP hD hS (lv_sub hl [0, 1, 2, 3] rfl)
                · have dc128 : v124.toInt = v127.toInt := eq_i (a := v124.toInt) (b := v127.toInt) rfl rfl c128
                  have k131 : 0 ≤ v127.toInt ∧ v127.toInt ≤ 11 := ⟨Int.le_trans k125.1 (Int.le_of_eq dc128), Int.le_trans (Int.le_of_eq dc128.symm) k125.2⟩
                  refine lv_iconst (v := 1) hx hb dX10_take_142 (by decide) ?_
                  refine lv_goto (tgt := 147) hx hb dX10_take_143 (by decide) ?_
                  refine lv_istore_n (lv' := [(2, .int 1), (3, .int u43), (0, .ref h0), (1, .int p0)]) hx hb dX10_take_147 rfl hl (by decide) rfl (fun ls hl => ?_)
                  obtain ⟨v132, ev132⟩ : ∃ z : Int32, z = u43 + 1 := ⟨_, rfl⟩
                  have bv132 : v132.toInt = u43.toInt + 1 := by rw [ev132]; exact add_k rfl rfl k117 ⟨Int.le_refl _, Int.le_refl _⟩ (by decide)
                  have k133 : 1 ≤ v132.toInt ∧ v132.toInt ≤ 4 := add_r bv132 k117 ⟨Int.le_refl _, Int.le_refl _⟩ (by decide)
                  refine lv_iinc (v := v132) (lv' := [(3, .int v132), (2, .int 1), (0, .ref h0), (1, .int p0)]) hx hb dX10_take_148 hl (k := 1) rfl (by rw [ev132]; rfl) (by decide) rfl (fun ls hl => ?_)
                  refine lv_goto (tgt := 115) hx hb dX10_take_151 (by decide) ?_
                  exact ih (v132, 1) ⟨(ir_wk k133 (by decide) (by decide)), (show 0 ≤ (1 : Int32).toInt ∧ (1 : Int32).toInt ≤ 1 by decide)⟩ (by show (4 - v132.toInt).toNat < (4 - u43.toInt).toNat; omega) _ _ _ hP hD hS (lv_sub hl [0, 1, 2, 3] rfl)
  · have dc2 : p0.toInt = 0 := eq_i (a := p0.toInt) (b := 0) rfl rfl c2
    have k134 : 0 ≤ p0.toInt ∧ p0.toInt ≤ 0 := ⟨Int.le_trans (Int.le_refl _) (Int.le_of_eq dc2.symm), Int.le_trans (Int.le_of_eq dc2) (Int.le_refl _)⟩
    refine lv_aload_n hx hb dX10_take_9 rfl (lv_at hl 0 rfl) ?_
    have n135 : F1 52 = .int x_hasLine := (get_ne eF1 (by decide) e_hasLine)
    refine get_f (D := D) (ci := 10) (v := .int x_hasLine) (C := RX10) (T := TX10) (N := 67) hx hb hw inAX10 hown hK hP 0 rfl rfl 52 (by decide) (hw _ q_1313) (fun _ h9 => h9) n135 dX10_take_10 ?_
    refine lv_if_eq (tgt := 31) hx hb dX10_take_13 (by decide) (fun c136 => ?_) (fun c136 => ?_)
    · have dc136 : x_hasLine.toInt = 0 := eq_i (a := x_hasLine.toInt) (b := 0) rfl rfl c136
      have k137 : 0 ≤ x_hasLine.toInt ∧ x_hasLine.toInt ≤ 0 := ⟨i_x_hasLine.1, Int.le_trans (Int.le_of_eq dc136) (Int.le_refl _)⟩
      refine lv_iconst (v := 0) hx hb dX10_take_31 (by decide) ?_
      exact ret_i (v := 0) hx hb hr hlocks hS hP hD dX10_take_32 rfl (Nat.le_of_ble_eq_true rfl) (Nat.le_of_ble_eq_true rfl) ⟨F1, x_undoMany, f_s, f_undone, (SAME.up eF1 SAME.rf (by decide)), (get_eq eF1), (get_ne eF1 (by decide) e_undoMany), i_x_undoMany, s_s_153, s_s_0, s_s_5, s_s_6, s_s_7, s_s_44, s_s_K0, s_s_105, s_s_114, s_s_130, s_s_139, s_s_US, s_undone_1, s_undone_10, s_undone_25, s_undone_34, s_undone_49, s_undone_58, s_undone_73, s_undone_82, s_undone_97, s_undone_106, s_undone_121, s_undone_130, s_undone_145, s_undone_154, s_undone_169, s_undone_178, (show 0 ≤ (0 : Int32).toInt ∧ (0 : Int32).toInt ≤ 1 by decide), rfl⟩
    · have dc136 : x_hasLine.toInt ≠ 0 := ne_i (a := x_hasLine.toInt) (b := 0) rfl rfl c136
      have k138 : 1 ≤ x_hasLine.toInt ∧ x_hasLine.toInt ≤ 1 := ⟨ne_lo dc136 i_x_hasLine.1 ⟨Int.le_refl _, Int.le_refl _⟩ (by decide), i_x_hasLine.2⟩
      refine lv_aload_n hx hb dX10_take_16 rfl (lv_at hl 0 rfl) ?_
      have n139 : F1 55 = .int x_lineId := (get_ne eF1 (by decide) e_lineId)
      refine get_f (D := D) (ci := 10) (v := .int x_lineId) (C := RX10) (T := TX10) (N := 67) hx hb hw inAX10 hown hK hP 0 rfl rfl 55 (by decide) (hw _ q_1316) (fun _ h9 => h9) n139 dX10_take_17 ?_
      refine lv_aload_n hx hb dX10_take_20 rfl (lv_at hl 0 rfl) ?_
      have n140 : F1 6 = .ref h_s := (get_ne eF1 (by decide) e_s)
      refine get_f (D := D) (ci := 10) (v := .ref h_s) (C := RX10) (T := TX10) (N := 67) hx hb hw inAX10 hown hK hP 0 rfl rfl 6 (by decide) (hw _ q_1267) (fun _ h9 => h9) n140 dX10_take_21 ?_
      refine lv_sipush (v := 334) hx hb dX10_take_24 (by decide) ?_
      refine iald_n hx hb hK hP 1 0 rfl rfl 334 rfl (Nat.le_of_ble_eq_true rfl) (Nat.le_of_ble_eq_true rfl) rfl dX10_take_27 ?_
      refine lv_topi (fun v141 ev141 => ?_)
      refine lv_icmp_eq (tgt := 33) hx hb dX10_take_28 (by decide) (fun c142 => ?_) (fun c142 => ?_)
      · have dc142 : x_lineId.toInt = v141.toInt := eq_i (a := x_lineId.toInt) (b := v141.toInt) rfl rfl c142
        refine lv_aload_n hx hb dX10_take_33 rfl (lv_at hl 0 rfl) ?_
        have n143 : F1 39 = .ref h_undone := (get_ne eF1 (by decide) e_undone)
        have n144 : F1 41 = .int x_undoMany := (get_ne eF1 (by decide) e_undoMany)
        refine call_Vv (wr := [(h_bestYard, .inl (cI, 4, .inl f_bestYard)), (h_bestCrew, .inl (cI, 4, .inl f_bestCrew)), (h_lineHeights, .inl (cI, 12, .inl f_lineHeights))]) (As := []) (rest := []) hx hb hml hown hw (m_X10_keeps l D cI cJ cB cP cM cZ h0 h_s h_undone F1 x_undoMany f_s f_undone bs _ n140 n143 n144 i_x_undoMany s_s_K0 s_s_US s_s_0 s_s_105 s_s_114 s_s_130 s_s_139 s_s_153 s_s_44 s_s_5 s_s_6 s_s_7 s_undone_1 s_undone_10 s_undone_106 s_undone_121 s_undone_130 s_undone_145 s_undone_154 s_undone_169 s_undone_178 s_undone_25 s_undone_34 s_undone_49 s_undone_58 s_undone_73 s_undone_82 s_undone_97) wV_X10_371_X10_keeps dX10_take_34 hK hP hD hS hA [0, 1, 2] [3, 4, 5] rfl rfl (by decide) (by decide) (by decide) 0 10 rfl rfl GG.fb hG.at hl.1 rfl (Nat.le_of_ble_eq_true rfl) ⟨(Nat.le_of_ble_eq_true rfl), (Nat.le_of_ble_eq_true rfl)⟩ ⟨(Nat.le_of_ble_eq_true rfl), (Nat.le_of_ble_eq_true rfl)⟩ (fun u H locs hp hP hD hS => ?_)
        obtain ⟨F146, y147, g148, t149, t150, t151, t152, t153, t154, t155, t156, t157, t158, t159, t160, t161, t162, t163, t164, t165, t166, t167, rfl⟩ := hp
        have hP : va_P D vwCl [(h_bestYard, .inl (cI, 4, .inl f_bestYard)), (h_bestCrew, .inl (cI, 4, .inl f_bestCrew)), (h_lineHeights, .inl (cI, 12, .inl f_lineHeights)), (h0, .inr (10, vL 67 F146)), (h_s, .inl (cI, 335, .inl f_s)), (h_undone, .inl (cI, 192, .inl g148))] H := hP
        have hD : va_D A [(h_bestYard, .inl (cI, 4, .inl f_bestYard)), (h_bestCrew, .inl (cI, 4, .inl f_bestCrew)), (h_lineHeights, .inl (cI, 12, .inl f_lineHeights)), (h0, .inr (10, vL 67 F146)), (h_s, .inl (cI, 335, .inl f_s)), (h_undone, .inl (cI, 192, .inl g148))] := hD
        refine W.widen (k := 0) (n := 0) (Nat.le_of_ble_eq_true rfl) (Nat.le_of_ble_eq_true rfl) ?_
        refine lv_iconst (v := 0) hx hb dX10_take_37 (by decide) ?_
        refine lv_istore_n (lv' := [(2, .int 0), (0, .ref h0), (1, .int p0)]) hx hb dX10_take_38 rfl hl (by decide) rfl (fun ls hl => ?_)
        refine mloop (α := (Int32) × (Nat → Int32)) (nL := 4) (D := D) (A := A) (H0 := s.heap) (fun a => (12 - a.1.toInt).toNat) (fun a => IR 0 12 a.1 ∧ KW 0 a.2 ∧ US bs a.2 ∧ SG 0 0 0 40 a.2 ∧ SG 105 108 0 11 a.2 ∧ SG 114 114 0 5 a.2 ∧ SG 130 133 0 11 a.2 ∧ SG 139 139 0 5 a.2 ∧ SG 153 153 0 44 a.2 ∧ SG 44 55 0 9 a.2 ∧ SG 5 5 0 12 a.2 ∧ SG 6 6 0 12 a.2 ∧ SG 7 7 0 6 a.2) (fun a => [(h_bestYard, .inl (cI, 4, .inl f_bestYard)), (h_bestCrew, .inl (cI, 4, .inl f_bestCrew)), (h_lineHeights, .inl (cI, 12, .inl f_lineHeights)), (h0, .inr (10, vL 67 F146)), (h_s, .inl (cI, 335, .inl a.2)), (h_undone, .inl (cI, 192, .inl g148))]) (fun a => [(2, .int a.1), (0, .ref h0), (1, .int p0)]) (fun H locs ls => W p l e ({ frames := 1, cells := 0, slots := 0, locals := 21 } : Room) s m [.ref h0, .int p0].toArray below meth c H locs 0 0 (MQ below (va_Qi (fun (r : Int32) (u : va_W) => ∃ (Gh : Nat → Value) (y_undoMany : Int32) (g_s : Nat → Int32) (g_undone : Nat → Int32), SAME [0, 41] Fh Gh ∧ Gh 0 = .int 0 ∧ Gh 41 = .int y_undoMany ∧ IR 0 8 y_undoMany ∧ SG 153 153 0 44 g_s ∧ SG 0 0 0 40 g_s ∧ SG 5 5 0 12 g_s ∧ SG 6 6 0 12 g_s ∧ SG 7 7 0 6 g_s ∧ SG 44 55 0 9 g_s ∧ KW 0 g_s ∧ SG 105 108 0 11 g_s ∧ SG 114 114 0 5 g_s ∧ SG 130 133 0 11 g_s ∧ SG 139 139 0 5 g_s ∧ US bs g_s ∧ SG 1 4 0 11 g_undone ∧ SG 10 10 0 5 g_undone ∧ SG 25 28 0 11 g_undone ∧ SG 34 34 0 5 g_undone ∧ SG 49 52 0 11 g_undone ∧ SG 58 58 0 5 g_undone ∧ SG 73 76 0 11 g_undone ∧ SG 82 82 0 5 g_undone ∧ SG 97 100 0 11 g_undone ∧ SG 106 106 0 5 g_undone ∧ SG 121 124 0 11 g_undone ∧ SG 130 130 0 5 g_undone ∧ SG 145 148 0 11 g_undone ∧ SG 154 154 0 5 g_undone ∧ SG 169 172 0 11 g_undone ∧ SG 178 178 0 5 g_undone ∧ IR 0 1 r ∧ u = [(h0, .inr (10, vL 67 Gh)), (h_s, .inl (cI, 335, .inl g_s)), (h_undone, .inl (cI, 192, .inl g_undone)), (h_bestYard, .inl (cI, 4, .inl f_bestYard)), (h_bestCrew, .inl (cI, 4, .inl f_bestCrew)), (h_lineHeights, .inl (cI, 12, .inl f_lineHeights))]) (PO D A) A) [.ref h0, .int p0].toArray s 0 0 A) (F0 m 39 ls [])) ?_ (0, f_s) ⟨(show 0 ≤ (0 : Int32).toInt ∧ (0 : Int32).toInt ≤ 12 by decide), s_s_K0, s_s_US, s_s_0, s_s_105, s_s_114, s_s_130, s_s_139, s_s_153, s_s_44, s_s_5, s_s_6, s_s_7⟩ _ _ _ hP hD hS hl
        rintro ⟨u169, w170⟩ ⟨i171, i172, i173, i174, i175, i176, i177, i178, i179, i180, i181, i182, i183⟩ ih H locs ls hP hD hS hl
        have i171 : 0 ≤ u169.toInt ∧ u169.toInt ≤ 12 := i171
        have hP : va_P D vwCl [(h_bestYard, .inl (cI, 4, .inl f_bestYard)), (h_bestCrew, .inl (cI, 4, .inl f_bestCrew)), (h_lineHeights, .inl (cI, 12, .inl f_lineHeights)), (h0, .inr (10, vL 67 F146)), (h_s, .inl (cI, 335, .inl w170)), (h_undone, .inl (cI, 192, .inl g148))] H := hP
        have hD : va_D A [(h_bestYard, .inl (cI, 4, .inl f_bestYard)), (h_bestCrew, .inl (cI, 4, .inl f_bestCrew)), (h_lineHeights, .inl (cI, 12, .inl f_lineHeights)), (h0, .inr (10, vL 67 F146)), (h_s, .inl (cI, 335, .inl w170)), (h_undone, .inl (cI, 192, .inl g148))] := hD
        have hl : lv_has ls 4 [(2, .int u169), (0, .ref h0), (1, .int p0)] := hl
        refine lv_iload_n hx hb dX10_take_39 rfl (lv_at hl 0 rfl) ?_
        refine lv_aload_n hx hb dX10_take_40 rfl (lv_at hl 1 rfl) ?_
        have n184 : F146 6 = .ref h_s := (SAME.at t149 (by decide) n140)
        refine get_f (D := D) (ci := 10) (v := .ref h_s) (C := RX10) (T := TX10) (N := 67) hx hb hw inAX10 hown hK hP 3 rfl rfl 6 (by decide) (hw _ q_1267) (fun _ h9 => h9) n184 dX10_take_41 ?_
        refine lv_bipush (v := 6) hx hb dX10_take_44 (by decide) ?_
        refine iald_n hx hb hK hP 4 0 rfl rfl 6 rfl (Nat.le_of_ble_eq_true rfl) (Nat.le_of_ble_eq_true rfl) rfl dX10_take_46 ?_
        refine lv_topi (fun v185 ev185 => ?_)
        have k186 : 0 ≤ v185.toInt ∧ v185.toInt ≤ 12 := by rw [ev185]; exact i182.atN 6 (by decide) (by decide)
        refine lv_icmp_ge (tgt := 71) hx hb dX10_take_47 (by decide) (fun c187 => ?_) (fun c187 => ?_)
        · have dc187 : v185.toInt ≤ u169.toInt := le_i (a := v185.toInt) (b := u169.toInt) rfl rfl c187
          refine lv_iconst (v := 1) hx hb dX10_take_71 (by decide) ?_
          exact ret_i (v := 1) hx hb hr hlocks hS (hP.sub (ws' := [(h0, .inr (10, vL 67 F146)), (h_s, .inl (cI, 335, .inl w170)), (h_undone, .inl (cI, 192, .inl g148)), (h_bestYard, .inl (cI, 4, .inl f_bestYard)), (h_bestCrew, .inl (cI, 4, .inl f_bestCrew)), (h_lineHeights, .inl (cI, 12, .inl f_lineHeights))]) [3, 4, 5, 0, 1, 2] rfl) (hD.sub (ws' := [(h0, .inr (10, vL 67 F146)), (h_s, .inl (cI, 335, .inl w170)), (h_undone, .inl (cI, 192, .inl g148)), (h_bestYard, .inl (cI, 4, .inl f_bestYard)), (h_bestCrew, .inl (cI, 4, .inl f_bestCrew)), (h_lineHeights, .inl (cI, 12, .inl f_lineHeights))]) [3, 4, 5, 0, 1, 2] (by decide) rfl) dX10_take_72 rfl (Nat.le_of_ble_eq_true rfl) (Nat.le_of_ble_eq_true rfl) ⟨F146, y147, w170, g148, (SAME.tr (SAME.up eF1 SAME.rf (by decide)) t149 (by decide)), (SAME.at t149 (by decide) (get_eq eF1)), t150, (ir_wk t151 (by decide) (by decide)), i179, i174, i181, i182, i183, i180, i172, i175, i176, i177, i178, i173, t152, t153, t154, t155, t156, t157, t158, t159, t160, t161, t162, t163, t164, t165, t166, t167, (show 0 ≤ (1 : Int32).toInt ∧ (1 : Int32).toInt ≤ 1 by decide), rfl⟩
        · have dc187 : u169.toInt < v185.toInt := nle_i (a := v185.toInt) (b := u169.toInt) rfl rfl c187
          have k188 : 0 ≤ u169.toInt ∧ u169.toInt ≤ 11 := ⟨i171.1, up_lt dc187 k186.2 (by decide)⟩
          have k189 : 1 ≤ v185.toInt ∧ v185.toInt ≤ 12 := ⟨lo_lt dc187 i171.1 (by decide), k186.2⟩
          refine lv_aload_n hx hb dX10_take_50 rfl (lv_at hl 1 rfl) ?_
          refine get_f (D := D) (ci := 10) (v := .ref h_s) (C := RX10) (T := TX10) (N := 67) hx hb hw inAX10 hown hK hP 3 rfl rfl 6 (by decide) (hw _ q_1267) (fun _ h9 => h9) n184 dX10_take_51 ?_
          refine lv_bipush (v := 116) hx hb dX10_take_54 (by decide) ?_
          refine lv_iload_n hx hb dX10_take_56 rfl (lv_at hl 0 rfl) ?_
          refine lv_iadd hx hb dX10_take_57 ?_
          refine lv_topi (fun v190 ev190 => ?_)
          have bv190 : v190.toInt = 116 + u169.toInt := by rw [ev190]; exact add_k rfl rfl ⟨Int.le_refl _, Int.le_refl _⟩ k188 (by decide)
          have k191 : 116 ≤ v190.toInt ∧ v190.toInt ≤ 127 := add_r bv190 ⟨Int.le_refl _, Int.le_refl _⟩ k188 (by decide)
          refine lv_aload_n hx hb dX10_take_58 rfl (lv_at hl 1 rfl) ?_
          have n192 : F1 54 = .ref h_lineHeights := (get_ne eF1 (by decide) e_lineHeights)
          have n193 : F146 54 = .ref h_lineHeights := (SAME.at t149 (by decide) n192)
          refine get_f (D := D) (ci := 10) (v := .ref h_lineHeights) (C := RX10) (T := TX10) (N := 67) hx hb hw inAX10 hown hK hP 3 rfl rfl 54 (by decide) (hw _ q_1315) (fun _ h9 => h9) n193 dX10_take_59 ?_
          refine lv_iload_n hx hb dX10_take_62 rfl (lv_at hl 0 rfl) ?_
          refine va_iald hx hb hK hP 2 0 rfl rfl (ix_k k188 (by decide) (by decide)) dX10_take_63 ?_
          refine lv_topi (fun v194 ev194 => ?_)
          obtain ⟨g195, eg195⟩ : ∃ z : Nat → Int32, upd w170 v190.toNatClampNeg v194 = z := ⟨_, rfl⟩
          have r196 : KW 0 g195 := by rw [← eg195]; exact i172.up (Int.le_trans (by decide) k191.1) (Or.inl (lt_dec k191.2 (by decide)))
          have r197 : US bs g195 := by rw [← eg195]; exact US.up i173 (Int.le_trans (by decide) k191.1)
          have r198 : SG 0 0 0 40 g195 := by rw [← eg195]; exact i174.up (Int.le_trans (by decide) k191.1) (Or.inr (Or.inl (dec_lt k191.1 (by decide))))
          have r199 : SG 105 108 0 11 g195 := by rw [← eg195]; exact i175.up (Int.le_trans (by decide) k191.1) (Or.inr (Or.inl (dec_lt k191.1 (by decide))))
          have r200 : SG 114 114 0 5 g195 := by rw [← eg195]; exact i176.up (Int.le_trans (by decide) k191.1) (Or.inr (Or.inl (dec_lt k191.1 (by decide))))
          have r201 : SG 130 133 0 11 g195 := by rw [← eg195]; exact i177.up (Int.le_trans (by decide) k191.1) (Or.inl (lt_dec k191.2 (by decide)))
          have r202 : SG 139 139 0 5 g195 := by rw [← eg195]; exact i178.up (Int.le_trans (by decide) k191.1) (Or.inl (lt_dec k191.2 (by decide)))
          have r203 : SG 153 153 0 44 g195 := by rw [← eg195]; exact i179.up (Int.le_trans (by decide) k191.1) (Or.inl (lt_dec k191.2 (by decide)))
          have r204 : SG 44 55 0 9 g195 := by rw [← eg195]; exact i180.up (Int.le_trans (by decide) k191.1) (Or.inr (Or.inl (dec_lt k191.1 (by decide))))
          have r205 : SG 5 5 0 12 g195 := by rw [← eg195]; exact i181.up (Int.le_trans (by decide) k191.1) (Or.inr (Or.inl (dec_lt k191.1 (by decide))))
          have r206 : SG 6 6 0 12 g195 := by rw [← eg195]; exact i182.up (Int.le_trans (by decide) k191.1) (Or.inr (Or.inl (dec_lt k191.1 (by decide))))
          have r207 : SG 7 7 0 6 g195 := by rw [← eg195]; exact i183.up (Int.le_trans (by decide) k191.1) (Or.inr (Or.inl (dec_lt k191.1 (by decide))))
          refine iast_g hx hb hK hP hD hS 4 0 rfl rfl (ix_k k191 (by decide) (by decide)) eg195 dX10_take_64 (fun H locs hP hD hS => ?_)
          have hP : va_P D vwCl [(h_bestYard, .inl (cI, 4, .inl f_bestYard)), (h_bestCrew, .inl (cI, 4, .inl f_bestCrew)), (h_lineHeights, .inl (cI, 12, .inl f_lineHeights)), (h0, .inr (10, vL 67 F146)), (h_s, .inl (cI, 335, .inl g195)), (h_undone, .inl (cI, 192, .inl g148))] H := hP
          have hD : va_D A [(h_bestYard, .inl (cI, 4, .inl f_bestYard)), (h_bestCrew, .inl (cI, 4, .inl f_bestCrew)), (h_lineHeights, .inl (cI, 12, .inl f_lineHeights)), (h0, .inr (10, vL 67 F146)), (h_s, .inl (cI, 335, .inl g195)), (h_undone, .inl (cI, 192, .inl g148))] := hD
          obtain ⟨v208, ev208⟩ : ∃ z : Int32, z = u169 + 1 := ⟨_, rfl⟩
          have bv208 : v208.toInt = u169.toInt + 1 := by rw [ev208]; exact add_k rfl rfl k188 ⟨Int.le_refl _, Int.le_refl _⟩ (by decide)
          have k209 : 1 ≤ v208.toInt ∧ v208.toInt ≤ 12 := add_r bv208 k188 ⟨Int.le_refl _, Int.le_refl _⟩ (by decide)
          refine lv_iinc (v := v208) (lv' := [(2, .int v208), (0, .ref h0), (1, .int p0)]) hx hb dX10_take_65 hl (k := 0) rfl (by rw [ev208]; rfl) (by decide) rfl (fun ls hl => ?_)
          refine lv_goto (tgt := 39) hx hb dX10_take_68 (by decide) ?_
          exact ih (v208, g195) ⟨(ir_wk k209 (by decide) (by decide)), r196, r197, r198, r199, r200, r201, r202, r203, r204, r205, r206, r207⟩ (by show (12 - v208.toInt).toNat < (12 - u169.toInt).toNat; omega) _ _ _ hP hD hS (lv_sub hl [0, 1, 2] rfl)
      · have dc142 : x_lineId.toInt ≠ v141.toInt := ne_i (a := x_lineId.toInt) (b := v141.toInt) rfl rfl c142
        refine lv_iconst (v := 0) hx hb dX10_take_31 (by decide) ?_
        exact ret_i (v := 0) hx hb hr hlocks hS hP hD dX10_take_32 rfl (Nat.le_of_ble_eq_true rfl) (Nat.le_of_ble_eq_true rfl) ⟨F1, x_undoMany, f_s, f_undone, (SAME.up eF1 SAME.rf (by decide)), (get_eq eF1), (get_ne eF1 (by decide) e_undoMany), i_x_undoMany, s_s_153, s_s_0, s_s_5, s_s_6, s_s_7, s_s_44, s_s_K0, s_s_105, s_s_114, s_s_130, s_s_139, s_s_US, s_undone_1, s_undone_10, s_undone_25, s_undone_34, s_undone_49, s_undone_58, s_undone_73, s_undone_82, s_undone_97, s_undone_106, s_undone_121, s_undone_130, s_undone_145, s_undone_154, s_undone_169, s_undone_178, (show 0 ≤ (0 : Int32).toInt ∧ (0 : Int32).toInt ≤ 1 by decide), rfl⟩
set_option maxHeartbeats 4000000 in
set_option maxRecDepth 100000 in
theorem m_X10_bits (l : Launch) (D : va_G) (cI cJ cB cP cM cZ : ClassId) (p0 : Int32) (sz : Nat) (i_p0 : IR 0 63 p0) : CI l yX10_bits cX10_bits 3 (some .int) { frames := 0, cells := 0, slots := 0, locals := 0 } (GG D cI cJ cB cP cM cZ) D [] sz [.int p0] (fun (r : Int32) (u : va_W) => u = []) := by
  refine CI_mk (by decide) (Nat.le_of_ble_eq_true rfl) ?_
  intro p e s m below meth c A ls E hAe hG hsz hP hD hA hS hl
  obtain ⟨hx, hb, hr, hw, hown, hlocks, hml, hnm⟩ := E
  have hK := hG.1
  have i_p0 : 0 ≤ p0.toInt ∧ p0.toInt ≤ 63 := i_p0
  have hl : lv_has ls 3 [(0, .int p0)] := hl
  refine lv_iconst (v := 0) hx hb dX10_bits_0 (by decide) ?_
  refine lv_istore_n (lv' := [(1, .int 0), (0, .int p0)]) hx hb dX10_bits_1 rfl hl (by decide) rfl (fun ls hl => ?_)
  refine lv_iload_n hx hb dX10_bits_2 rfl (lv_at hl 1 rfl) ?_
  refine lv_istore_n (lv' := [(2, .int p0), (1, .int 0), (0, .int p0)]) hx hb dX10_bits_3 rfl hl (by decide) rfl (fun ls hl => ?_)
  refine mloop (α := (Int32) × (Int32)) (nL := 3) (D := D) (A := A) (H0 := s.heap) (fun a => (a.1.toInt).toNat) (fun a => IR 0 63 a.1) (fun a => []) (fun a => [(2, .int a.1), (1, .int a.2), (0, .int p0)]) (fun H locs ls => W p l e ({ frames := 0, cells := 0, slots := 0, locals := 0 } : Room) s m [.int p0].toArray below meth c H locs 0 0 (MQ below (va_Qi (fun (r : Int32) (u : va_W) => u = []) (PO D A) A) [.int p0].toArray s 0 0 A) (F0 m 4 ls [])) ?_ (p0, 0) i_p0 _ _ _ hP hD hS hl
  rintro ⟨u1, u2⟩ i3 ih H locs ls hP hD hS hl
  have i3 : 0 ≤ u1.toInt ∧ u1.toInt ≤ 63 := i3
  have hP : va_P D vwCl [] H := hP
  have hD : va_D A [] := hD
  have hl : lv_has ls 3 [(2, .int u1), (1, .int u2), (0, .int p0)] := hl
  refine lv_iload_n hx hb dX10_bits_4 rfl (lv_at hl 0 rfl) ?_
  refine lv_if_eq (tgt := 20) hx hb dX10_bits_5 (by decide) (fun c4 => ?_) (fun c4 => ?_)
  · have dc4 : u1.toInt = 0 := eq_i (a := u1.toInt) (b := 0) rfl rfl c4
    have k5 : 0 ≤ u1.toInt ∧ u1.toInt ≤ 0 := ⟨i3.1, Int.le_trans (Int.le_of_eq dc4) (Int.le_refl _)⟩
    refine lv_iload_n hx hb dX10_bits_20 rfl (lv_at hl 1 rfl) ?_
    exact ret_i (v := u2) hx hb hr hlocks hS hP hD dX10_bits_21 rfl (Nat.le_of_ble_eq_true rfl) (Nat.le_of_ble_eq_true rfl) rfl
  · have dc4 : u1.toInt ≠ 0 := ne_i (a := u1.toInt) (b := 0) rfl rfl c4
    have k6 : 1 ≤ u1.toInt ∧ u1.toInt ≤ 63 := ⟨ne_lo dc4 i3.1 ⟨Int.le_refl _, Int.le_refl _⟩ (by decide), i3.2⟩
    obtain ⟨v7, ev7⟩ : ∃ z : Int32, z = u2 + 1 := ⟨_, rfl⟩
    refine lv_iinc (v := v7) (lv' := [(1, .int v7), (2, .int u1), (0, .int p0)]) hx hb dX10_bits_8 hl (k := 1) rfl (by rw [ev7]; rfl) (by decide) rfl (fun ls hl => ?_)
    refine lv_iload_n hx hb dX10_bits_11 rfl (lv_at hl 1 rfl) ?_
    refine lv_iload_n hx hb dX10_bits_12 rfl (lv_at hl 1 rfl) ?_
    refine lv_iconst (v := 1) hx hb dX10_bits_13 (by decide) ?_
    refine lv_isub hx hb dX10_bits_14 ?_
    refine lv_topi (fun v8 ev8 => ?_)
    have bv8 : v8.toInt = u1.toInt - 1 := by rw [ev8]; exact sub_k rfl rfl k6 ⟨Int.le_refl _, Int.le_refl _⟩ (by decide)
    have k9 : 0 ≤ v8.toInt ∧ v8.toInt ≤ 62 := sub_r bv8 k6 ⟨Int.le_refl _, Int.le_refl _⟩ (by decide)
    refine lv_iand hx hb dX10_bits_15 ?_
    refine lv_topi (fun v10 ev10 => ?_)
    have r11 : 0 ≤ v10.toInt ∧ v10.toInt < u1.toInt := by rw [ev10, ev8]; exact andm_i (Int.le_trans (by decide) k6.1) (Int.le_trans k6.2 (by decide))
    have k12 : 0 ≤ v10.toInt ∧ v10.toInt ≤ 62 := ⟨r11.1, up_lt r11.2 k6.2 (by decide)⟩
    refine lv_istore_n (lv' := [(2, .int v10), (1, .int v7), (0, .int p0)]) hx hb dX10_bits_16 rfl hl (by decide) rfl (fun ls hl => ?_)
    refine lv_goto (tgt := 4) hx hb dX10_bits_17 (by decide) ?_
    exact ih (v10, v7) (ir_wk k12 (by decide) (by decide)) (by show (v10.toInt).toNat < (u1.toInt).toNat; omega) _ _ _ hP hD hS (lv_sub hl [0, 1, 2] rfl)
set_option maxHeartbeats 4000000 in
set_option maxRecDepth 100000 in
theorem m_X10_four (l : Launch) (D : va_G) (cI cJ cB cP cM cZ : ClassId) (h0 : Nat) (h_s : Nat) (h_behindAt : Nat) (h_before : Nat) (h_times : Nat) (h_stateBy : Nat) (h_timeOf : Nat) (Fh : Nat → Value) (x_bendsGone : Int32) (x_overAt : Int32) (x_endPace : Int32) (x_touchBend : Int32) (x_touchBy : Int32) (x_choicePace : Int32) (x_choiceSet : Int32) (x_choiceAhead : Int32) (f_s : Nat → Int32) (f_behindAt : Nat → Int32) (f_before : Nat → Int32) (f_times : Nat → Int32) (f_stateBy : Nat → Int32) (f_timeOf : Nat → Int32) (bs : Nat → Int32) (sz : Nat) (e_s : Fh 6 = .ref h_s) (e_behindAt : Fh 33 = .ref h_behindAt) (e_bendsGone : Fh 34 = .int x_bendsGone) (i_x_bendsGone : IR 0 12 x_bendsGone) (e_overAt : Fh 35 = .int x_overAt) (e_endPace : Fh 36 = .int x_endPace) (e_touchBend : Fh 37 = .int x_touchBend) (e_touchBy : Fh 38 = .int x_touchBy) (i_x_touchBy : IR 0 99 x_touchBy) (e_before : Fh 40 = .ref h_before) (e_times : Fh 42 = .ref h_times) (e_choicePace : Fh 46 = .int x_choicePace) (e_choiceSet : Fh 47 = .int x_choiceSet) (e_choiceAhead : Fh 48 = .int x_choiceAhead) (e_stateBy : Fh 49 = .ref h_stateBy) (e_timeOf : Fh 50 = .ref h_timeOf) (s_s_K0 : KW 0 f_s) (s_s_US : US bs f_s) (s_s_0 : SG 0 0 0 40 f_s) (s_s_105 : SG 105 108 0 11 f_s) (s_s_114 : SG 114 114 0 5 f_s) (s_s_130 : SG 130 133 0 11 f_s) (s_s_139 : SG 139 139 0 5 f_s) (s_s_153 : SG 153 153 0 44 f_s) (s_s_44 : SG 44 55 0 9 f_s) (s_s_5 : SG 5 5 0 12 f_s) (s_s_6 : SG 6 6 0 12 f_s) (s_s_7 : SG 7 7 0 6 f_s) (s_before_1 : SG 1 4 0 11 f_before) (s_before_10 : SG 10 10 0 5 f_before) (s_times_0 : SG 0 316191 0 100000000 f_times) (s_stateBy_0 : SG 0 38559 (-1) 7711 f_stateBy) (s_timeOf_0 : SG 0 38559 0 300 f_timeOf) : CI l yX10_four cX10_four 6 (some .int) { frames := 6, cells := 0, slots := 0, locals := 141 } (GG D cI cJ cB cP cM cZ) D [(h0, .inr (10, vL 67 Fh)), (h_s, .inl (cI, 335, .inl f_s)), (h_behindAt, .inl (cI, 12, .inl f_behindAt)), (h_before, .inl (cI, 24, .inl f_before)), (h_times, .inl (cI, 316192, .inl f_times)), (h_stateBy, .inl (cI, 38560, .inl f_stateBy)), (h_timeOf, .inl (cI, 38560, .inl f_timeOf))] sz [.ref h0] (fun (r : Int32) (u : va_W) => ∃ (Gh : Nat → Value) (y_bendsGone : Int32) (y_overAt : Int32) (y_endPace : Int32) (y_choicePace : Int32) (y_choiceSet : Int32) (y_choiceAhead : Int32) (g_s : Nat → Int32) (g_behindAt : Nat → Int32) (g_before : Nat → Int32) (g_times : Nat → Int32) (g_stateBy : Nat → Int32) (g_timeOf : Nat → Int32), SAME [0, 34, 35, 36, 46, 47, 48] Fh Gh ∧ Gh 0 = .int 0 ∧ Gh 34 = .int y_bendsGone ∧ IR 0 12 y_bendsGone ∧ Gh 35 = .int y_overAt ∧ Gh 36 = .int y_endPace ∧ Gh 46 = .int y_choicePace ∧ Gh 47 = .int y_choiceSet ∧ Gh 48 = .int y_choiceAhead ∧ SG 153 153 0 44 g_s ∧ SG 0 0 0 40 g_s ∧ SG 5 5 0 12 g_s ∧ SG 6 6 0 12 g_s ∧ SG 7 7 0 6 g_s ∧ SG 44 55 0 9 g_s ∧ KW 0 g_s ∧ SG 105 108 0 11 g_s ∧ SG 114 114 0 5 g_s ∧ SG 130 133 0 11 g_s ∧ SG 139 139 0 5 g_s ∧ US bs g_s ∧ SG 1 4 0 11 g_before ∧ SG 10 10 0 5 g_before ∧ SG 0 316191 0 100000000 g_times ∧ SG 0 38559 (-1) 7711 g_stateBy ∧ SG 0 38559 0 300 g_timeOf ∧ IR (-1) 63 r ∧ u = [(h0, .inr (10, vL 67 Gh)), (h_s, .inl (cI, 335, .inl g_s)), (h_behindAt, .inl (cI, 12, .inl g_behindAt)), (h_before, .inl (cI, 24, .inl g_before)), (h_times, .inl (cI, 316192, .inl g_times)), (h_stateBy, .inl (cI, 38560, .inl g_stateBy)), (h_timeOf, .inl (cI, 38560, .inl g_timeOf))]) := by
  refine CI_mk (by decide) (Nat.le_of_ble_eq_true rfl) ?_
  intro p e s m below meth c A ls E hAe hG hsz hP hD hA hS hl
  obtain ⟨hx, hb, hr, hw, hown, hlocks, hml, hnm⟩ := E
  have hK := hG.1
  have i_x_bendsGone : 0 ≤ x_bendsGone.toInt ∧ x_bendsGone.toInt ≤ 12 := i_x_bendsGone
  have i_x_touchBy : 0 ≤ x_touchBy.toInt ∧ x_touchBy.toInt ≤ 99 := i_x_touchBy
  have hl : lv_has ls 6 [(0, .ref h0)] := hl
  refine lv_aload_n hx hb dX10_four_0 rfl (lv_at hl 0 rfl) ?_
  refine lv_iconst (v := 0) hx hb dX10_four_1 (by decide) ?_
  refine put_f (D := D) (ci := 10) (v := .int 0) (ty := .int) (C := RX10) (T := TX10) (N := 67) hx hb hw inAX10 tyX10 tyX10_ok nmX10 hown hK hP hD hS 0 rfl rfl 0 (by decide) (hw _ q_1261) (fun _ h9 => h9) rfl (by decide +kernel) rfl rfl dX10_four_2 (fun H locs F1 eF1 hP hD hS => ?_)
  have hP : va_P D vwCl [(h0, .inr (10, vL 67 F1)), (h_s, .inl (cI, 335, .inl f_s)), (h_behindAt, .inl (cI, 12, .inl f_behindAt)), (h_before, .inl (cI, 24, .inl f_before)), (h_times, .inl (cI, 316192, .inl f_times)), (h_stateBy, .inl (cI, 38560, .inl f_stateBy)), (h_timeOf, .inl (cI, 38560, .inl f_timeOf))] H := hP
  have hD : va_D A [(h0, .inr (10, vL 67 F1)), (h_s, .inl (cI, 335, .inl f_s)), (h_behindAt, .inl (cI, 12, .inl f_behindAt)), (h_before, .inl (cI, 24, .inl f_before)), (h_times, .inl (cI, 316192, .inl f_times)), (h_stateBy, .inl (cI, 38560, .inl f_stateBy)), (h_timeOf, .inl (cI, 38560, .inl f_timeOf))] := hD
  refine lv_aload_n hx hb dX10_four_5 rfl (lv_at hl 0 rfl) ?_
  have n2 : F1 6 = .ref h_s := (get_ne eF1 (by decide) e_s)
  refine get_f (D := D) (ci := 10) (v := .ref h_s) (C := RX10) (T := TX10) (N := 67) hx hb hw inAX10 hown hK hP 0 rfl rfl 6 (by decide) (hw _ q_1267) (fun _ h9 => h9) n2 dX10_four_6 ?_
  refine lv_iconst (v := 5) hx hb dX10_four_9 (by decide) ?_
  refine iald_n hx hb hK hP 1 0 rfl rfl 5 rfl (Nat.le_of_ble_eq_true rfl) (Nat.le_of_ble_eq_true rfl) rfl dX10_four_10 ?_
  refine lv_topi (fun v3 ev3 => ?_)
  have k4 : 0 ≤ v3.toInt ∧ v3.toInt ≤ 12 := by rw [ev3]; exact s_s_5.atN 5 (by decide) (by decide)
  refine lv_bipush (v := 6) hx hb dX10_four_11 (by decide) ?_
  refine lv_icmp_le (tgt := 18) hx hb dX10_four_13 (by decide) (fun c5 => ?_) (fun c5 => ?_)
  · have dc5 : v3.toInt ≤ 6 := le_i (a := v3.toInt) (b := 6) rfl rfl c5
    have k6 : 0 ≤ v3.toInt ∧ v3.toInt ≤ 6 := ⟨k4.1, Int.le_trans dc5 (Int.le_refl _)⟩
    have r7 : SG 5 5 0 6 f_s := SG.one ev3 k6
    refine lv_aload_n hx hb dX10_four_18 rfl (lv_at hl 0 rfl) ?_
    have n8 : F1 40 = .ref h_before := (get_ne eF1 (by decide) e_before)
    refine call_Vv (wr := [(h_behindAt, .inl (cI, 12, .inl f_behindAt)), (h_times, .inl (cI, 316192, .inl f_times)), (h_stateBy, .inl (cI, 38560, .inl f_stateBy)), (h_timeOf, .inl (cI, 38560, .inl f_timeOf))]) (As := []) (rest := []) hx hb hml hown hw (m_X10_tries l D cI cJ cB cP cM cZ h0 h_s h_before F1 f_s f_before bs _ n2 n8 s_s_K0 s_s_US s_s_0 s_s_105 s_s_114 s_s_130 s_s_139 s_s_153 s_s_44 (SG.wk r7 (by decide) (by decide)) s_s_6 s_s_7 s_before_1 s_before_10) wV_X10_419_X10_tries dX10_four_19 hK hP hD hS hA [0, 1, 3] [2, 4, 5, 6] rfl rfl (by decide) (by decide) (by decide) 0 10 rfl rfl GG.fb hG.at hl.1 rfl (Nat.le_of_ble_eq_true rfl) ⟨(Nat.le_of_ble_eq_true rfl), (Nat.le_of_ble_eq_true rfl)⟩ ⟨(Nat.le_of_ble_eq_true rfl), (Nat.le_of_ble_eq_true rfl)⟩ (fun u H locs hp hP hD hS => ?_)
    obtain ⟨g10, t11, t12, rfl⟩ := hp
    have hP : va_P D vwCl [(h_behindAt, .inl (cI, 12, .inl f_behindAt)), (h_times, .inl (cI, 316192, .inl f_times)), (h_stateBy, .inl (cI, 38560, .inl f_stateBy)), (h_timeOf, .inl (cI, 38560, .inl f_timeOf)), (h0, .inr (10, vL 67 F1)), (h_s, .inl (cI, 335, .inl f_s)), (h_before, .inl (cI, 24, .inl g10))] H := hP
    have hD : va_D A [(h_behindAt, .inl (cI, 12, .inl f_behindAt)), (h_times, .inl (cI, 316192, .inl f_times)), (h_stateBy, .inl (cI, 38560, .inl f_stateBy)), (h_timeOf, .inl (cI, 38560, .inl f_timeOf)), (h0, .inr (10, vL 67 F1)), (h_s, .inl (cI, 335, .inl f_s)), (h_before, .inl (cI, 24, .inl g10))] := hD
    refine W.widen (k := 0) (n := 0) (Nat.le_of_ble_eq_true rfl) (Nat.le_of_ble_eq_true rfl) ?_
    refine lv_ldcw hx hb hown (hw _ q_1701) dX10_four_22 ?_
    refine lv_istore_n (lv' := [(1, .int 100000000), (0, .ref h0)]) hx hb dX10_four_25 rfl hl (by decide) rfl (fun ls hl => ?_)
    refine lv_iconst (v := (-1)) hx hb dX10_four_26 (by decide) ?_
    refine lv_istore_n (lv' := [(2, .int (-1)), (1, .int 100000000), (0, .ref h0)]) hx hb dX10_four_27 rfl hl (by decide) rfl (fun ls hl => ?_)
    refine lv_iconst (v := 0) hx hb dX10_four_28 (by decide) ?_
    refine lv_istore_n (lv' := [(3, .int 0), (2, .int (-1)), (1, .int 100000000), (0, .ref h0)]) hx hb dX10_four_29 rfl hl (by decide) rfl (fun ls hl => ?_)
    have n29 : F1 34 = .int x_bendsGone := (get_ne eF1 (by decide) e_bendsGone)
    have n30 : F1 35 = .int x_overAt := (get_ne eF1 (by decide) e_overAt)
    have n31 : F1 36 = .int x_endPace := (get_ne eF1 (by decide) e_endPace)
    have n32 : F1 46 = .int x_choicePace := (get_ne eF1 (by decide) e_choicePace)
    have n33 : F1 47 = .int x_choiceSet := (get_ne eF1 (by decide) e_choiceSet)
    have n34 : F1 48 = .int x_choiceAhead := (get_ne eF1 (by decide) e_choiceAhead)
    refine mloop (α := (Int32) × (Int32) × (Int32) × (Nat → Int32) × (Nat → Int32) × (Nat → Int32) × (Nat → Int32) × (Nat → Value) × (Int32) × (Int32) × (Int32) × (Int32) × (Int32) × (Int32) × (Nat → Int32)) (nL := 6) (D := D) (A := A) (H0 := s.heap) (fun a => (64 - a.1.toInt).toNat) (fun a => IR 0 64 a.1 ∧ IR (-1) 63 a.2.1 ∧ IR 0 100000000 a.2.2.1 ∧ SG 0 316191 0 100000000 a.2.2.2.2.1 ∧ SG 0 38559 (-1) 7711 a.2.2.2.2.2.1 ∧ SG 0 38559 0 300 a.2.2.2.2.2.2.1 ∧ SAME [34, 35, 36, 46, 47, 48] F1 a.2.2.2.2.2.2.2.1 ∧ a.2.2.2.2.2.2.2.1 34 = .int a.2.2.2.2.2.2.2.2.1 ∧ a.2.2.2.2.2.2.2.1 35 = .int a.2.2.2.2.2.2.2.2.2.1 ∧ a.2.2.2.2.2.2.2.1 36 = .int a.2.2.2.2.2.2.2.2.2.2.1 ∧ a.2.2.2.2.2.2.2.1 46 = .int a.2.2.2.2.2.2.2.2.2.2.2.1 ∧ a.2.2.2.2.2.2.2.1 47 = .int a.2.2.2.2.2.2.2.2.2.2.2.2.1 ∧ a.2.2.2.2.2.2.2.1 48 = .int a.2.2.2.2.2.2.2.2.2.2.2.2.2.1 ∧ IR 0 12 a.2.2.2.2.2.2.2.2.1 ∧ KW 0 a.2.2.2.2.2.2.2.2.2.2.2.2.2.2 ∧ US bs a.2.2.2.2.2.2.2.2.2.2.2.2.2.2 ∧ SG 0 0 0 40 a.2.2.2.2.2.2.2.2.2.2.2.2.2.2 ∧ SG 105 108 0 11 a.2.2.2.2.2.2.2.2.2.2.2.2.2.2 ∧ SG 114 114 0 5 a.2.2.2.2.2.2.2.2.2.2.2.2.2.2 ∧ SG 130 133 0 11 a.2.2.2.2.2.2.2.2.2.2.2.2.2.2 ∧ SG 139 139 0 5 a.2.2.2.2.2.2.2.2.2.2.2.2.2.2 ∧ SG 153 153 0 44 a.2.2.2.2.2.2.2.2.2.2.2.2.2.2 ∧ SG 44 55 0 9 a.2.2.2.2.2.2.2.2.2.2.2.2.2.2 ∧ SG 5 5 0 6 a.2.2.2.2.2.2.2.2.2.2.2.2.2.2 ∧ SG 6 6 0 12 a.2.2.2.2.2.2.2.2.2.2.2.2.2.2 ∧ SG 7 7 0 6 a.2.2.2.2.2.2.2.2.2.2.2.2.2.2) (fun a => [(h_behindAt, .inl (cI, 12, .inl a.2.2.2.1)), (h_times, .inl (cI, 316192, .inl a.2.2.2.2.1)), (h_stateBy, .inl (cI, 38560, .inl a.2.2.2.2.2.1)), (h_timeOf, .inl (cI, 38560, .inl a.2.2.2.2.2.2.1)), (h0, .inr (10, vL 67 a.2.2.2.2.2.2.2.1)), (h_s, .inl (cI, 335, .inl a.2.2.2.2.2.2.2.2.2.2.2.2.2.2)), (h_before, .inl (cI, 24, .inl g10))]) (fun a => [(3, .int a.1), (2, .int a.2.1), (1, .int a.2.2.1), (0, .ref h0)]) (fun H locs ls => W p l e ({ frames := 6, cells := 0, slots := 0, locals := 141 } : Room) s m [.ref h0].toArray below meth c H locs 0 0 (MQ below (va_Qi (fun (r : Int32) (u : va_W) => ∃ (Gh : Nat → Value) (y_bendsGone : Int32) (y_overAt : Int32) (y_endPace : Int32) (y_choicePace : Int32) (y_choiceSet : Int32) (y_choiceAhead : Int32) (g_s : Nat → Int32) (g_behindAt : Nat → Int32) (g_before : Nat → Int32) (g_times : Nat → Int32) (g_stateBy : Nat → Int32) (g_timeOf : Nat → Int32), SAME [0, 34, 35, 36, 46, 47, 48] Fh Gh ∧ Gh 0 = .int 0 ∧ Gh 34 = .int y_bendsGone ∧ IR 0 12 y_bendsGone ∧ Gh 35 = .int y_overAt ∧ Gh 36 = .int y_endPace ∧ Gh 46 = .int y_choicePace ∧ Gh 47 = .int y_choiceSet ∧ Gh 48 = .int y_choiceAhead ∧ SG 153 153 0 44 g_s ∧ SG 0 0 0 40 g_s ∧ SG 5 5 0 12 g_s ∧ SG 6 6 0 12 g_s ∧ SG 7 7 0 6 g_s ∧ SG 44 55 0 9 g_s ∧ KW 0 g_s ∧ SG 105 108 0 11 g_s ∧ SG 114 114 0 5 g_s ∧ SG 130 133 0 11 g_s ∧ SG 139 139 0 5 g_s ∧ US bs g_s ∧ SG 1 4 0 11 g_before ∧ SG 10 10 0 5 g_before ∧ SG 0 316191 0 100000000 g_times ∧ SG 0 38559 (-1) 7711 g_stateBy ∧ SG 0 38559 0 300 g_timeOf ∧ IR (-1) 63 r ∧ u = [(h0, .inr (10, vL 67 Gh)), (h_s, .inl (cI, 335, .inl g_s)), (h_behindAt, .inl (cI, 12, .inl g_behindAt)), (h_before, .inl (cI, 24, .inl g_before)), (h_times, .inl (cI, 316192, .inl g_times)), (h_stateBy, .inl (cI, 38560, .inl g_stateBy)), (h_timeOf, .inl (cI, 38560, .inl g_timeOf))]) (PO D A) A) [.ref h0].toArray s 0 0 A) (F0 m 30 ls [])) ?_ (0, (-1), 100000000, f_behindAt, f_times, f_stateBy, f_timeOf, F1, x_bendsGone, x_overAt, x_endPace, x_choicePace, x_choiceSet, x_choiceAhead, f_s) ⟨(show 0 ≤ (0 : Int32).toInt ∧ (0 : Int32).toInt ≤ 64 by decide), (show (-1) ≤ ((-1) : Int32).toInt ∧ ((-1) : Int32).toInt ≤ 63 by decide), (show 0 ≤ (100000000 : Int32).toInt ∧ (100000000 : Int32).toInt ≤ 100000000 by decide), s_times_0, s_stateBy_0, s_timeOf_0, SAME.rf, n29, n30, n31, n32, n33, n34, i_x_bendsGone, s_s_K0, s_s_US, s_s_0, s_s_105, s_s_114, s_s_130, s_s_139, s_s_153, s_s_44, r7, s_s_6, s_s_7⟩ _ _ _ hP hD hS hl
    rintro ⟨u14, u15, u16, w17, w18, w19, w20, G21, u22, u23, u24, u25, u26, u27, w28⟩ ⟨i35, i36, i37, i38, i39, i40, i41, i42, i43, i44, i45, i46, i47, i48, i49, i50, i51, i52, i53, i54, i55, i56, i57, i58, i59, i60⟩ ih H locs ls hP hD hS hl
    have i35 : 0 ≤ u14.toInt ∧ u14.toInt ≤ 64 := i35
    have i36 : (-1) ≤ u15.toInt ∧ u15.toInt ≤ 63 := i36
    have i37 : 0 ≤ u16.toInt ∧ u16.toInt ≤ 100000000 := i37
    have i48 : 0 ≤ u22.toInt ∧ u22.toInt ≤ 12 := i48
    have hP : va_P D vwCl [(h_behindAt, .inl (cI, 12, .inl w17)), (h_times, .inl (cI, 316192, .inl w18)), (h_stateBy, .inl (cI, 38560, .inl w19)), (h_timeOf, .inl (cI, 38560, .inl w20)), (h0, .inr (10, vL 67 G21)), (h_s, .inl (cI, 335, .inl w28)), (h_before, .inl (cI, 24, .inl g10))] H := hP
    have hD : va_D A [(h_behindAt, .inl (cI, 12, .inl w17)), (h_times, .inl (cI, 316192, .inl w18)), (h_stateBy, .inl (cI, 38560, .inl w19)), (h_timeOf, .inl (cI, 38560, .inl w20)), (h0, .inr (10, vL 67 G21)), (h_s, .inl (cI, 335, .inl w28)), (h_before, .inl (cI, 24, .inl g10))] := hD
    have hl : lv_has ls 6 [(3, .int u14), (2, .int u15), (1, .int u16), (0, .ref h0)] := hl
    refine lv_iload_n hx hb dX10_four_30 rfl (lv_at hl 0 rfl) ?_
    refine lv_iconst (v := 1) hx hb dX10_four_31 (by decide) ?_
    refine lv_aload_n hx hb dX10_four_32 rfl (lv_at hl 3 rfl) ?_
    have n61 : G21 6 = .ref h_s := (SAME.at i41 (by decide) n2)
    refine get_f (D := D) (ci := 10) (v := .ref h_s) (C := RX10) (T := TX10) (N := 67) hx hb hw inAX10 hown hK hP 4 rfl rfl 6 (by decide) (hw _ q_1267) (fun _ h9 => h9) n61 dX10_four_33 ?_
    refine lv_iconst (v := 5) hx hb dX10_four_36 (by decide) ?_
    refine iald_n hx hb hK hP 5 0 rfl rfl 5 rfl (Nat.le_of_ble_eq_true rfl) (Nat.le_of_ble_eq_true rfl) rfl dX10_four_37 ?_
    refine lv_topi (fun v62 ev62 => ?_)
    have k63 : 0 ≤ v62.toInt ∧ v62.toInt ≤ 6 := by rw [ev62]; exact i58.atN 5 (by decide) (by decide)
    refine lv_ishl hx hb dX10_four_38 ?_
    refine lv_topi (fun v64 ev64 => ?_)
    have k65 : 1 ≤ v64.toInt ∧ v64.toInt ≤ 64 := by rw [ev64]; exact shl6_i (Int.le_trans (by decide) k63.1) (Int.le_trans k63.2 (by decide))
    refine lv_icmp_ge (tgt := 129) hx hb dX10_four_39 (by decide) (fun c66 => ?_) (fun c66 => ?_)
    · have dc66 : v64.toInt ≤ u14.toInt := le_i (a := v64.toInt) (b := u14.toInt) rfl rfl c66
      have k67 : 1 ≤ u14.toInt ∧ u14.toInt ≤ 64 := ⟨Int.le_trans k65.1 dc66, i35.2⟩
      refine lv_aload_n hx hb dX10_four_129 rfl (lv_at hl 3 rfl) ?_
      have n68 : G21 40 = .ref h_before := (SAME.at i41 (by decide) n8)
      refine call_Vv (wr := [(h_behindAt, .inl (cI, 12, .inl w17)), (h_times, .inl (cI, 316192, .inl w18)), (h_stateBy, .inl (cI, 38560, .inl w19)), (h_timeOf, .inl (cI, 38560, .inl w20))]) (As := []) (rest := []) hx hb hml hown hw (m_X10_back l D cI cJ cB cP cM cZ h0 h_s h_before G21 w28 g10 bs _ n61 n68 i49 i50 i51 i52 i53 i54 i55 i56 i57 (SG.wk i58 (by decide) (by decide)) i59 i60 t11 t12) wV_X10_425_X10_back dX10_four_130 hK hP hD hS hA [4, 5, 6] [0, 1, 2, 3] rfl rfl (by decide) (by decide) (by decide) 0 10 rfl rfl GG.fb hG.at hl.1 rfl (Nat.le_of_ble_eq_true rfl) ⟨(Nat.le_of_ble_eq_true rfl), (Nat.le_of_ble_eq_true rfl)⟩ ⟨(Nat.le_of_ble_eq_true rfl), (Nat.le_of_ble_eq_true rfl)⟩ (fun u H locs hp hP hD hS => ?_)
      obtain ⟨g70, t71, t72, t73, t74, t75, t76, t77, t78, t79, t80, t81, t82, rfl⟩ := hp
      have hP : va_P D vwCl [(h_behindAt, .inl (cI, 12, .inl w17)), (h_times, .inl (cI, 316192, .inl w18)), (h_stateBy, .inl (cI, 38560, .inl w19)), (h_timeOf, .inl (cI, 38560, .inl w20)), (h0, .inr (10, vL 67 G21)), (h_s, .inl (cI, 335, .inl g70)), (h_before, .inl (cI, 24, .inl g10))] H := hP
      have hD : va_D A [(h_behindAt, .inl (cI, 12, .inl w17)), (h_times, .inl (cI, 316192, .inl w18)), (h_stateBy, .inl (cI, 38560, .inl w19)), (h_timeOf, .inl (cI, 38560, .inl w20)), (h0, .inr (10, vL 67 G21)), (h_s, .inl (cI, 335, .inl g70)), (h_before, .inl (cI, 24, .inl g10))] := hD
      refine W.widen (k := 0) (n := 0) (Nat.le_of_ble_eq_true rfl) (Nat.le_of_ble_eq_true rfl) ?_
      refine lv_iload_n hx hb dX10_four_133 rfl (lv_at hl 1 rfl) ?_
      exact ret_i (v := u15) hx hb hr hlocks hS (hP.sub (ws' := [(h0, .inr (10, vL 67 G21)), (h_s, .inl (cI, 335, .inl g70)), (h_behindAt, .inl (cI, 12, .inl w17)), (h_before, .inl (cI, 24, .inl g10)), (h_times, .inl (cI, 316192, .inl w18)), (h_stateBy, .inl (cI, 38560, .inl w19)), (h_timeOf, .inl (cI, 38560, .inl w20))]) [4, 5, 0, 6, 1, 2, 3] rfl) (hD.sub (ws' := [(h0, .inr (10, vL 67 G21)), (h_s, .inl (cI, 335, .inl g70)), (h_behindAt, .inl (cI, 12, .inl w17)), (h_before, .inl (cI, 24, .inl g10)), (h_times, .inl (cI, 316192, .inl w18)), (h_stateBy, .inl (cI, 38560, .inl w19)), (h_timeOf, .inl (cI, 38560, .inl w20))]) [4, 5, 0, 6, 1, 2, 3] (by decide) rfl) dX10_four_134 rfl (Nat.le_of_ble_eq_true rfl) (Nat.le_of_ble_eq_true rfl) ⟨G21, u22, u23, u24, u25, u26, u27, g70, w17, g10, w18, w19, w20, (SAME.tr (SAME.up eF1 SAME.rf (by decide)) i41 (by decide)), (SAME.at i41 (by decide) (get_eq eF1)), i42, i48, i43, i44, i45, i46, i47, t71, t72, t73, t74, t75, t76, t77, t78, t79, t80, t81, t82, t11, t12, i38, i39, i40, i36, rfl⟩
    · have dc66 : u14.toInt < v64.toInt := nle_i (a := v64.toInt) (b := u14.toInt) rfl rfl c66
      have k84 : 0 ≤ u14.toInt ∧ u14.toInt ≤ 63 := ⟨i35.1, up_lt dc66 k65.2 (by decide)⟩
      refine lv_iload_n hx hb dX10_four_42 rfl (lv_at hl 0 rfl) ?_
      refine call_Si (wr := [(h_behindAt, .inl (cI, 12, .inl w17)), (h_times, .inl (cI, 316192, .inl w18)), (h_stateBy, .inl (cI, 38560, .inl w19)), (h_timeOf, .inl (cI, 38560, .inl w20)), (h0, .inr (10, vL 67 G21)), (h_s, .inl (cI, 335, .inl w28)), (h_before, .inl (cI, 24, .inl g10))]) (As := [.int u14]) (rest := []) hx hb hml hown hw (m_X10_bits l D cI cJ cB cP cM cZ u14 _ k84) wS_X10_422_X10_bits dX10_four_43 hP hD hS hA [] [0, 1, 2, 3, 4, 5, 6] rfl rfl (by decide) (by decide) (by decide) GG.fb hG.at hl.1 rfl (Nat.le_of_ble_eq_true rfl) ⟨(Nat.le_of_ble_eq_true rfl), (Nat.le_of_ble_eq_true rfl)⟩ ⟨(Nat.le_of_ble_eq_true rfl), (Nat.le_of_ble_eq_true rfl)⟩ (fun r85 u H locs hp hP hD hS => ?_)
      obtain rfl := hp
      have hP : va_P D vwCl [(h_behindAt, .inl (cI, 12, .inl w17)), (h_times, .inl (cI, 316192, .inl w18)), (h_stateBy, .inl (cI, 38560, .inl w19)), (h_timeOf, .inl (cI, 38560, .inl w20)), (h0, .inr (10, vL 67 G21)), (h_s, .inl (cI, 335, .inl w28)), (h_before, .inl (cI, 24, .inl g10))] H := hP
      have hD : va_D A [(h_behindAt, .inl (cI, 12, .inl w17)), (h_times, .inl (cI, 316192, .inl w18)), (h_stateBy, .inl (cI, 38560, .inl w19)), (h_timeOf, .inl (cI, 38560, .inl w20)), (h0, .inr (10, vL 67 G21)), (h_s, .inl (cI, 335, .inl w28)), (h_before, .inl (cI, 24, .inl g10))] := hD
      refine W.widen (k := 0) (n := 0) (Nat.le_of_ble_eq_true rfl) (Nat.le_of_ble_eq_true rfl) ?_
      refine lv_iconst (v := 4) hx hb dX10_four_46 (by decide) ?_
      refine lv_icmp_eq (tgt := 53) hx hb dX10_four_47 (by decide) (fun c87 => ?_) (fun c87 => ?_)
      · have dc87 : r85.toInt = 4 := eq_i (a := r85.toInt) (b := 4) rfl rfl c87
        have k88 : 4 ≤ r85.toInt ∧ r85.toInt ≤ 4 := ⟨Int.le_trans (Int.le_refl _) (Int.le_of_eq dc87.symm), Int.le_trans (Int.le_of_eq dc87) (Int.le_refl _)⟩
        refine lv_iconst (v := 0) hx hb dX10_four_53 (by decide) ?_
        refine lv_istore (lv' := [(4, .int 0), (3, .int u14), (2, .int u15), (1, .int u16), (0, .ref h0)]) hx hb dX10_four_54 hl (by decide) rfl (fun ls hl => ?_)
        refine lv_iconst (v := 0) hx hb dX10_four_56 (by decide) ?_
        refine lv_istore (lv' := [(5, .int 0), (4, .int 0), (3, .int u14), (2, .int u15), (1, .int u16), (0, .ref h0)]) hx hb dX10_four_57 hl (by decide) rfl (fun ls hl => ?_)
        refine mloop (α := (Int32) × (Int32) × (Nat → Int32)) (nL := 6) (D := D) (A := A) (H0 := s.heap) (fun a => (6 - a.1.toInt).toNat) (fun a => IR 0 6 a.1 ∧ IR 0 6 a.2.1 ∧ KW 0 a.2.2 ∧ US bs a.2.2 ∧ SG 0 0 0 40 a.2.2 ∧ SG 105 108 0 11 a.2.2 ∧ SG 114 114 0 5 a.2.2 ∧ SG 130 133 0 11 a.2.2 ∧ SG 139 139 0 5 a.2.2 ∧ SG 153 153 0 44 a.2.2 ∧ SG 44 55 0 9 a.2.2 ∧ SG 5 5 0 6 a.2.2 ∧ SG 6 6 0 12 a.2.2 ∧ SG 7 7 0 6 a.2.2 ∧ (a.2.1.toInt ≤ a.1.toInt)) (fun a => [(h_behindAt, .inl (cI, 12, .inl w17)), (h_times, .inl (cI, 316192, .inl w18)), (h_stateBy, .inl (cI, 38560, .inl w19)), (h_timeOf, .inl (cI, 38560, .inl w20)), (h0, .inr (10, vL 67 G21)), (h_s, .inl (cI, 335, .inl a.2.2)), (h_before, .inl (cI, 24, .inl g10))]) (fun a => [(5, .int a.1), (4, .int a.2.1), (3, .int u14), (2, .int u15), (1, .int u16), (0, .ref h0)]) (fun H locs ls => W p l e ({ frames := 6, cells := 0, slots := 0, locals := 141 } : Room) s m [.ref h0].toArray below meth c H locs 0 0 (MQ below (va_Qi (fun (r : Int32) (u : va_W) => ∃ (Gh : Nat → Value) (y_bendsGone : Int32) (y_overAt : Int32) (y_endPace : Int32) (y_choicePace : Int32) (y_choiceSet : Int32) (y_choiceAhead : Int32) (g_s : Nat → Int32) (g_behindAt : Nat → Int32) (g_before : Nat → Int32) (g_times : Nat → Int32) (g_stateBy : Nat → Int32) (g_timeOf : Nat → Int32), SAME [0, 34, 35, 36, 46, 47, 48] Fh Gh ∧ Gh 0 = .int 0 ∧ Gh 34 = .int y_bendsGone ∧ IR 0 12 y_bendsGone ∧ Gh 35 = .int y_overAt ∧ Gh 36 = .int y_endPace ∧ Gh 46 = .int y_choicePace ∧ Gh 47 = .int y_choiceSet ∧ Gh 48 = .int y_choiceAhead ∧ SG 153 153 0 44 g_s ∧ SG 0 0 0 40 g_s ∧ SG 5 5 0 12 g_s ∧ SG 6 6 0 12 g_s ∧ SG 7 7 0 6 g_s ∧ SG 44 55 0 9 g_s ∧ KW 0 g_s ∧ SG 105 108 0 11 g_s ∧ SG 114 114 0 5 g_s ∧ SG 130 133 0 11 g_s ∧ SG 139 139 0 5 g_s ∧ US bs g_s ∧ SG 1 4 0 11 g_before ∧ SG 10 10 0 5 g_before ∧ SG 0 316191 0 100000000 g_times ∧ SG 0 38559 (-1) 7711 g_stateBy ∧ SG 0 38559 0 300 g_timeOf ∧ IR (-1) 63 r ∧ u = [(h0, .inr (10, vL 67 Gh)), (h_s, .inl (cI, 335, .inl g_s)), (h_behindAt, .inl (cI, 12, .inl g_behindAt)), (h_before, .inl (cI, 24, .inl g_before)), (h_times, .inl (cI, 316192, .inl g_times)), (h_stateBy, .inl (cI, 38560, .inl g_stateBy)), (h_timeOf, .inl (cI, 38560, .inl g_timeOf))]) (PO D A) A) [.ref h0].toArray s 0 0 A) (F0 m 59 ls [])) ?_ (0, 0, w28) ⟨(show 0 ≤ (0 : Int32).toInt ∧ (0 : Int32).toInt ≤ 6 by decide), (show 0 ≤ (0 : Int32).toInt ∧ (0 : Int32).toInt ≤ 6 by decide), i49, i50, i51, i52, i53, i54, i55, i56, i57, i58, i59, i60, (by show 0 ≤ 0; omega)⟩ _ _ _ hP hD hS hl
        rintro ⟨u89, u90, w91⟩ ⟨i92, i93, i94, i95, i96, i97, i98, i99, i100, i101, i102, i103, i104, i105, i106⟩ ih_59 H locs ls hP hD hS hl
        have i92 : 0 ≤ u89.toInt ∧ u89.toInt ≤ 6 := i92
        have i93 : 0 ≤ u90.toInt ∧ u90.toInt ≤ 6 := i93
        have i106 : u90.toInt ≤ u89.toInt := i106
        have hP : va_P D vwCl [(h_behindAt, .inl (cI, 12, .inl w17)), (h_times, .inl (cI, 316192, .inl w18)), (h_stateBy, .inl (cI, 38560, .inl w19)), (h_timeOf, .inl (cI, 38560, .inl w20)), (h0, .inr (10, vL 67 G21)), (h_s, .inl (cI, 335, .inl w91)), (h_before, .inl (cI, 24, .inl g10))] H := hP
        have hD : va_D A [(h_behindAt, .inl (cI, 12, .inl w17)), (h_times, .inl (cI, 316192, .inl w18)), (h_stateBy, .inl (cI, 38560, .inl w19)), (h_timeOf, .inl (cI, 38560, .inl w20)), (h0, .inr (10, vL 67 G21)), (h_s, .inl (cI, 335, .inl w91)), (h_before, .inl (cI, 24, .inl g10))] := hD
        have hl : lv_has ls 6 [(5, .int u89), (4, .int u90), (3, .int u14), (2, .int u15), (1, .int u16), (0, .ref h0)] := hl
        refine lv_iload hx hb dX10_four_59 (lv_at hl 0 rfl) ?_
        refine lv_aload_n hx hb dX10_four_61 rfl (lv_at hl 5 rfl) ?_
        refine get_f (D := D) (ci := 10) (v := .ref h_s) (C := RX10) (T := TX10) (N := 67) hx hb hw inAX10 hown hK hP 4 rfl rfl 6 (by decide) (hw _ q_1267) (fun _ h9 => h9) n61 dX10_four_62 ?_
        refine lv_iconst (v := 5) hx hb dX10_four_65 (by decide) ?_
        refine iald_n hx hb hK hP 5 0 rfl rfl 5 rfl (Nat.le_of_ble_eq_true rfl) (Nat.le_of_ble_eq_true rfl) rfl dX10_four_66 ?_
        refine lv_topi (fun v107 ev107 => ?_)
        have k108 : 0 ≤ v107.toInt ∧ v107.toInt ≤ 6 := by rw [ev107]; exact i103.atN 5 (by decide) (by decide)
        refine lv_icmp_ge (tgt := 103) hx hb dX10_four_67 (by decide) (fun c109 => ?_) (fun c109 => ?_)
        · have dc109 : v107.toInt ≤ u89.toInt := le_i (a := v107.toInt) (b := u89.toInt) rfl rfl c109
          refine lv_aload_n hx hb dX10_four_103 rfl (lv_at hl 5 rfl) ?_
          have n110 : F1 33 = .ref h_behindAt := (get_ne eF1 (by decide) e_behindAt)
          have n111 : G21 33 = .ref h_behindAt := (SAME.at i41 (by decide) n110)
          have n112 : F1 37 = .int x_touchBend := (get_ne eF1 (by decide) e_touchBend)
          have n113 : G21 37 = .int x_touchBend := (SAME.at i41 (by decide) n112)
          have n114 : F1 38 = .int x_touchBy := (get_ne eF1 (by decide) e_touchBy)
          have n115 : G21 38 = .int x_touchBy := (SAME.at i41 (by decide) n114)
          have n116 : F1 42 = .ref h_times := (get_ne eF1 (by decide) e_times)
          have n117 : G21 42 = .ref h_times := (SAME.at i41 (by decide) n116)
          have n118 : F1 49 = .ref h_stateBy := (get_ne eF1 (by decide) e_stateBy)
          have n119 : G21 49 = .ref h_stateBy := (SAME.at i41 (by decide) n118)
          have n120 : F1 50 = .ref h_timeOf := (get_ne eF1 (by decide) e_timeOf)
          have n121 : G21 50 = .ref h_timeOf := (SAME.at i41 (by decide) n120)
          refine call_Vi (wr := [(h_before, .inl (cI, 24, .inl g10))]) (As := []) (rest := []) hx hb hml hown hw (m_X10_bestOf l D cI cJ cB cP cM cZ h0 h_s h_behindAt h_times h_stateBy h_timeOf G21 u22 u23 u24 x_touchBend x_touchBy u25 u26 u27 w91 w17 w18 w19 w20 bs _ n61 n111 i42 i48 i43 i44 n113 n115 i_x_touchBy n117 i45 i46 i47 n119 n121 i94 i95 i96 i97 i98 i99 i100 i101 i102 (SG.wk i103 (by decide) (by decide)) i104 i105 i38 i39 i40) wV_X10_401_X10_bestOf dX10_four_104 hK hP hD hS hA [4, 5, 0, 1, 2, 3] [6] rfl rfl (by decide) (by decide) (by decide) 0 10 rfl rfl GG.fb hG.at hl.1 rfl (Nat.le_of_ble_eq_true rfl) ⟨(Nat.le_of_ble_eq_true rfl), (Nat.le_of_ble_eq_true rfl)⟩ ⟨(Nat.le_of_ble_eq_true rfl), (Nat.le_of_ble_eq_true rfl)⟩ (fun r122 u H locs hp hP hD hS => ?_)
          refine hp.elim (fun F123 h9z0 => h9z0.elim (fun y124 h9z1 => h9z1.elim (fun y125 h9z2 => h9z2.elim (fun y126 h9z3 => h9z3.elim (fun y127 h9z4 => h9z4.elim (fun y128 h9z5 => h9z5.elim (fun y129 h9z6 => h9z6.elim (fun g130 h9z7 => h9z7.elim (fun g131 h9z8 => h9z8.elim (fun g132 h9z9 => h9z9.elim (fun g133 h9z10 => h9z10.elim (fun t134 h9z11 => h9z11.elim (fun t135 h9z12 => h9z12.elim (fun t136 h9z13 => h9z13.elim (fun t137 h9z14 => h9z14.elim (fun t138 h9z15 => h9z15.elim (fun t139 h9z16 => h9z16.elim (fun t140 h9z17 => h9z17.elim (fun t141 h9z18 => h9z18.elim (fun t142 h9z19 => h9z19.elim (fun t143 h9z20 => h9z20.elim (fun t144 h9z21 => h9z21.elim (fun t145 h9z22 => h9z22.elim (fun t146 h9z23 => h9z23.elim (fun t147 h9z24 => ?_)))))))))))))))))))))))))
          clear h9z0 h9z1 h9z2 h9z3 h9z4 h9z5 h9z6 h9z7 h9z8 h9z9 h9z10 h9z11 h9z12 h9z13 h9z14 h9z15 h9z16 h9z17 h9z18 h9z19 h9z20 h9z21 h9z22 h9z23
          subst h9z24
          have hP : va_P D vwCl [(h_before, .inl (cI, 24, .inl g10)), (h0, .inr (10, vL 67 F123)), (h_s, .inl (cI, 335, .inl w91)), (h_behindAt, .inl (cI, 12, .inl g130)), (h_times, .inl (cI, 316192, .inl g131)), (h_stateBy, .inl (cI, 38560, .inl g132)), (h_timeOf, .inl (cI, 38560, .inl g133))] H := hP
          have hD : va_D A [(h_before, .inl (cI, 24, .inl g10)), (h0, .inr (10, vL 67 F123)), (h_s, .inl (cI, 335, .inl w91)), (h_behindAt, .inl (cI, 12, .inl g130)), (h_times, .inl (cI, 316192, .inl g131)), (h_stateBy, .inl (cI, 38560, .inl g132)), (h_timeOf, .inl (cI, 38560, .inl g133))] := hD
          refine W.widen (k := 0) (n := 0) (Nat.le_of_ble_eq_true rfl) (Nat.le_of_ble_eq_true rfl) ?_
          refine lv_istore (lv' := [(5, .int r122), (4, .int u90), (3, .int u14), (2, .int u15), (1, .int u16), (0, .ref h0)]) hx hb dX10_four_107 hl (by decide) rfl (fun ls hl => ?_)
          refine lv_iload hx hb dX10_four_109 (lv_at hl 0 rfl) ?_
          refine lv_iload_n hx hb dX10_four_111 rfl (lv_at hl 4 rfl) ?_
          refine lv_icmp_lt (tgt := 118) hx hb dX10_four_112 (by decide) (fun c149 => ?_) (fun c149 => ?_)
          · have dc149 : r122.toInt < u16.toInt := lt_i (a := r122.toInt) (b := u16.toInt) rfl rfl c149
            have k150 : 0 ≤ r122.toInt ∧ r122.toInt ≤ 99999999 := ⟨t145.1, up_lt dc149 i37.2 (by decide)⟩
            have k151 : 1 ≤ u16.toInt ∧ u16.toInt ≤ 100000000 := ⟨lo_lt dc149 t145.1 (by decide), i37.2⟩
            refine lv_iload hx hb dX10_four_118 (lv_at hl 0 rfl) ?_
            refine lv_istore_n (lv' := [(1, .int r122), (5, .int r122), (4, .int u90), (3, .int u14), (2, .int u15), (0, .ref h0)]) hx hb dX10_four_120 rfl hl (by decide) rfl (fun ls hl => ?_)
            refine lv_iload_n hx hb dX10_four_121 rfl (lv_at hl 3 rfl) ?_
            refine lv_istore_n (lv' := [(2, .int u14), (1, .int r122), (5, .int r122), (4, .int u90), (3, .int u14), (0, .ref h0)]) hx hb dX10_four_122 rfl hl (by decide) rfl (fun ls hl => ?_)
            obtain ⟨v152, ev152⟩ : ∃ z : Int32, z = u14 + 1 := ⟨_, rfl⟩
            have bv152 : v152.toInt = u14.toInt + 1 := by rw [ev152]; exact add_k rfl rfl k84 ⟨Int.le_refl _, Int.le_refl _⟩ (by decide)
            have k153 : 1 ≤ v152.toInt ∧ v152.toInt ≤ 64 := add_r bv152 k84 ⟨Int.le_refl _, Int.le_refl _⟩ (by decide)
            refine lv_iinc (v := v152) (lv' := [(3, .int v152), (2, .int u14), (1, .int r122), (5, .int r122), (4, .int u90), (0, .ref h0)]) hx hb dX10_four_123 hl (k := 4) rfl (by rw [ev152]; rfl) (by decide) rfl (fun ls hl => ?_)
            refine lv_goto (tgt := 30) hx hb dX10_four_126 (by decide) ?_
            exact ih (v152, u14, r122, g130, g131, g132, g133, F123, y124, y125, y126, y127, y128, y129, w91) ⟨(ir_wk k153 (by decide) (by decide)), (ir_wk k84 (by decide) (by decide)), (ir_wk k150 (by decide) (by decide)), t142, t143, t144, (SAME.tr (SAME.tr SAME.rf i41 (by decide)) t134 (by decide)), t135, t137, t138, t139, t140, t141, t136, i94, i95, i96, i97, i98, i99, i100, i101, i102, i103, i104, i105⟩ (by show (64 - v152.toInt).toNat < (64 - u14.toInt).toNat; omega) _ _ _ (hP.sub [3, 4, 5, 6, 1, 2, 0] rfl) (hD.sub [3, 4, 5, 6, 1, 2, 0] (by decide) rfl) hS (lv_sub hl [0, 1, 2, 5] rfl)
          · have dc149 : u16.toInt ≤ r122.toInt := nlt_i (a := r122.toInt) (b := u16.toInt) rfl rfl c149
            refine lv_goto (tgt := 123) hx hb dX10_four_115 (by decide) ?_
            obtain ⟨v154, ev154⟩ : ∃ z : Int32, z = u14 + 1 := ⟨_, rfl⟩
            have bv154 : v154.toInt = u14.toInt + 1 := by rw [ev154]; exact add_k rfl rfl k84 ⟨Int.le_refl _, Int.le_refl _⟩ (by decide)
            have k155 : 1 ≤ v154.toInt ∧ v154.toInt ≤ 64 := add_r bv154 k84 ⟨Int.le_refl _, Int.le_refl _⟩ (by decide)
            refine lv_iinc (v := v154) (lv' := [(3, .int v154), (5, .int r122), (4, .int u90), (2, .int u15), (1, .int u16), (0, .ref h0)]) hx hb dX10_four_123 hl (k := 2) rfl (by rw [ev154]; rfl) (by decide) rfl (fun ls hl => ?_)
            refine lv_goto (tgt := 30) hx hb dX10_four_126 (by decide) ?_
            exact ih (v154, u15, u16, g130, g131, g132, g133, F123, y124, y125, y126, y127, y128, y129, w91) ⟨(ir_wk k155 (by decide) (by decide)), i36, i37, t142, t143, t144, (SAME.tr (SAME.tr SAME.rf i41 (by decide)) t134 (by decide)), t135, t137, t138, t139, t140, t141, t136, i94, i95, i96, i97, i98, i99, i100, i101, i102, i103, i104, i105⟩ (by show (64 - v154.toInt).toNat < (64 - u14.toInt).toNat; omega) _ _ _ (hP.sub [3, 4, 5, 6, 1, 2, 0] rfl) (hD.sub [3, 4, 5, 6, 1, 2, 0] (by decide) rfl) hS (lv_sub hl [0, 3, 4, 5] rfl)
        · have dc109 : u89.toInt < v107.toInt := nle_i (a := v107.toInt) (b := u89.toInt) rfl rfl c109
          have k156 : 0 ≤ u89.toInt ∧ u89.toInt ≤ 5 := ⟨i92.1, up_lt dc109 k108.2 (by decide)⟩
          have k157 : 1 ≤ v107.toInt ∧ v107.toInt ≤ 6 := ⟨lo_lt dc109 i92.1 (by decide), k108.2⟩
          refine lv_iload_n hx hb dX10_four_70 rfl (lv_at hl 2 rfl) ?_
          refine lv_iload hx hb dX10_four_71 (lv_at hl 0 rfl) ?_
          refine call_Si (wr := [(h_behindAt, .inl (cI, 12, .inl w17)), (h_times, .inl (cI, 316192, .inl w18)), (h_stateBy, .inl (cI, 38560, .inl w19)), (h_timeOf, .inl (cI, 38560, .inl w20)), (h0, .inr (10, vL 67 G21)), (h_s, .inl (cI, 335, .inl w91)), (h_before, .inl (cI, 24, .inl g10))]) (As := [.int u14, .int u89]) (rest := []) hx hb hml hown hw (m_X10_bitOf l D cI cJ cB cP cM cZ u14 u89 _ ) wS_X10_232_X10_bitOf dX10_four_73 hP hD hS hA [] [0, 1, 2, 3, 4, 5, 6] rfl rfl (by decide) (by decide) (by decide) GG.fb hG.at hl.1 rfl (Nat.le_of_ble_eq_true rfl) ⟨(Nat.le_of_ble_eq_true rfl), (Nat.le_of_ble_eq_true rfl)⟩ ⟨(Nat.le_of_ble_eq_true rfl), (Nat.le_of_ble_eq_true rfl)⟩ (fun r158 u H locs hp hP hD hS => ?_)
          rcases hp with ⟨t159, rfl, rfl⟩ | ⟨t160, rfl, rfl⟩
          · have hP : va_P D vwCl [(h_behindAt, .inl (cI, 12, .inl w17)), (h_times, .inl (cI, 316192, .inl w18)), (h_stateBy, .inl (cI, 38560, .inl w19)), (h_timeOf, .inl (cI, 38560, .inl w20)), (h0, .inr (10, vL 67 G21)), (h_s, .inl (cI, 335, .inl w91)), (h_before, .inl (cI, 24, .inl g10))] H := hP
            have hD : va_D A [(h_behindAt, .inl (cI, 12, .inl w17)), (h_times, .inl (cI, 316192, .inl w18)), (h_stateBy, .inl (cI, 38560, .inl w19)), (h_timeOf, .inl (cI, 38560, .inl w20)), (h0, .inr (10, vL 67 G21)), (h_s, .inl (cI, 335, .inl w91)), (h_before, .inl (cI, 24, .inl g10))] := hD
            refine W.widen (k := 0) (n := 0) (Nat.le_of_ble_eq_true rfl) (Nat.le_of_ble_eq_true rfl) ?_
            refine lv_if_ne (tgt := 82) hx hb dX10_four_76 (by decide) (fun g => absurd (by decide) g) (fun _ => ?_)
            refine lv_goto (tgt := 97) hx hb dX10_four_79 (by decide) ?_
            obtain ⟨v162, ev162⟩ : ∃ z : Int32, z = u89 + 1 := ⟨_, rfl⟩
            have bv162 : v162.toInt = u89.toInt + 1 := by rw [ev162]; exact add_k rfl rfl k156 ⟨Int.le_refl _, Int.le_refl _⟩ (by decide)
            have k163 : 1 ≤ v162.toInt ∧ v162.toInt ≤ 6 := add_r bv162 k156 ⟨Int.le_refl _, Int.le_refl _⟩ (by decide)
            refine lv_iinc (v := v162) (lv' := [(5, .int v162), (4, .int u90), (3, .int u14), (2, .int u15), (1, .int u16), (0, .ref h0)]) hx hb dX10_four_97 hl (k := 0) rfl (by rw [ev162]; rfl) (by decide) rfl (fun ls hl => ?_)
            refine lv_goto (tgt := 59) hx hb dX10_four_100 (by decide) ?_
            exact ih_59 (v162, u90, w91) ⟨(ir_wk k163 (by decide) (by decide)), i93, i94, i95, i96, i97, i98, i99, i100, i101, i102, i103, i104, i105, (by show u90.toInt ≤ v162.toInt; omega)⟩ (by show (6 - v162.toInt).toNat < (6 - u89.toInt).toNat; omega) _ _ _ hP hD hS (lv_sub hl [0, 1, 2, 3, 4, 5] rfl)
          · have hP : va_P D vwCl [(h_behindAt, .inl (cI, 12, .inl w17)), (h_times, .inl (cI, 316192, .inl w18)), (h_stateBy, .inl (cI, 38560, .inl w19)), (h_timeOf, .inl (cI, 38560, .inl w20)), (h0, .inr (10, vL 67 G21)), (h_s, .inl (cI, 335, .inl w91)), (h_before, .inl (cI, 24, .inl g10))] H := hP
            have hD : va_D A [(h_behindAt, .inl (cI, 12, .inl w17)), (h_times, .inl (cI, 316192, .inl w18)), (h_stateBy, .inl (cI, 38560, .inl w19)), (h_timeOf, .inl (cI, 38560, .inl w20)), (h0, .inr (10, vL 67 G21)), (h_s, .inl (cI, 335, .inl w91)), (h_before, .inl (cI, 24, .inl g10))] := hD
            refine W.widen (k := 0) (n := 0) (Nat.le_of_ble_eq_true rfl) (Nat.le_of_ble_eq_true rfl) ?_
            refine lv_if_ne (tgt := 82) hx hb dX10_four_76 (by decide) (fun _ => ?_) (fun g => absurd g (by decide))
            refine lv_aload_n hx hb dX10_four_82 rfl (lv_at hl 5 rfl) ?_
            refine get_f (D := D) (ci := 10) (v := .ref h_s) (C := RX10) (T := TX10) (N := 67) hx hb hw inAX10 hown hK hP 4 rfl rfl 6 (by decide) (hw _ q_1267) (fun _ h9 => h9) n61 dX10_four_83 ?_
            refine lv_bipush (v := 105) hx hb dX10_four_86 (by decide) ?_
            refine lv_iload hx hb dX10_four_88 (lv_at hl 1 rfl) ?_
            refine lv_iadd hx hb dX10_four_90 ?_
            refine lv_topi (fun v164 ev164 => ?_)
            have bv164 : v164.toInt = 105 + u90.toInt := by rw [ev164]; exact add_k rfl rfl ⟨Int.le_refl _, Int.le_refl _⟩ i93 (by decide)
            have k165 : 105 ≤ v164.toInt ∧ v164.toInt ≤ 111 := add_r bv164 ⟨Int.le_refl _, Int.le_refl _⟩ i93 (by decide)
            refine lv_iload hx hb dX10_four_91 (lv_at hl 0 rfl) ?_
            obtain ⟨g166, eg166⟩ : ∃ z : Nat → Int32, upd w91 v164.toNatClampNeg u89 = z := ⟨_, rfl⟩
            have r167 : KW 0 g166 := by rw [← eg166]; exact i94.up (Int.le_trans (by decide) k165.1) (Or.inl (lt_dec k165.2 (by decide)))
            have r168 : US bs g166 := by rw [← eg166]; exact US.up i95 (Int.le_trans (by decide) k165.1)
            have r169 : SG 0 0 0 40 g166 := by rw [← eg166]; exact i96.up (Int.le_trans (by decide) k165.1) (Or.inr (Or.inr (ir_wk k156 (by decide) (by decide))))
            have r170 : SG 105 108 0 11 g166 := by rw [← eg166]; exact i97.up (Int.le_trans (by decide) k165.1) (Or.inr (Or.inr (ir_wk k156 (by decide) (by decide))))
            have r171 : SG 114 114 0 5 g166 := by rw [← eg166]; exact i98.up (Int.le_trans (by decide) k165.1) (Or.inr (Or.inr (ir_wk k156 (by decide) (by decide))))
            have r172 : SG 130 133 0 11 g166 := by rw [← eg166]; exact i99.up (Int.le_trans (by decide) k165.1) (Or.inr (Or.inr (ir_wk k156 (by decide) (by decide))))
            have r173 : SG 139 139 0 5 g166 := by rw [← eg166]; exact i100.up (Int.le_trans (by decide) k165.1) (Or.inr (Or.inr (ir_wk k156 (by decide) (by decide))))
            have r174 : SG 153 153 0 44 g166 := by rw [← eg166]; exact i101.up (Int.le_trans (by decide) k165.1) (Or.inr (Or.inr (ir_wk k156 (by decide) (by decide))))
            have r175 : SG 44 55 0 9 g166 := by rw [← eg166]; exact i102.up (Int.le_trans (by decide) k165.1) (Or.inr (Or.inr (ir_wk k156 (by decide) (by decide))))
            have r176 : SG 5 5 0 6 g166 := by rw [← eg166]; exact i103.up (Int.le_trans (by decide) k165.1) (Or.inr (Or.inr (ir_wk k156 (by decide) (by decide))))
            have r177 : SG 6 6 0 12 g166 := by rw [← eg166]; exact i104.up (Int.le_trans (by decide) k165.1) (Or.inr (Or.inr (ir_wk k156 (by decide) (by decide))))
            have r178 : SG 7 7 0 6 g166 := by rw [← eg166]; exact i105.up (Int.le_trans (by decide) k165.1) (Or.inr (Or.inr (ir_wk k156 (by decide) (by decide))))
            refine iast_g hx hb hK hP hD hS 5 0 rfl rfl (ix_k k165 (by decide) (by decide)) eg166 dX10_four_93 (fun H locs hP hD hS => ?_)
            have hP : va_P D vwCl [(h_behindAt, .inl (cI, 12, .inl w17)), (h_times, .inl (cI, 316192, .inl w18)), (h_stateBy, .inl (cI, 38560, .inl w19)), (h_timeOf, .inl (cI, 38560, .inl w20)), (h0, .inr (10, vL 67 G21)), (h_s, .inl (cI, 335, .inl g166)), (h_before, .inl (cI, 24, .inl g10))] H := hP
            have hD : va_D A [(h_behindAt, .inl (cI, 12, .inl w17)), (h_times, .inl (cI, 316192, .inl w18)), (h_stateBy, .inl (cI, 38560, .inl w19)), (h_timeOf, .inl (cI, 38560, .inl w20)), (h0, .inr (10, vL 67 G21)), (h_s, .inl (cI, 335, .inl g166)), (h_before, .inl (cI, 24, .inl g10))] := hD
            obtain ⟨v179, ev179⟩ : ∃ z : Int32, z = u90 + 1 := ⟨_, rfl⟩
            have bv179 : v179.toInt = u90.toInt + 1 := by rw [ev179]; exact add_k rfl rfl i93 ⟨Int.le_refl _, Int.le_refl _⟩ (by decide)
            have k180 : 1 ≤ v179.toInt ∧ v179.toInt ≤ 7 := add_r bv179 i93 ⟨Int.le_refl _, Int.le_refl _⟩ (by decide)
            refine lv_iinc (v := v179) (lv' := [(4, .int v179), (5, .int u89), (3, .int u14), (2, .int u15), (1, .int u16), (0, .ref h0)]) hx hb dX10_four_94 hl (k := 1) rfl (by rw [ev179]; rfl) (by decide) rfl (fun ls hl => ?_)
            obtain ⟨v181, ev181⟩ : ∃ z : Int32, z = u89 + 1 := ⟨_, rfl⟩
            have bv181 : v181.toInt = u89.toInt + 1 := by rw [ev181]; exact add_k rfl rfl k156 ⟨Int.le_refl _, Int.le_refl _⟩ (by decide)
            have k182 : 1 ≤ v181.toInt ∧ v181.toInt ≤ 6 := add_r bv181 k156 ⟨Int.le_refl _, Int.le_refl _⟩ (by decide)
            refine lv_iinc (v := v181) (lv' := [(5, .int v181), (4, .int v179), (3, .int u14), (2, .int u15), (1, .int u16), (0, .ref h0)]) hx hb dX10_four_97 hl (k := 1) rfl (by rw [ev181]; rfl) (by decide) rfl (fun ls hl => ?_)
            refine lv_goto (tgt := 59) hx hb dX10_four_100 (by decide) ?_
            exact ih_59 (v181, v179, g166) ⟨(ir_wk k182 (by decide) (by decide)), (show 0 ≤ v179.toInt ∧ v179.toInt ≤ 6 from ⟨by omega, by omega⟩), r167, r168, r169, r170, r171, r172, r173, r174, r175, r176, r177, r178, (by show v179.toInt ≤ v181.toInt; omega)⟩ (by show (6 - v181.toInt).toNat < (6 - u89.toInt).toNat; omega) _ _ _ hP hD hS (lv_sub hl [0, 1, 2, 3, 4, 5] rfl)
      · have dc87 : r85.toInt ≠ 4 := ne_i (a := r85.toInt) (b := 4) rfl rfl c87
        refine lv_goto (tgt := 123) hx hb dX10_four_50 (by decide) ?_
        obtain ⟨v183, ev183⟩ : ∃ z : Int32, z = u14 + 1 := ⟨_, rfl⟩
        have bv183 : v183.toInt = u14.toInt + 1 := by rw [ev183]; exact add_k rfl rfl k84 ⟨Int.le_refl _, Int.le_refl _⟩ (by decide)
        have k184 : 1 ≤ v183.toInt ∧ v183.toInt ≤ 64 := add_r bv183 k84 ⟨Int.le_refl _, Int.le_refl _⟩ (by decide)
        refine lv_iinc (v := v183) (lv' := [(3, .int v183), (2, .int u15), (1, .int u16), (0, .ref h0)]) hx hb dX10_four_123 hl (k := 0) rfl (by rw [ev183]; rfl) (by decide) rfl (fun ls hl => ?_)
        refine lv_goto (tgt := 30) hx hb dX10_four_126 (by decide) ?_
        exact ih (v183, u15, u16, w17, w18, w19, w20, G21, u22, u23, u24, u25, u26, u27, w28) ⟨(ir_wk k184 (by decide) (by decide)), i36, i37, i38, i39, i40, (SAME.tr SAME.rf i41 (by decide)), i42, i43, i44, i45, i46, i47, i48, i49, i50, i51, i52, i53, i54, i55, i56, i57, i58, i59, i60⟩ (by show (64 - v183.toInt).toNat < (64 - u14.toInt).toNat; omega) _ _ _ hP hD hS (lv_sub hl [0, 1, 2, 3] rfl)
  · have dc5 : 6 < v3.toInt := nle_i (a := v3.toInt) (b := 6) rfl rfl c5
    have k185 : 7 ≤ v3.toInt ∧ v3.toInt ≤ 12 := ⟨lo_lt dc5 (Int.le_refl _) (by decide), k4.2⟩
    refine lv_iconst (v := (-1)) hx hb dX10_four_16 (by decide) ?_
    exact ret_i (v := (-1)) hx hb hr hlocks hS hP hD dX10_four_17 rfl (Nat.le_of_ble_eq_true rfl) (Nat.le_of_ble_eq_true rfl) ⟨F1, x_bendsGone, x_overAt, x_endPace, x_choicePace, x_choiceSet, x_choiceAhead, f_s, f_behindAt, f_before, f_times, f_stateBy, f_timeOf, (SAME.up eF1 SAME.rf (by decide)), (get_eq eF1), (get_ne eF1 (by decide) e_bendsGone), i_x_bendsGone, (get_ne eF1 (by decide) e_overAt), (get_ne eF1 (by decide) e_endPace), (get_ne eF1 (by decide) e_choicePace), (get_ne eF1 (by decide) e_choiceSet), (get_ne eF1 (by decide) e_choiceAhead), s_s_153, s_s_0, s_s_5, s_s_6, s_s_7, s_s_44, s_s_K0, s_s_105, s_s_114, s_s_130, s_s_139, s_s_US, s_before_1, s_before_10, s_times_0, s_stateBy_0, s_timeOf_0, (show (-1) ≤ ((-1) : Int32).toInt ∧ ((-1) : Int32).toInt ≤ 63 by decide), rfl⟩
set_option maxHeartbeats 4000000 in
set_option maxRecDepth 100000 in
theorem m_X10_timeWith (l : Launch) (D : va_G) (cI cJ cB cP cM cZ : ClassId) (h0 : Nat) (h_s : Nat) (h_paceAt : Nat) (h_kindOf : Nat) (h_behindAt : Nat) (Fh : Nat → Value) (x_seed : Int32) (x_kicks : Int32) (x_touchBend : Int32) (x_touchBy : Int32) (f_s : Nat → Int32) (f_paceAt : Nat → Int32) (f_kindOf : Nat → Int32) (f_behindAt : Nat → Int32) (p0 : Int32) (p1 : Int32) (bs : Nat → Int32) (sz : Nat) (e_s : Fh 6 = .ref h_s) (e_paceAt : Fh 25 = .ref h_paceAt) (e_kindOf : Fh 26 = .ref h_kindOf) (e_seed : Fh 31 = .int x_seed) (e_kicks : Fh 32 = .int x_kicks) (i_x_kicks : IR 0 1 x_kicks) (e_behindAt : Fh 33 = .ref h_behindAt) (e_touchBend : Fh 37 = .int x_touchBend) (e_touchBy : Fh 38 = .int x_touchBy) (i_x_touchBy : IR 0 99 x_touchBy) (s_s_K0 : KW 0 f_s) (s_s_US : US bs f_s) (s_s_0 : SG 0 0 0 40 f_s) (s_s_105 : SG 105 108 0 11 f_s) (s_s_114 : SG 114 114 0 5 f_s) (s_s_130 : SG 130 133 0 11 f_s) (s_s_139 : SG 139 139 0 5 f_s) (s_s_153 : SG 153 153 0 44 f_s) (s_s_44 : SG 44 55 0 9 f_s) (s_s_5 : SG 5 5 0 12 f_s) (s_s_6 : SG 6 6 0 12 f_s) (s_s_7 : SG 7 7 0 6 f_s) (i_p0 : IR 113 115 p0) (z_0 : (p0.toInt = 114 → 0 ≤ p1.toInt ∧ p1.toInt ≤ 5)) : CI l yX10_timeWith cX10_timeWith 5 (some .int) { frames := 5, cells := 0, slots := 0, locals := 115 } (GG D cI cJ cB cP cM cZ) D [(h0, .inr (10, vL 67 Fh)), (h_s, .inl (cI, 335, .inl f_s)), (h_paceAt, .inl (cI, 40, .inl f_paceAt)), (h_kindOf, .inl (cI, 4, .inl f_kindOf)), (h_behindAt, .inl (cI, 12, .inl f_behindAt))] sz [.ref h0, .int p0, .int p1] (fun (r : Int32) (u : va_W) => ∃ (Gh : Nat → Value) (y_lineTime : Int32) (y_linePace : Int32) (y_inside : Int32) (y_late : Int32) (y_seed : Int32) (y_bendsGone : Int32) (y_overAt : Int32) (y_endPace : Int32) (g_s : Nat → Int32) (g_paceAt : Nat → Int32) (g_kindOf : Nat → Int32) (g_behindAt : Nat → Int32), SAME [27, 28, 29, 30, 31, 34, 35, 36] Fh Gh ∧ Gh 27 = .int y_lineTime ∧ Gh 28 = .int y_linePace ∧ IR 10 250 y_linePace ∧ Gh 29 = .int y_inside ∧ IR 0 15 y_inside ∧ Gh 30 = .int y_late ∧ IR 0 15 y_late ∧ Gh 31 = .int y_seed ∧ Gh 34 = .int y_bendsGone ∧ IR 0 12 y_bendsGone ∧ Gh 35 = .int y_overAt ∧ IR (-1) 11 y_overAt ∧ Gh 36 = .int y_endPace ∧ SG 153 153 0 44 g_s ∧ SG 0 0 0 40 g_s ∧ SG 5 5 0 12 g_s ∧ SG 6 6 0 12 g_s ∧ SG 7 7 0 6 g_s ∧ SG 44 55 0 9 g_s ∧ KW 0 g_s ∧ SG 105 108 0 11 g_s ∧ SG 114 114 0 5 g_s ∧ SG 130 133 0 11 g_s ∧ SG 139 139 0 5 g_s ∧ US bs g_s ∧ u = [(h0, .inr (10, vL 67 Gh)), (h_s, .inl (cI, 335, .inl g_s)), (h_paceAt, .inl (cI, 40, .inl g_paceAt)), (h_kindOf, .inl (cI, 4, .inl g_kindOf)), (h_behindAt, .inl (cI, 12, .inl g_behindAt))]) := by
  refine CI_mk (by decide) (Nat.le_of_ble_eq_true rfl) ?_
  intro p e s m below meth c A ls E hAe hG hsz hP hD hA hS hl
  obtain ⟨hx, hb, hr, hw, hown, hlocks, hml, hnm⟩ := E
  have hK := hG.1
  have i_x_kicks : 0 ≤ x_kicks.toInt ∧ x_kicks.toInt ≤ 1 := i_x_kicks
  have i_x_touchBy : 0 ≤ x_touchBy.toInt ∧ x_touchBy.toInt ≤ 99 := i_x_touchBy
  have i_p0 : 113 ≤ p0.toInt ∧ p0.toInt ≤ 115 := i_p0
  have hl : lv_has ls 5 [(0, .ref h0), (1, .int p0), (2, .int p1)] := hl
  refine lv_aload_n hx hb dX10_timeWith_0 rfl (lv_at hl 0 rfl) ?_
  refine get_f (D := D) (ci := 10) (v := .ref h_s) (C := RX10) (T := TX10) (N := 67) hx hb hw inAX10 hown hK hP 0 rfl rfl 6 (by decide) (hw _ q_1267) (fun _ h9 => h9) e_s dX10_timeWith_1 ?_
  refine lv_iload_n hx hb dX10_timeWith_4 rfl (lv_at hl 1 rfl) ?_
  refine va_iald hx hb hK hP 1 0 rfl rfl (ix_k i_p0 (by decide) (by decide)) dX10_timeWith_5 ?_
  refine lv_topi (fun v1 ev1 => ?_)
  have r2 : IMP (114 ≤ p0.toInt → p0.toInt ≤ 114 → 0 ≤ v1.toInt ∧ v1.toInt ≤ 5) := IMP.mk (fun q1 q2 => by rw [ev1]; exact s_s_114.at _ q1 q2)
  refine lv_istore_n (lv' := [(3, .int v1), (0, .ref h0), (1, .int p0), (2, .int p1)]) hx hb dX10_timeWith_6 rfl hl (by decide) rfl (fun ls hl => ?_)
  refine lv_aload_n hx hb dX10_timeWith_7 rfl (lv_at hl 1 rfl) ?_
  refine get_f (D := D) (ci := 10) (v := .ref h_s) (C := RX10) (T := TX10) (N := 67) hx hb hw inAX10 hown hK hP 0 rfl rfl 6 (by decide) (hw _ q_1267) (fun _ h9 => h9) e_s dX10_timeWith_8 ?_
  refine lv_iload_n hx hb dX10_timeWith_11 rfl (lv_at hl 2 rfl) ?_
  refine lv_iload_n hx hb dX10_timeWith_12 rfl (lv_at hl 3 rfl) ?_
  obtain ⟨g3, eg3⟩ : ∃ z : Nat → Int32, upd f_s p0.toNatClampNeg p1 = z := ⟨_, rfl⟩
  have r4 : KW 0 g3 := by rw [← eg3]; exact s_s_K0.up (Int.le_trans (by decide) i_p0.1) (Or.inl (lt_dec i_p0.2 (by decide)))
  have r5 : US bs g3 := by rw [← eg3]; exact US.up s_s_US (Int.le_trans (by decide) i_p0.1)
  have r6 : SG 0 0 0 40 g3 := by rw [← eg3]; exact s_s_0.up (Int.le_trans (by decide) i_p0.1) (Or.inr (Or.inl (dec_lt i_p0.1 (by decide))))
  have r7 : SG 105 108 0 11 g3 := by rw [← eg3]; exact s_s_105.up (Int.le_trans (by decide) i_p0.1) (Or.inr (Or.inl (dec_lt i_p0.1 (by decide))))
  have r8 : SG 114 114 0 5 g3 := by rw [← eg3]; exact s_s_114.up (Int.le_trans (by decide) i_p0.1) (by omega)
  have r9 : SG 130 133 0 11 g3 := by rw [← eg3]; exact s_s_130.up (Int.le_trans (by decide) i_p0.1) (Or.inl (lt_dec i_p0.2 (by decide)))
  have r10 : SG 139 139 0 5 g3 := by rw [← eg3]; exact s_s_139.up (Int.le_trans (by decide) i_p0.1) (Or.inl (lt_dec i_p0.2 (by decide)))
  have r11 : SG 153 153 0 44 g3 := by rw [← eg3]; exact s_s_153.up (Int.le_trans (by decide) i_p0.1) (Or.inl (lt_dec i_p0.2 (by decide)))
  have r12 : SG 44 55 0 9 g3 := by rw [← eg3]; exact s_s_44.up (Int.le_trans (by decide) i_p0.1) (Or.inr (Or.inl (dec_lt i_p0.1 (by decide))))
  have r13 : SG 5 5 0 12 g3 := by rw [← eg3]; exact s_s_5.up (Int.le_trans (by decide) i_p0.1) (Or.inr (Or.inl (dec_lt i_p0.1 (by decide))))
  have r14 : SG 6 6 0 12 g3 := by rw [← eg3]; exact s_s_6.up (Int.le_trans (by decide) i_p0.1) (Or.inr (Or.inl (dec_lt i_p0.1 (by decide))))
  have r15 : SG 7 7 0 6 g3 := by rw [← eg3]; exact s_s_7.up (Int.le_trans (by decide) i_p0.1) (Or.inr (Or.inl (dec_lt i_p0.1 (by decide))))
  refine iast_g hx hb hK hP hD hS 1 0 rfl rfl (ix_k i_p0 (by decide) (by decide)) eg3 dX10_timeWith_13 (fun H locs hP hD hS => ?_)
  have hP : va_P D vwCl [(h0, .inr (10, vL 67 Fh)), (h_s, .inl (cI, 335, .inl g3)), (h_paceAt, .inl (cI, 40, .inl f_paceAt)), (h_kindOf, .inl (cI, 4, .inl f_kindOf)), (h_behindAt, .inl (cI, 12, .inl f_behindAt))] H := hP
  have hD : va_D A [(h0, .inr (10, vL 67 Fh)), (h_s, .inl (cI, 335, .inl g3)), (h_paceAt, .inl (cI, 40, .inl f_paceAt)), (h_kindOf, .inl (cI, 4, .inl f_kindOf)), (h_behindAt, .inl (cI, 12, .inl f_behindAt))] := hD
  refine lv_aload_n hx hb dX10_timeWith_14 rfl (lv_at hl 1 rfl) ?_
  refine call_Vi (wr := []) (As := []) (rest := []) hx hb hml hown hw (m_X10_total l D cI cJ cB cP cM cZ h0 h_s h_paceAt h_kindOf h_behindAt Fh x_seed x_kicks x_touchBend x_touchBy g3 f_paceAt f_kindOf f_behindAt bs _ e_s e_paceAt e_kindOf e_seed e_kicks i_x_kicks e_behindAt e_touchBend e_touchBy i_x_touchBy r4 r5 r6 r7 r8 r9 r10 r11 r12 r13 r14 r15) wV_X10_368_X10_total dX10_timeWith_15 hK hP hD hS hA [0, 1, 2, 3, 4] [] rfl rfl (by decide) (by decide) (by decide) 0 10 rfl rfl GG.fb hG.at hl.1 rfl (Nat.le_of_ble_eq_true rfl) ⟨(Nat.le_of_ble_eq_true rfl), (Nat.le_of_ble_eq_true rfl)⟩ ⟨(Nat.le_of_ble_eq_true rfl), (Nat.le_of_ble_eq_true rfl)⟩ (fun r16 u H locs hp hP hD hS => ?_)
  refine hp.elim (fun F17 h9z0 => h9z0.elim (fun y18 h9z1 => h9z1.elim (fun y19 h9z2 => h9z2.elim (fun y20 h9z3 => h9z3.elim (fun y21 h9z4 => h9z4.elim (fun y22 h9z5 => h9z5.elim (fun y23 h9z6 => h9z6.elim (fun y24 h9z7 => h9z7.elim (fun y25 h9z8 => h9z8.elim (fun g26 h9z9 => h9z9.elim (fun g27 h9z10 => h9z10.elim (fun g28 h9z11 => h9z11.elim (fun t29 h9z12 => h9z12.elim (fun t30 h9z13 => h9z13.elim (fun t31 h9z14 => h9z14.elim (fun t32 h9z15 => h9z15.elim (fun t33 h9z16 => h9z16.elim (fun t34 h9z17 => h9z17.elim (fun t35 h9z18 => h9z18.elim (fun t36 h9z19 => h9z19.elim (fun t37 h9z20 => h9z20.elim (fun t38 h9z21 => h9z21.elim (fun t39 h9z22 => h9z22.elim (fun t40 h9z23 => h9z23.elim (fun t41 h9z24 => h9z24.elim (fun t42 h9z25 => ?_))))))))))))))))))))))))))
  clear h9z0 h9z1 h9z2 h9z3 h9z4 h9z5 h9z6 h9z7 h9z8 h9z9 h9z10 h9z11 h9z12 h9z13 h9z14 h9z15 h9z16 h9z17 h9z18 h9z19 h9z20 h9z21 h9z22 h9z23 h9z24
  subst h9z25
  have hP : va_P D vwCl [(h0, .inr (10, vL 67 F17)), (h_s, .inl (cI, 335, .inl g3)), (h_paceAt, .inl (cI, 40, .inl g26)), (h_kindOf, .inl (cI, 4, .inl g27)), (h_behindAt, .inl (cI, 12, .inl g28))] H := hP
  have hD : va_D A [(h0, .inr (10, vL 67 F17)), (h_s, .inl (cI, 335, .inl g3)), (h_paceAt, .inl (cI, 40, .inl g26)), (h_kindOf, .inl (cI, 4, .inl g27)), (h_behindAt, .inl (cI, 12, .inl g28))] := hD
  refine W.widen (k := 0) (n := 0) (Nat.le_of_ble_eq_true rfl) (Nat.le_of_ble_eq_true rfl) ?_
  refine lv_istore (lv' := [(4, .int r16), (3, .int v1), (0, .ref h0), (1, .int p0), (2, .int p1)]) hx hb dX10_timeWith_18 hl (by decide) rfl (fun ls hl => ?_)
  refine lv_aload_n hx hb dX10_timeWith_20 rfl (lv_at hl 2 rfl) ?_
  have n44 : F17 6 = .ref h_s := (SAME.at t29 (by decide) e_s)
  refine get_f (D := D) (ci := 10) (v := .ref h_s) (C := RX10) (T := TX10) (N := 67) hx hb hw inAX10 hown hK hP 0 rfl rfl 6 (by decide) (hw _ q_1267) (fun _ h9 => h9) n44 dX10_timeWith_21 ?_
  refine lv_iload_n hx hb dX10_timeWith_24 rfl (lv_at hl 3 rfl) ?_
  refine lv_iload_n hx hb dX10_timeWith_25 rfl (lv_at hl 1 rfl) ?_
  obtain ⟨g45, eg45⟩ : ∃ z : Nat → Int32, upd g3 p0.toNatClampNeg v1 = z := ⟨_, rfl⟩
  have r46 : KW 0 g45 := by rw [← eg45]; exact r4.up (Int.le_trans (by decide) i_p0.1) (Or.inl (lt_dec i_p0.2 (by decide)))
  have r47 : US bs g45 := by rw [← eg45]; exact US.up r5 (Int.le_trans (by decide) i_p0.1)
  have r48 : SG 0 0 0 40 g45 := by rw [← eg45]; exact r6.up (Int.le_trans (by decide) i_p0.1) (Or.inr (Or.inl (dec_lt i_p0.1 (by decide))))
  have r49 : SG 105 108 0 11 g45 := by rw [← eg45]; exact r7.up (Int.le_trans (by decide) i_p0.1) (Or.inr (Or.inl (dec_lt i_p0.1 (by decide))))
  have r50 : SG 114 114 0 5 g45 := by rw [← eg45]; exact r8.upI (Int.le_trans (by decide) i_p0.1) (fun q1 q2 => ⟨Int.le_trans (by decide) (r2.h (by omega) (by omega)).1, Int.le_trans (r2.h (by omega) (by omega)).2 (by decide)⟩)
  have r51 : SG 130 133 0 11 g45 := by rw [← eg45]; exact r9.up (Int.le_trans (by decide) i_p0.1) (Or.inl (lt_dec i_p0.2 (by decide)))
  have r52 : SG 139 139 0 5 g45 := by rw [← eg45]; exact r10.up (Int.le_trans (by decide) i_p0.1) (Or.inl (lt_dec i_p0.2 (by decide)))
  have r53 : SG 153 153 0 44 g45 := by rw [← eg45]; exact r11.up (Int.le_trans (by decide) i_p0.1) (Or.inl (lt_dec i_p0.2 (by decide)))
  have r54 : SG 44 55 0 9 g45 := by rw [← eg45]; exact r12.up (Int.le_trans (by decide) i_p0.1) (Or.inr (Or.inl (dec_lt i_p0.1 (by decide))))
  have r55 : SG 5 5 0 12 g45 := by rw [← eg45]; exact r13.up (Int.le_trans (by decide) i_p0.1) (Or.inr (Or.inl (dec_lt i_p0.1 (by decide))))
  have r56 : SG 6 6 0 12 g45 := by rw [← eg45]; exact r14.up (Int.le_trans (by decide) i_p0.1) (Or.inr (Or.inl (dec_lt i_p0.1 (by decide))))
  have r57 : SG 7 7 0 6 g45 := by rw [← eg45]; exact r15.up (Int.le_trans (by decide) i_p0.1) (Or.inr (Or.inl (dec_lt i_p0.1 (by decide))))
  refine iast_g hx hb hK hP hD hS 1 0 rfl rfl (ix_k i_p0 (by decide) (by decide)) eg45 dX10_timeWith_26 (fun H locs hP hD hS => ?_)
  have hP : va_P D vwCl [(h0, .inr (10, vL 67 F17)), (h_s, .inl (cI, 335, .inl g45)), (h_paceAt, .inl (cI, 40, .inl g26)), (h_kindOf, .inl (cI, 4, .inl g27)), (h_behindAt, .inl (cI, 12, .inl g28))] H := hP
  have hD : va_D A [(h0, .inr (10, vL 67 F17)), (h_s, .inl (cI, 335, .inl g45)), (h_paceAt, .inl (cI, 40, .inl g26)), (h_kindOf, .inl (cI, 4, .inl g27)), (h_behindAt, .inl (cI, 12, .inl g28))] := hD
  refine lv_iload hx hb dX10_timeWith_27 (lv_at hl 0 rfl) ?_
  exact ret_i (v := r16) hx hb hr hlocks hS hP hD dX10_timeWith_29 rfl (Nat.le_of_ble_eq_true rfl) (Nat.le_of_ble_eq_true rfl) ⟨F17, y18, y19, y20, y21, y22, y23, y24, y25, g45, g26, g27, g28, (SAME.tr SAME.rf t29 (by decide)), t30, t31, t32, t33, t34, t35, t36, t37, t38, t39, t40, t41, t42, r53, r48, r55, r56, r57, r54, r46, r49, r50, r51, r52, r47, rfl⟩
