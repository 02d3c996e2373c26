theorem ar_of {args : Array Value} {s : State} {ty : FieldType} (h : (Cond.arrayClass ty).before args s = true) (hno : ∀ C, ty ≠ .object C) : ∃ cA : ClassId, ArrOfT s cA ty ∧ va_RA s cA ty := by
  obtain ⟨cA, kA, comp, h1, h2, h3⟩ := Cond.arrayClass_spec (args := args) (first := s) (o := none) (s := s) (idx := []) h
  exact ⟨cA, fun n z => ⟨fun k q => (by cases q), kA, h2, comp, h3⟩, by cases ty <;> first | exact h1 | exact absurd rfl (hno _)⟩
theorem aq_of {args : Array Value} {s : State} {C : String} (h : (Cond.arrayOver (.object C)).before args s = true) : ∃ cA : ClassId, ArrOfT s cA (.object C) ∧ va_RA s cA (.object C) := by
  obtain ⟨comp, cA, kA, h4, -, h2, h3, h1⟩ := Cond.arrayOver_spec (args := args) (first := s) (o := none) (s := s) (idx := []) h
  exact ⟨cA, fun n z => ⟨fun k q => (by cases q), kA, h2, comp, h3⟩, kA, comp, h2, h3, h4, h1⟩
set_option maxHeartbeats 4000000 in
set_option maxRecDepth 100000 in
theorem lw_GG {b : Nat} {s : State} (hts : ∀ w ∈ lw_tbl, w.before #[Value.ref b] s = true) : ∃ (D : va_G) (cI cJ cB cP cM cZ : ClassId), GG D cI cJ cB cP cM cZ s := by
  have hw : ∀ w ∈ wA, w.before #[Value.ref b] s = true := fun w h => hts w (wA_in h)
  obtain ⟨c0, i0, k0⟩ := u_known (C := RX0) (T := TX0) (N := 5) (n := 5) hw inAX0 (hw _ q_276)
  obtain ⟨c1, i1, k1⟩ := u_known (C := RX1) (T := TX1) (N := 18) (n := 18) hw inAX1 (hw _ q_299)
  obtain ⟨c2, i2, k2⟩ := u_known (C := RX2) (T := TX2) (N := 5) (n := 5) hw inAX2 (hw _ q_402)
  obtain ⟨c3, i3, k3⟩ := u_known (C := RX3) (T := TX3) (N := 10) (n := 10) hw inAX3 (hw _ q_899)
  obtain ⟨c4, i4, k4⟩ := u_known (C := RX4) (T := TX4) (N := 3) (n := 3) hw inAX4 (hw _ q_1002)
  obtain ⟨c5, i5, k5⟩ := u_known (C := RX5) (T := TX5) (N := 11) (n := 11) hw inAX5 (hw _ q_140)
  obtain ⟨c6, i6, k6⟩ := u_known (C := RX6) (T := TX6) (N := 12) (n := 12) hw inAX6 (hw _ q_33)
  obtain ⟨c7, i7, k7⟩ := u_known (C := RX7) (T := TX7) (N := 18) (n := 18) hw inAX7 (hw _ q_200)
  obtain ⟨c8, i8, k8⟩ := u_known (C := RX8) (T := TX8) (N := 5) (n := 5) hw inAX8 (hw _ q_687)
  obtain ⟨c9, i9, k9⟩ := u_known (C := RX9) (T := TX9) (N := 19) (n := 19) hw inAX9 (hw _ q_25)
  obtain ⟨c10, i10, k10⟩ := u_known (C := RX10) (T := TX10) (N := 67) (n := 67) hw inAX10 (hw _ q_1221)
  obtain ⟨cI, acI⟩ := ar_of (hw _ q_198) (by intro C; exact nofun)
  obtain ⟨cJ, acJ⟩ := ar_of (hw _ q_138) (by intro C; exact nofun)
  obtain ⟨cB, acB⟩ := ar_of (hw _ q_137) (by intro C; exact nofun)
  obtain ⟨cZ, acZ⟩ := ar_of (hw _ q_1463) (by intro C; exact nofun)
  have ocP := hts (.arrayOver (.object RX5)) (List.mem_append_right _ (List.mem_of_getElem? (i := 272) (by decide +kernel)))
  obtain ⟨cP, acP⟩ := aq_of ocP
  have ocM := hts (.arrayOver (.object RX2)) (List.mem_append_right _ (List.mem_of_getElem? (i := 274) (by decide +kernel)))
  obtain ⟨cM, acM⟩ := aq_of ocM
  refine ⟨(fun k => if k = 0 then c0 else if k = 1 then c1 else if k = 2 then c2 else if k = 3 then c3 else if k = 4 then c4 else if k = 5 then c5 else if k = 6 then c6 else if k = 7 then c7 else if k = 8 then c8 else if k = 9 then c9 else c10, fun k => if k = 0 then i0 else if k = 1 then i1 else if k = 2 then i2 else if k = 3 then i3 else if k = 4 then i4 else if k = 5 then i5 else if k = 6 then i6 else if k = 7 then i7 else if k = 8 then i8 else if k = 9 then i9 else i10), cI, cJ, cB, cP, cM, cZ, ⟨?_, ?_⟩, fun w h => va_Nw.of (wN_tab w h) (hts w (wN_in w h)), va_AO.of ocP, va_AO.of ocM⟩
  · intro k q hq
    match k, hq with
    | 0, hq => cases hq; exact k0
    | 1, hq => cases hq; exact k1
    | 2, hq => cases hq; exact k2
    | 3, hq => cases hq; exact k3
    | 4, hq => cases hq; exact k4
    | 5, hq => cases hq; exact k5
    | 6, hq => cases hq; exact k6
    | 7, hq => cases hq; exact k7
    | 8, hq => cases hq; exact k8
    | 9, hq => cases hq; exact k9
    | 10, hq => cases hq; exact k10
    | k + 11, hq => simp [vwCl] at hq
  · intro k q hq
    match k, hq with
    | 0, hq => cases hq; exact acI
    | 1, hq => cases hq; exact acJ
    | 2, hq => cases hq; exact acB
    | 3, hq => cases hq; exact acP
    | 4, hq => cases hq; exact acM
    | 5, hq => cases hq; exact acZ
    | k + 6, hq => simp at hq
theorem len_lt {args : Array Value} {s : State} {t : Term} {v : Value} (h : (Term.length t).eval args s none [] s = some v) : ∃ (a : Nat) (cell : Cell), t.eval args s none [] s = some (.ref a) ∧ s.heap[a]? = some cell ∧ cell.slots.size < 2 ^ 31 := by
  obtain ⟨a, cell, h1, h2, h3⟩ := Term.length_spec h
  refine ⟨a, cell, h1, (State.arrayAt?_spec h2).1, ?_⟩
  by_cases hn : cell.slots.size < 2 ^ 31
  · exact hn
  · exfalso
    simp only [Term.eval, Option.bind_eq_bind] at h
    rw [h1] at h
    simp [h2, hn] at h
def wBy : List Int32 := [121, 97, 114, 100, 115, 32, 32, 115, 108, 101, 100, 103, 101, 32, 109, 111, 115, 116, 32, 32, 32, 105, 99, 101, 32, 32, 32, 32, 119, 97, 114, 109, 32, 32, 32, 109, 97, 110, 32, 32, 32, 32, 98, 101, 110, 100, 32, 32, 32, 114, 117, 110, 110, 101, 114, 32, 99, 114, 101, 119, 32, 32, 32, 106, 117, 109, 112, 32, 32, 32, 108, 101, 97, 100, 32, 32, 32, 104, 105, 103, 104, 32, 32, 32, 111, 110, 32, 32, 32, 32, 32, 115, 116, 97, 114, 116, 32, 32, 111, 114, 32, 32, 32, 32, 32, 97, 110, 100, 32, 32, 32, 32, 110, 111, 116, 32, 32, 32, 32, 103, 101, 116, 115, 32, 32, 32, 97, 104, 101, 97, 100, 32, 32, 112, 117, 115, 104, 32, 32, 32, 102, 101, 101, 116, 32, 32, 32, 119, 101, 105, 103, 104, 116, 32, 110, 117, 109, 98, 101, 114, 32]
def wBc (j : Nat) : Cond := Cond.eq (.elem (.field (.string "FourSledge$Reader" 51) "java/lang/String" "value" "[B") (.int (Int32.ofNat j))) (.int (([wBy].getD 0 []).getD j 0))
theorem wBy_eq : ((flatC (Jvm.Cond.and given_1 narrow_1)).drop 76).take 161 = (List.range 161).map wBc := by decide +kernel
theorem wBy_in (j : Nat) (hj : j < 161) : wBc j ∈ flatC (Jvm.Cond.and given_1 narrow_1) := by
  have h : wBc j ∈ ((flatC (Jvm.Cond.and given_1 narrow_1)).drop 76).take 161 := by
    rw [wBy_eq]
    exact List.mem_map.mpr ⟨j, List.mem_range.mpr hj, rfl⟩
  exact List.mem_of_mem_drop (List.mem_of_mem_take h)
set_option maxHeartbeats 4000000 in
set_option maxRecDepth 100000 in
theorem lw_ST {b : Nat} {s : State} (hts : ∀ w ∈ lw_tbl, w.before #[Value.ref b] s = true) (hgv : (Jvm.Cond.and given_1 narrow_1).before #[Value.ref b] s = true) : ∃ (tU aW bW : Nat), STA (fun q => s.heap.size ≤ q) tU aW bW (fun j => ([wBy].getD 0 []).getD j 0) s s.heap := by
  have hs := flat_of_before _ hgv
  have hA : ∀ a : Nat, a < s.heap.size → ¬ (fun q : Nat => s.heap.size ≤ q) a := fun a h => Nat.not_le.mpr h
  have hlen := va_eqt (hs (.eq (.length (.static "FourSledge" "SETTING_USUAL" "[I")) (.int 5)) (by decide +kernel))
  obtain ⟨tU, htU, hT⟩ := va_Tof (tm := (.static "FourSledge" "SETTING_USUAL" "[I")) (ty := .int) (N := 5) (f := fun j => .int (uF j)) (A := fun q => s.heap.size ≤ q) (by decide) (hs (.arrayOf (.static "FourSledge" "SETTING_USUAL" "[I") .int) (by decide +kernel)) hlen (fun j hj => by
    match j, hj with
    | 0, _ => exact va_eqt (hs (.eq (.elem (.static "FourSledge" "SETTING_USUAL" "[I") (.int 0)) (.int 40)) (by decide +kernel))
    | 1, _ => exact va_eqt (hs (.eq (.elem (.static "FourSledge" "SETTING_USUAL" "[I") (.int 1)) (.int 210)) (by decide +kernel))
    | 2, _ => exact va_eqt (hs (.eq (.elem (.static "FourSledge" "SETTING_USUAL" "[I") (.int 2)) (.int 630)) (by decide +kernel))
    | 3, _ => exact va_eqt (hs (.eq (.elem (.static "FourSledge" "SETTING_USUAL" "[I") (.int 3)) (.int 2)) (by decide +kernel))
    | 4, _ => exact va_eqt (hs (.eq (.elem (.static "FourSledge" "SETTING_USUAL" "[I") (.int 4)) (.int 5)) (by decide +kernel))) hA
  obtain ⟨a9, c9, cell9, k9, e1, e2, e3, e4, e5, e6, -⟩ := Cond.exactly_spec (args := #[Value.ref b]) (first := s) (o := none) (s := s) (idx := []) (hs (.exactly (.static "FourSledge" "SETTING_USUAL" "[I") "[I") (by decide +kernel))
  obtain ⟨a8, cell8, g1, g2, g3⟩ := len_lt hlen
  have hT0 := hT
  obtain ⟨cell, t1, t2, t3, t4, t5, t6, t7⟩ := hT
  have ea : a9 = tU := Value.ref.inj (Option.some.inj (e1.symm.trans htU))
  have eb : a8 = tU := Value.ref.inj (Option.some.inj (g1.symm.trans htU))
  rw [ea] at e3
  rw [eb] at g2
  have ec : cell9 = cell := Option.some.inj (e3.symm.trans t1)
  have ed : cell8 = cell := Option.some.inj (g2.symm.trans t1)
  rw [ec] at e6
  rw [ed] at g3
  have h5 : cell.slots.size = 5 := (nI_eq g3 (by decide)).mp t5
  have hsl : cell.slots = #[.int 40, .int 210, .int 630, .int 2, .int 5] := by
    apply Array.ext_getElem?
    intro i
    by_cases hi : i < 5
    · rw [t6 i hi]
      match i, hi with
      | 0, _ => rfl
      | 1, _ => rfl
      | 2, _ => rfl
      | 3, _ => rfl
      | 4, _ => rfl
    · rw [Array.getElem?_eq_none (by omega), Array.getElem?_eq_none (by simp; omega)]
  obtain ⟨adK, adV, hK, hev⟩ := vk_Sof (args := #[Value.ref b]) (s := s) (N := 1) (tm := fun _ => (.string "FourSledge$Reader" 51)) (len := [161]) (byt := [wBy]) (A := fun q => s.heap.size ≤ q) (fun i hi => by
    match i, hi with
    | 0, _ => decide) (fun i _ => hs _ (by decide +kernel)) (fun i _ => hs _ (by decide +kernel)) (fun i _ => hs _ (by decide +kernel)) (fun i hi => by
    match i, hi with
    | 0, _ => exact hs (.eq (.length (.field (.string "FourSledge$Reader" 51) "java/lang/String" "value" "[B")) (.int (Int32.ofNat 161))) (by decide +kernel)) (fun i hi j hj => by
    match i, hi with
    | 0, _ => exact hs _ (wBy_in j hj)) (fun i j hi hj hij => absurd (show i = j by omega) hij) hA
  obtain ⟨s1, s2, s3, s4⟩ := hK.1 0 (by decide)
  refine ⟨tU, adK 0, adV 0, va_Zof (hts ((Jvm.Cond.laysStatic "FourSledge" "SETTING_USUAL" "[I")) (List.mem_append_right _ (List.mem_of_getElem? (i := 305) (by decide +kernel)))) (hts ((Jvm.Cond.initialized "FourSledge")) (List.mem_append_right _ (List.mem_of_getElem? (i := 1) (by decide +kernel)))) htU hA, ⟨cell, t1, t2, t3, by rw [e6]; exact e2, hsl, t7⟩, vk_R.of (hts ((Jvm.Cond.stringRef "FourSledge$Reader" (51 : Nat) "yards  sledge most   ice    warm   man    bend   runner crew   jump   lead   high   on     start  or     and    not    gets   ahead  push   feet   weight number ")) (List.mem_append_right _ (List.mem_of_getElem? (i := 38) (by decide +kernel)))) (hev 0 (by decide)), s1, s2, s3, s4, va_Zof (hts ((Jvm.Cond.laysStatic "java/lang/String" "COMPACT_STRINGS" "Z")) (List.mem_append_right _ (List.mem_of_getElem? (i := 48) (by decide +kernel)))) (hts ((Jvm.Cond.initialized "java/lang/String")) (List.mem_append_right _ (List.mem_of_getElem? (i := 3) (by decide +kernel)))) (va_eqt (hs (.eq (.static "java/lang/String" "COMPACT_STRINGS" "Z") (.int 1)) (by decide +kernel))) hA, va_Zqof (hts ((Jvm.Cond.laysStatic "jdk/internal/util/Preconditions" "SIOOBE_FORMATTER" "Ljava/util/function/BiFunction;")) (List.mem_append_right _ (List.mem_of_getElem? (i := 64) (by decide +kernel)))) (hts ((Jvm.Cond.initialized "jdk/internal/util/Preconditions")) (List.mem_append_right _ (List.mem_of_getElem? (i := 5) (by decide +kernel)))) (hs (.isRef (.static "jdk/internal/util/Preconditions" "SIOOBE_FORMATTER" "Ljava/util/function/BiFunction;")) (by decide +kernel)) hA⟩
theorem lw_GX {b : Nat} {s : State} {D : va_G} {cI cJ cB cP cM cZ : ClassId} (hts : ∀ w ∈ lw_tbl, w.before #[Value.ref b] s = true) (hgv : (Jvm.Cond.and given_1 narrow_1).before #[Value.ref b] s = true) (hG : GG D cI cJ cB cP cM cZ s) : ∃ sa : Nat, GX D cI cJ cB cP cM cZ s.heap.size sa [] s := by
  have hs := flat_of_before _ hgv
  have hA : ∀ a : Nat, a < s.heap.size → ¬ (fun q : Nat => s.heap.size ≤ q) a := fun a h => Nat.not_le.mpr h
  obtain ⟨sa, c9, cell9, k9, e1, -⟩ := Cond.exactly_spec (args := #[Value.ref b]) (first := s) (o := none) (s := s) (idx := []) (hs (.exactly (.string "FourSledge" 158) "java/lang/String") (by decide +kernel))
  exact ⟨sa, hG, Nat.le_refl _, fun k q h => by simp at h, fun w h => va_Nw.of (wNX_tab w h) (hts w (wNX_in w h)), vk_R.of (hts ((Jvm.Cond.stringRef "FourSledge" (158 : Nat) "no such man or number")) (List.mem_append_right _ (List.mem_of_getElem? (i := 1187) (by decide +kernel)))) e1, vx_Zqof (hts ((Jvm.Cond.laysStatic "java/lang/Throwable" "UNASSIGNED_STACK" "[Ljava/lang/StackTraceElement;")) (List.mem_append_right _ (List.mem_of_getElem? (i := 1175) (by decide +kernel)))) (hts ((Jvm.Cond.initialized "java/lang/Throwable")) (List.mem_append_right _ (List.mem_of_getElem? (i := 15) (by decide +kernel)))) (hs _ (by decide +kernel)) hA, vx_Zqof (hts ((Jvm.Cond.laysStatic "java/lang/Throwable" "SUPPRESSED_SENTINEL" "Ljava/util/List;")) (List.mem_append_right _ (List.mem_of_getElem? (i := 1177) (by decide +kernel)))) (hts ((Jvm.Cond.initialized "java/lang/Throwable")) (List.mem_append_right _ (List.mem_of_getElem? (i := 15) (by decide +kernel)))) (hs _ (by decide +kernel)) hA⟩
theorem wnf_kw {wB : Nat → Int32} (e : wB = fun j => ([wBy].getD 0 []).getD j 0) : KWN (WNF wB 161) := by
  rw [e]
  unfold KWN
  decide +kernel
set_option maxHeartbeats 4000000 in
set_option maxRecDepth 100000 in
theorem lw_GY {b : Nat} {s : State} {D : va_G} {cI cJ cB cP cM cZ : ClassId} (hts : ∀ w ∈ lw_tbl, w.before #[Value.ref b] s = true) (hgv : (Jvm.Cond.and given_1 narrow_1).before #[Value.ref b] s = true) (hG : GG D cI cJ cB cP cM cZ s) : ∃ tU tL tM : Nat, GY D cI cJ cB cP cM cZ s.heap.size tU tL tM [] s := by
  obtain ⟨tU, aW, bW, hST⟩ := lw_ST hts hgv
  have hs := flat_of_before _ hgv
  have hA : ∀ a : Nat, a < s.heap.size → ¬ (fun q : Nat => s.heap.size ≤ q) a := fun a h => Nat.not_le.mpr h
  have hlentL := va_eqt (hs (.eq (.length (.static "FourSledge" "SETTING_LEAST" "[I")) (.int 5)) (by decide +kernel))
  obtain ⟨tL, htL, hTtL⟩ := va_Tof (tm := (.static "FourSledge" "SETTING_LEAST" "[I")) (ty := .int) (N := 5) (f := fun j => .int (lF j)) (A := fun q => s.heap.size ≤ q) (by decide) (hs (.arrayOf (.static "FourSledge" "SETTING_LEAST" "[I") .int) (by decide +kernel)) hlentL (fun j hj => by
    match j, hj with
    | 0, _ => exact va_eqt (hs (.eq (.elem (.static "FourSledge" "SETTING_LEAST" "[I") (.int 0)) (.int 5)) (by decide +kernel))
    | 1, _ => exact va_eqt (hs (.eq (.elem (.static "FourSledge" "SETTING_LEAST" "[I") (.int 1)) (.int 100)) (by decide +kernel))
    | 2, _ => exact va_eqt (hs (.eq (.elem (.static "FourSledge" "SETTING_LEAST" "[I") (.int 2)) (.int 300)) (by decide +kernel))
    | 3, _ => exact va_eqt (hs (.eq (.elem (.static "FourSledge" "SETTING_LEAST" "[I") (.int 3)) (.int 0)) (by decide +kernel))
    | 4, _ => exact va_eqt (hs (.eq (.elem (.static "FourSledge" "SETTING_LEAST" "[I") (.int 4)) (.int 0)) (by decide +kernel))) hA
  have hlentM := va_eqt (hs (.eq (.length (.static "FourSledge" "SETTING_MOST" "[I")) (.int 5)) (by decide +kernel))
  obtain ⟨tM, htM, hTtM⟩ := va_Tof (tm := (.static "FourSledge" "SETTING_MOST" "[I")) (ty := .int) (N := 5) (f := fun j => .int (mF j)) (A := fun q => s.heap.size ≤ q) (by decide) (hs (.arrayOf (.static "FourSledge" "SETTING_MOST" "[I") .int) (by decide +kernel)) hlentM (fun j hj => by
    match j, hj with
    | 0, _ => exact va_eqt (hs (.eq (.elem (.static "FourSledge" "SETTING_MOST" "[I") (.int 0)) (.int 40)) (by decide +kernel))
    | 1, _ => exact va_eqt (hs (.eq (.elem (.static "FourSledge" "SETTING_MOST" "[I") (.int 1)) (.int 300)) (by decide +kernel))
    | 2, _ => exact va_eqt (hs (.eq (.elem (.static "FourSledge" "SETTING_MOST" "[I") (.int 2)) (.int 900)) (by decide +kernel))
    | 3, _ => exact va_eqt (hs (.eq (.elem (.static "FourSledge" "SETTING_MOST" "[I") (.int 3)) (.int 9)) (by decide +kernel))
    | 4, _ => exact va_eqt (hs (.eq (.elem (.static "FourSledge" "SETTING_MOST" "[I") (.int 4)) (.int 20)) (by decide +kernel))) hA
  exact ⟨tU, tL, tM, hG, Nat.le_refl _, fun k q h => by simp at h, hST.1, hST.2.1, va_Zof (hts ((Jvm.Cond.laysStatic "FourSledge" "SETTING_LEAST" "[I")) (List.mem_append_right _ (List.mem_of_getElem? (i := 559) (by decide +kernel)))) (hts ((Jvm.Cond.initialized "FourSledge")) (List.mem_append_right _ (List.mem_of_getElem? (i := 1) (by decide +kernel)))) htL hA, hTtL, va_Zof (hts ((Jvm.Cond.laysStatic "FourSledge" "SETTING_MOST" "[I")) (List.mem_append_right _ (List.mem_of_getElem? (i := 561) (by decide +kernel)))) (hts ((Jvm.Cond.initialized "FourSledge")) (List.mem_append_right _ (List.mem_of_getElem? (i := 1) (by decide +kernel)))) htM hA, hTtM⟩
