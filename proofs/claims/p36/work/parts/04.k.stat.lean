def wTx : String := "yards  sledge most   ice    warm   man    bend   runner crew   jump   lead   high   on     start  or     and    not    gets   ahead  push   feet   weight number "
def uF : Nat → Int32 := fun j => if j = 0 then 40 else if j = 1 then 210 else if j = 2 then 630 else if j = 3 then 2 else 5
/-- what lies in the old heap: the usual settings' row, the words' text, two statics of the JDK -/
def STU (A : Nat → Prop) (tU : Nat) (U : State) (H : Heap) : Prop := ∃ cell : Cell, H[tU]? = some cell ∧ U.isArrayOf cell .int ∧ cell.vm ≠ .unknown ∧ U.vm.findClass "[I" = some cell.cls ∧ cell.slots = #[.int 40, .int 210, .int 630, .int 2, .int 5] ∧ ¬ A tU
def STA (A : Nat → Prop) (tU aW bW : Nat) (wB : Nat → Int32) (U : State) (H : Heap) : Prop :=
  va_Z "FourSledge" "SETTING_USUAL" "[I" (.ref tU) A U H ∧ STU A tU U H ∧ vk_R "FourSledge$Reader" 51 wTx aW U ∧ va_O "java/lang/String" aW A U H ∧ va_OF "java/lang/String" "coder" "B" (.int 0) aW A U H ∧ va_OF "java/lang/String" "value" "[B" (.ref bW) aW A U H ∧ va_T .byte bW 161 (fun j => .int (wB j)) A U H ∧ va_Z "java/lang/String" "COMPACT_STRINGS" "Z" (.int 1) A U H ∧ va_Zq "jdk/internal/util/Preconditions" "SIOOBE_FORMATTER" "Ljava/util/function/BiFunction;" A U H
section ST
variable {A B : Nat → Prop} {tU aW bW : Nat} {wB : Nat → Int32} {s U : State} {H H1 : Heap}
theorem STA.narrow (h : STA A tU aW bW wB U H) (hAB : ∀ q, B q → A q) : STA B tU aW bW wB U H := by
  obtain ⟨h1, ⟨cell, a1, a2, a3, a4, a5, a6⟩, h3, h4, h5, h6, h7, h8, h9⟩ := h
  exact ⟨h1.narrow hAB, ⟨cell, a1, a2, a3, a4, a5, fun q => a6 (hAB _ q)⟩, h3, h4.narrow hAB, h5.narrow hAB, h6.narrow hAB, h7.narrow hAB, h8.narrow hAB, h9.narrow hAB⟩
theorem STA.warm (hW : s.WarmedH U.vm) (h : STA A tU aW bW wB s H) : STA A tU aW bW wB U H := by
  obtain ⟨h1, ⟨cell, a1, a2, a3, a4, a5, a6⟩, h3, h4, h5, h6, h7, h8, h9⟩ := h
  exact ⟨h1.moved hW.alike, ⟨cell, a1, State.isArrayOf_alike hW.alike a2, a3, by rw [hW.alike.findClass]; exact a4, a5, a6⟩, h3.warm hW, h4.moved hW.alike, h5.moved hW.alike, h6.moved hW.alike, h7.moved hW.alike, h8.moved hW.alike, h9.moved hW.alike⟩
theorem STA.same {u : State} (hv : U.vm = u.vm) (h : STA A tU aW bW wB u H) : STA A tU aW bW wB U H := by
  have al : u.vm.Alike U.vm := by rw [hv]; exact Vm.Alike.refl _
  obtain ⟨h1, ⟨cell, a1, a2, a3, a4, a5, a6⟩, h3, h4, h5, h6, h7, h8, h9⟩ := h
  exact ⟨h1.moved al, ⟨cell, a1, State.isArrayOf_alike al a2, a3, by rw [al.findClass]; exact a4, a5, a6⟩, h3.same hv, h4.moved al, h5.moved al, h6.moved al, h7.moved al, h8.moved al, h9.moved al⟩
theorem STA.kept (h : STA A tU aW bW wB U H) (hq : ∀ a : Nat, a < H.size → ¬ A a → H1[a]? = H[a]?) : STA A tU aW bW wB U H1 := by
  obtain ⟨h1, ⟨cell, a1, a2, a3, a4, a5, a6⟩, h3, h4, h5, h6, h7, h8, h9⟩ := h
  exact ⟨h1.kept hq, ⟨cell, by rw [hq _ (Array.getElem?_eq_some_iff.mp a1).1 a6]; exact a1, a2, a3, a4, a5, a6⟩, h3, h4.kept hq, h5.kept hq, h6.kept hq, h7.kept hq, h8.kept hq, h9.kept hq⟩
theorem STA.recv {locs : List Loc} (h : STA A tU aW bW wB s s.heap) (hS : va_S A s.heap H locs) : ∃ cell : Cell, H[aW]? = some cell ∧ cell.vm.isStatics = false ∧ s.vm.findClass "java/lang/String" = some cell.cls := by
  obtain ⟨cell, a1, a2, a3, -⟩ := h.2.2.2.1.kept hS.2.1
  exact ⟨cell, a1, a2, a3⟩
end ST
def GZ (D : va_G) (cI cJ cB cP cM cZ : ClassId) (z0 tU aW bW : Nat) (wB : Nat → Int32) (ws : va_W) (U : State) : Prop := GG D cI cJ cB cP cM cZ U ∧ z0 ≤ U.heap.size ∧ (∀ (k : Nat) (q : Nat × va_E), ws[k]? = some q → z0 ≤ q.1) ∧ STA (fun q => z0 ≤ q) tU aW bW wB U U.heap
section GZS
variable {D : va_G} {cI cJ cB cP cM cZ : ClassId} {z0 tU aW bW : Nat} {wB : Nat → Int32} {ws wc : va_W} {s : State} {A : Nat → Prop} {H : Heap} {locs : List Loc}
theorem GZ.hAz {sz : Nat} (h : GZ D cI cJ cB cP cM cZ z0 tU aW bW wB ws s) (hAe : A = va_A ws sz) (hsz : s.heap.size = sz) : ∀ q, A q → z0 ≤ q := by
  intro q hq
  rw [hAe] at hq
  rcases hq with ⟨k, e, hk⟩ | hq
  · exact h.2.2.1 k _ hk
  · exact Nat.le_trans h.2.1 (by rw [hsz]; exact hq)
theorem GZ.st (h : GZ D cI cJ cB cP cM cZ z0 tU aW bW wB ws s) (hAz : ∀ q, A q → z0 ≤ q) : STA A tU aW bW wB s s.heap := h.2.2.2.narrow hAz
theorem GZ.at (h : GZ D cI cJ cB cP cM cZ z0 tU aW bW wB ws s) (hAz : ∀ q, A q → z0 ≤ q) (hS : va_S A s.heap H locs) (hDc : va_D A wc) : ∀ U : State, U.heap = H → s.WarmedH U.vm → GZ D cI cJ cB cP cM cZ z0 tU aW bW wB wc U :=
  fun U hU hW => ⟨h.1.warm hW, by rw [hU]; exact Nat.le_trans h.2.1 hS.1, fun k q hq => hAz _ (hDc.2 k q hq), by rw [hU]; exact (STA.warm hW h.2.2.2).kept (fun a ha hn => hS.2.1 a ha (fun hA => hn (hAz a hA)))⟩
theorem GZ.fb (U : State) (g : JFrame) (mk : MethodId) (a : Array Value) (h : GZ D cI cJ cB cP cM cZ z0 tU aW bW wB ws U) : GZ D cI cJ cB cP cM cZ z0 tU aW bW wB ws (U.calling g mk a) :=
  ⟨GG.fb U g mk a h.1, h.2.1, h.2.2.1, STA.same (u := U) rfl h.2.2.2⟩
end GZS
section WO
variable {p : Program} {l : Launch} {e : Env} {R : Room} {s : State} {m : MethodId} {args : Array Value} {below : List Frame} {meth : Method} {c : Code} {H : Heap} {locs : List Loc} {cells slots mc ms : Nat} {Q : State → Prop} {cc : ByteArray} {pc nL : Nat} {ls : Array Slot} {rest st0 : List Value} {D : va_G} {A : Nat → Prop} {tys : List (ClassId × FieldType)} {ws : va_W} {H0 : Heap}
theorem call_Oi {y : MethodName} {cb : ByteArray} {n : Nat} {rt : Option FieldType} {rm : Room} {G : State → Prop} {wc wr : va_W} {b : Nat} {As : List Value} {post : Int32 → va_W → Prop} {own : String} {idx : Nat}
    (hx : p.tables.exec = Jvm.exec) (hb : c.code = cc) (hml : c.maxLocals = nL) (hown : s.vm.findClass own = some m.cls) (hw : ∀ w ∈ wA, w.before args s = true) (hM : CI l y cb n rt rm G D wc H.size (.ref b :: As) post) (hv : VW own idx y cb n rt As.length) (hdg : decode cc pc = .ok (.invokevirtual idx, 3))
    (hP : va_P D vwCl ws H) (hD : va_D A ws) (hS : va_S A H0 H locs) (hA : ∀ q : Nat, H0.size ≤ q → A q) (isC isR : List Nat) (hC : isC.map (fun i => ws[i]?) = wc.map some) (hR : isR.map (fun i => ws[i]?) = wr.map some) (hn : va_nd isR = true) (hdc : va_nd isC = true) (hdis : ∀ i ∈ isR, i ∉ isC)
    (hrv : ∃ cell : Cell, H[b]? = some cell ∧ cell.vm.isStatics = false ∧ s.vm.findClass y.cls = some cell.cls)
    (hfb : ∀ (U : State) (g : JFrame) (mk : MethodId) (a : Array Value), G U → G (U.calling g mk a)) (hG : ∀ U : State, U.heap = H → s.WarmedH U.vm → G U)
    (hsz : ls.size = nL) (hst : st0 = As.reverse ++ .ref b :: rest) (hrest : (rest.map fun v => v.category).sum ≤ 8) (hRm : rm.frames + 1 ≤ R.frames ∧ 8 + (n + 11) + rm.locals ≤ R.locals) (hf : cells + rm.cells ≤ R.cells ∧ slots + rm.slots ≤ R.slots)
    (kk : ∀ (r : Int32) (u : va_W) (H1 : Heap) (locs1 : List Loc), post r u → va_P D vwCl (wr ++ u) H1 → va_D A (wr ++ u) → va_S A H0 H1 locs1 → W p l e R s m args below meth c H1 locs1 (cells + rm.cells) (slots + rm.slots) Q (F0 m (pc + 3) ls (.int r :: rest))) :
    W p l e R s m args below meth c H locs cells slots Q (F0 m pc ls st0) := by
  have hPc := subP hP isC hC
  have hFc := va_free (wc := wc) hD hS hA isC hC
  refine va_calli (va_runV (As := As) (rest := rest) (nL := nL) (b := b) ⟨hx, hb, hml, hown, hw⟩ hM (hv.cw hw hRm) ⟨pre_fb hfb, hrv, pre_at hPc (hD.sub isC hdc hC) hG⟩ rfl rfl hsz hst (lv_room hrest) hdg hf) hS (fun q _ h => hFc q h) hFc (fun r u t H1 locs1 ht hvm hp hB hz1 hk1 hS1 => ?_)
  obtain ⟨h1, h2⟩ := aft (locs1 := locs1) hP hD isC isR hC hR hn hdis hFc ht hB hk1
  exact kk r u H1 locs1 hp h1 h2 hS1
theorem newQ (hx : p.tables.exec = Jvm.exec) (hb : c.code = cc) {own C : String} {index : Nat} (hown : s.vm.findClass own = some m.cls) (hclink : (Cond.classLink own index C).before args s = true) (hover : va_AO C s) (hK : va_K D vwCl tys s) (t0 : Nat) {cA : ClassId} (ht : tys[t0]? = some (cA, .object C)) (hP : va_P D vwCl ws H) (hD : va_D A ws) (hS : va_S A H0 H locs) (hA : ∀ q : Nat, H0.size ≤ q → A q)
    {n : Int32} {N' : Nat} (hn : ¬ n < 0) (hN : n.toNatClampNeg = N') (hbytes : N' * 4 ≤ 536870912) (hcells : cells + 1 ≤ R.cells) (hslots : slots + N' ≤ R.slots) (hdg : decode cc pc = .ok (.anewarray index, 3))
    (kk : ∀ (q : Nat) (H1 : Heap), va_P D vwCl (ws ++ [(q, .inl (cA, N', .inr (.inr (.inr (.inr (fun _ => none))))))]) H1 → va_D A (ws ++ [(q, .inl (cA, N', .inr (.inr (.inr (.inr (fun _ => none))))))]) → va_S A H0 H1 locs →
      W p l e R s m args below meth c H1 locs (cells + 1) (slots + N') Q (F0 m (pc + 3) ls (.ref q :: rest))) : W p l e R s m args below meth c H locs cells slots Q (F0 m pc ls (.int n :: rest)) := by
  refine va_newq hx hb hown hclink hover hK hP hD hS hA hn hN hbytes hcells hslots hdg (fun q cA' H1 hK1 hP1 hD1 hS1 => ?_)
  obtain ⟨-, -, -, -, -, h1⟩ := (hK.2 t0 _ ht).2
  obtain ⟨-, -, -, -, -, h2⟩ := (hK1.2 tys.length (cA', .object C) (by simp)).2
  have e : cA' = cA := Option.some.inj (h2.symm.trans h1)
  subst e
  exact kk q H1 hP1 hD1 hS1
theorem cloneT (hx : p.tables.exec = Jvm.exec) (hb : c.code = cc) (hml : c.maxLocals = ls.size) {own : String} {index : Nat} (hown : s.vm.findClass own = some m.cls)
    (hlink : (Cond.methodLink own index ⟨"[I", "clone", "()Ljava/lang/Object;"⟩).before args s = true) (hsame : (Cond.sameMethod "[I" "java/lang/Object" "clone" "()Ljava/lang/Object;").before args s = true)
    (hnat : (Cond.native ⟨"java/lang/Object", "clone", "()Ljava/lang/Object;"⟩).before args s = true) (hinst : (Cond.instanceMethod ⟨"java/lang/Object", "clone", "()Ljava/lang/Object;"⟩).before args s = true)
    (hsel : (Cond.selects "[I" ⟨"[I", "clone", "()Ljava/lang/Object;"⟩ ⟨"java/lang/Object", "clone", "()Ljava/lang/Object;"⟩).before args s = true) (hcl : va_Nw (.castable "[I" "java/lang/Cloneable") s)
    {tU : Nat} (hU : STU A tU s s.heap) (hS0 : va_S A s.heap H locs) (hK : va_K D vwCl tys s) (t0 : Nat) {cA : ClassId} (ht : tys[t0]? = some (cA, .int)) (hP : va_P D vwCl ws H) (hD : va_D A ws) (hA : ∀ q : Nat, s.heap.size ≤ q → A q)
    (hframes : 1 ≤ R.frames) (hlocals : (rest.map fun v => v.category).sum + 14 ≤ R.locals) (hcells : cells + 1 ≤ R.cells) (hslots : slots + 5 ≤ R.slots) (hdg : decode cc pc = .ok (.invokevirtual index, 3))
    (kk : ∀ (q : Nat) (H1 : Heap), va_P D vwCl (ws ++ [(q, .inl (cA, 5, .inl uF))]) H1 → va_D A (ws ++ [(q, .inl (cA, 5, .inl uF))]) → va_S A s.heap H1 locs →
      W p l e R s m args below meth c H1 locs (cells + 1) (slots + 5) Q (F0 m (pc + 3) ls (.ref q :: rest))) : W p l e R s m args below meth c H locs cells slots Q (F0 m pc ls (.ref tU :: rest)) := by
  obtain ⟨cell, a1, a2, a3, a4, a5, a6⟩ := hU
  have hnm : s.vm.findClass "[I" = some cA := va_nm_int (hK.2 t0 _ ht).2
  have ecls : cell.cls = cA := Option.some.inj (a4.symm.trans hnm)
  have hsz : cell.slots.size = 5 := by rw [a5]; rfl
  have ecell : ({ cls := cell.cls, slots := cell.slots } : Cell) = vp_cell cA (5, .inl uF) := by
    rw [ecls, a5]
    rfl
  obtain ⟨c0, tC, f1, f2, f3⟩ := Cond.castable_spec (va_Nw.use (A := args) rfl hcl)
  cases hnm.symm.trans f1
  intro T hT X
  have hcellT : T.heap[tU]? = some cell := by rw [hT, hS0.2.1 tU (Array.getElem?_eq_some_iff.mp a1).1 a6]; exact a1
  obtain ⟨-, kA, hkA, comp, hkind⟩ := State.isArrayOf_alike X.warmed.alike a2
  obtain ⟨hns, kS, hkS, compS, hkindS⟩ := a2
  obtain ⟨vm', X', st⟩ := X.cloneArray hx hown hlink hsame hnat hinst hsel (a := tU) (cell := cell) hcellT hns a3 a4 f2 (by rw [ecls]; exact f3)
    (fun i v hv => by
      have hk' : T.vm.classes[cell.cls]? = some kA := hkA
      have hi : i < 5 := by rw [← hsz]; exact (Array.getElem?_eq_some_iff.mp hv).1
      rw [a5] at hv
      have hv2 : fits .int v = true := by
        match i, hi with
        | 0, _ => cases hv; rfl
        | 1, _ => cases hv; rfl
        | 2, _ => cases hv; rfl
        | 3, _ => cases hv; rfl
        | 4, _ => cases hv; rfl
      simpa [State.fitsSlot, State.slotType?, hk', hkind] using hv2)
    (g := F0 m pc ls (.ref tU :: rest)) rfl (by rw [hml]) rfl (by rw [hb]; exact hdg) hframes (by show 2 * 0 + _ + 14 ≤ _; omega) hcells (by rw [hsz]; exact hslots) (hloader := Vm.clonesLoader_of_array hkS hkindS)
  rw [ecell, hsz] at X'
  generalize hH1 : H.push (vp_cell cA (5, .inl uF)) = H1
  have z1 : H1.size = H.size + 1 := by rw [← hH1, Array.size_push]
  have e1 : H1[H.size]? = some (vp_cell cA (5, .inl uF)) := by rw [← hH1, Array.getElem?_push_size]
  have o1 : ∀ q : Nat, q < H.size → H1[q]? = H[q]? := fun q hq => by rw [← hH1, Array.getElem?_push, if_neg (Nat.ne_of_lt hq)]
  have hk : ∀ (k : Nat) (y : Nat × va_E), ws[k]? = some y → H1[y.1]? = H[y.1]? := fun k y hy => o1 y.1 ((hP k y hy).lt)
  obtain ⟨t, b1, b2⟩ := kk H.size H1 ((hP.kept hk).app (fun k y hy => by
      have hz : k < 1 := (List.getElem?_eq_some_iff.mp hy).1
      rw [show k = 0 by omega] at hy
      cases hy
      exact e1)) (hD.push hP rfl (hA _ hS0.1)) ⟨Nat.le_trans hS0.1 (by omega), fun y h1 h2 => (o1 y (Nat.lt_of_lt_of_le h1 hS0.1)).trans (hS0.2.1 y h1 h2), hS0.2.2⟩
    ((T.setVm vm').pushCell (vp_cell cA (5, .inl uF))) (by rw [← hH1, ← hT]; rfl) X'
  refine ⟨t, st t ?_, b2⟩
  rw [ecell, hT]
  exact b1
end WO
