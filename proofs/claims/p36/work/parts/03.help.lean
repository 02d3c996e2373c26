/-! words: one list for all methods, those of the tables that stay good over any call -/
def wA : List Cond := lw_tbl.filter goodWord
theorem wA_in {w : Cond} (h : w ∈ wA) : w ∈ lw_tbl := (List.mem_filter.mp h).1
theorem wA_good {w : Cond} (h : w ∈ wA) : (w.onTables && w.keeps) = true ∨ ∃ ty, w = .arrayClass ty := good_of_word (List.mem_filter.mp h).2
theorem inT (i : Nat) {w : Cond} (h : tables_1[i]? = some w) (g : goodWord w = true) : w ∈ wA := List.mem_filter.mpr ⟨List.mem_append_right _ (List.mem_of_getElem? h), g⟩
theorem inP (i : Nat) {w : Cond} (h : (k2_sels lw_privs)[i]? = some w) (g : goodWord w = true) : w ∈ wA := List.mem_filter.mpr ⟨List.mem_append_left _ (List.mem_of_getElem? h), g⟩
theorem inTs (ws : List Cond) (ps : List Nat) (hp : ws = ps.filterMap (fun i => tables_1[i]?)) (h : ws.all goodWord = true) : ∀ w ∈ ws, w ∈ wA := by
  intro w hw
  have h1 := List.all_eq_true.mp h w hw
  rw [hp] at hw
  obtain ⟨i, -, hi⟩ := List.mem_filterMap.mp hw
  exact inT i hi h1
theorem gA {y : Cond} (hy : y ∈ wA) : GoodIn wA (y :: wA) := fun w h => by
  rcases List.mem_cons.mp h with rfl | h
  · exact ⟨hy, wA_good hy⟩
  · exact ⟨h, wA_good h⟩
/-- what a contract asks of its start -/
def PRE (G : State → Prop) (D : va_G) (ws : va_W) (sz : Nat) (av : List Value) : Array Value → State → Prop := va_Pc av (fun U => U.heap.size = sz ∧ G U ∧ va_P D vwCl ws U.heap ∧ va_D (fun _ => True) ws)
/-- its world behind it -/
def PO (D : va_G) (A : Nat → Prop) : va_W → State → Prop := fun u t => va_P D vwCl u t.heap ∧ va_D A u
def CI (l : Launch) (y : MethodName) (cc : ByteArray) (n : Nat) (rt : Option FieldType) (rm : Room) (G : State → Prop) (D : va_G) (ws : va_W) (sz : Nat) (av : List Value) (post : Int32 → va_W → Prop) : Prop :=
  Met l y (.code y cc n rt :: wA) rm (PRE G D ws sz av) (va_Qi post (PO D (va_A ws sz)) (va_A ws sz)) rm.cells rm.slots (va_A ws sz)
def CV (l : Launch) (y : MethodName) (cc : ByteArray) (n : Nat) (rt : Option FieldType) (rm : Room) (G : State → Prop) (D : va_G) (ws : va_W) (sz : Nat) (av : List Value) (post : va_W → Prop) : Prop :=
  Met l y (.code y cc n rt :: wA) rm (PRE G D ws sz av) (va_Qv post (PO D (va_A ws sz)) (va_A ws sz)) rm.cells rm.slots (va_A ws sz)
/-- what a walk has at its beginning -/
def ENT (p : Program) (s : State) (m : MethodId) (meth : Method) (c : Code) (y : MethodName) (cc : ByteArray) (n : Nat) (rt : Option FieldType) (av : List Value) : Prop :=
  p.tables.exec = Jvm.exec ∧ c.code = cc ∧ meth.sig.returnType = rt ∧ (∀ w ∈ wA, w.before av.toArray s = true) ∧ s.vm.findClass y.cls = some m.cls ∧ meth.locks = false ∧ c.maxLocals = n ∧ meth.name = y.name
theorem met_mk {l : Launch} {y : MethodName} {cc : ByteArray} {n : Nat} {rt : Option FieldType} {rm : Room} {G : State → Prop} {D : va_G} {ws : va_W} {sz : Nat} {av : List Value} {Qf : (Nat → Prop) → Array Value → State → Outcome → State → Prop} (hy : plainName y.cls = true) (hlen : (lg_sl av).length ≤ n)
    (h : ∀ (p : Program) (e : Env) (s : State) (m : MethodId) (below : List Frame) (meth : Method) (c : Code) (A : Nat → Prop) (ls : Array Slot), ENT p s m meth c y cc n rt av → A = va_A ws sz → G s → s.heap.size = sz → va_P D vwCl ws s.heap → va_D A ws → (∀ q : Nat, s.heap.size ≤ q → A q) → va_S A s.heap s.heap [] → lv_has ls n (lv_args 0 av) →
      W p l e rm s m av.toArray below meth c s.heap [] 0 0 (MQ below (Qf A) av.toArray s rm.cells rm.slots A) (F0 m 0 ls [])) :
    Met l y (.code y cc n rt :: wA) rm (PRE G D ws sz av) (Qf (va_A ws sz)) rm.cells rm.slots (va_A ws sz) := by
  refine Met.ofW (cc := cc) (maxL := n) (ret := rt) hy rfl ?_
  intro p e s m args below meth c s₁ B hml hv
  obtain ⟨rfl, hsz, hG, hP, hD0⟩ := hv
  have hts := atoms_spec (ws := .code y cc n rt :: wA) B.pre
  have hl := lv_entry av (n := n) hlen
  rw [lg_entry_eq]
  generalize (lg_sl av ++ List.replicate (n - (lg_sl av).length) Slot.unset).toArray = ls at hl ⊢
  exact h p e s m below meth c (va_A ws sz) ls ⟨B.exec, B.bytes, B.returns, fun w hw => hts w (List.mem_cons_of_mem _ hw), findClass_of_methodNamed B.named, B.notSynchronized, hml, (name_of_methodNamed B.named B.method).1⟩ rfl hG hsz hP (hD0.self (sz := sz)) (fun q hq => Or.inr (hsz ▸ hq)) va_S.rf hl
section WK
variable {p : Program} {l : Launch} {e : Env} {R : Room} {s : State} {m : MethodId} {args : Array Value} {below : List Frame} {meth : Method} {c : Code} {H : Heap} {locs : List Loc} {cells slots mc ms : Nat} {Q : State → Prop} {cc : ByteArray} {pc nL : Nat} {ls : Array Slot} {rest st0 : List Value} {D : va_G} {A : Nat → Prop} {tys : List (ClassId × FieldType)} {ws : va_W} {H0 : Heap}
theorem ret_i {v : Int32} {ty : FieldType} {post : Int32 → va_W → Prop} (hx : p.tables.exec = Jvm.exec) (hb : c.code = cc) (hr : meth.sig.returnType = some ty) (hlocks : meth.locks = false) (hS : va_S A s.heap H locs) (hP : va_P D vwCl ws H) (hD : va_D A ws) (hdg : decode cc pc = .ok (.ireturn, 1)) (hn : narrow ty (.int v) = .int v) (hc : cells ≤ mc) (hs : slots ≤ ms) (hp : post v ws) :
    W p l e R s m args below meth c H locs cells slots (MQ below (va_Qi post (PO D A) A) args s mc ms A) (F0 m pc ls [.int v]) :=
  W.widen hc hs (W.zret hx hb hr hn (fun t ht hW => ⟨⟨v, ws, rfl, hp, by rw [ht]; exact hP, hD⟩, hS.F ht⟩) hS.2.2 hdg hlocks)
theorem ret_v {post : va_W → Prop} (hx : p.tables.exec = Jvm.exec) (hb : c.code = cc) (hr : meth.sig.returnType = none) (hlocks : meth.locks = false) (hS : va_S A s.heap H locs) (hP : va_P D vwCl ws H) (hD : va_D A ws) (hdg : decode cc pc = .ok (.return_, 1)) (hc : cells ≤ mc) (hs : slots ≤ ms) (hp : post ws) :
    W p l e R s m args below meth c H locs cells slots (MQ below (va_Qv post (PO D A) A) args s mc ms A) (F0 m pc ls []) :=
  W.widen hc hs (W.vret hx hb hr (fun t ht hW => ⟨⟨ws, rfl, hp, by rw [ht]; exact hP, hD⟩, hS.F ht⟩) hS.2.2 hdg hlocks)
/-- the words of a call -/
def VW (own : String) (idx : Nat) (y : MethodName) (cc : ByteArray) (n : Nat) (rt : Option FieldType) (k : Nat) : Prop :=
  Cond.code y cc n rt ∈ wA ∧ Cond.methodLink own idx y ∈ wA ∧ Cond.instanceMethod y ∈ wA ∧ Cond.selects y.cls y y ∈ wA ∧ Cond.initialized y.cls ∈ wA ∧ (y.cls ≠ "java/lang/invoke/MethodHandle" ∧ y.cls ≠ "java/lang/invoke/VarHandle" ∧ (parseMethodDescriptor y.desc).map (fun d => d.parameters.length) = some k)
def SW (own : String) (idx : Nat) (y : MethodName) (cc : ByteArray) (n : Nat) (rt : Option FieldType) (k : Nat) : Prop :=
  Cond.code y cc n rt ∈ wA ∧ Cond.methodLink own idx y ∈ wA ∧ Cond.static y ∈ wA ∧ Cond.initialized y.cls ∈ wA ∧ (y.cls ≠ "java/lang/invoke/MethodHandle" ∧ y.cls ≠ "java/lang/invoke/VarHandle" ∧ (parseMethodDescriptor y.desc).map (fun d => d.parameters.length) = some k)
def IW (own : String) (idx : Nat) (y : MethodName) (cc : ByteArray) (n : Nat) (k : Nat) : Prop :=
  Cond.code y cc n none ∈ wA ∧ Cond.methodLink own idx y ∈ wA ∧ Cond.instanceMethod y ∈ wA ∧ y.name = "<init>" ∧ Cond.initialized y.cls ∈ wA ∧ (y.cls ≠ "java/lang/invoke/MethodHandle" ∧ y.cls ≠ "java/lang/invoke/VarHandle" ∧ (parseMethodDescriptor y.desc).map (fun d => d.parameters.length) = some k)
def NI (y : MethodName) (cc : ByteArray) (n : Nat) (k : Nat) : Prop :=
  Cond.code y cc n none ∈ wA ∧ Cond.instanceMethod y ∈ wA ∧ y.name = "<init>" ∧ Cond.initialized y.cls ∈ wA ∧ (y.cls ≠ "java/lang/invoke/MethodHandle" ∧ y.cls ≠ "java/lang/invoke/VarHandle" ∧ (parseMethodDescriptor y.desc).map (fun d => d.parameters.length) = some k)
theorem VW.cw {own : String} {idx : Nat} {y : MethodName} {cb : ByteArray} {n : Nat} {rt : Option FieldType} {k : Nat} {rm : Room} (h : VW own idx y cb n rt k) (hw : ∀ w ∈ wA, w.before args s = true) (hR : rm.frames + 1 ≤ R.frames ∧ 8 + (n + 11) + rm.locals ≤ R.locals) : CallW R s args own y.cls idx y cb n rt (.code y cb n rt :: wA) rm rm.cells rm.slots k :=
  ⟨callB_of k hw (gA h.1) rfl rfl rfl (hw _ h.2.2.2.2.1) (hw _ h.2.1) h.2.2.2.2.2 hR, hw _ h.2.2.1, hw _ h.2.2.2.1⟩
theorem SW.cw {own : String} {idx : Nat} {y : MethodName} {cb : ByteArray} {n : Nat} {rt : Option FieldType} {k : Nat} {rm : Room} (h : SW own idx y cb n rt k) (hw : ∀ w ∈ wA, w.before args s = true) (hR : rm.frames + 1 ≤ R.frames ∧ 8 + (n + 11) + rm.locals ≤ R.locals) : CallB R s args own idx y cb n rt (.code y cb n rt :: wA) rm rm.cells rm.slots k ∧ (Cond.static y).before args s = true :=
  ⟨callB_of k hw (gA h.1) rfl rfl rfl (hw _ h.2.2.2.1) (hw _ h.2.1) h.2.2.2.2 hR, hw _ h.2.2.1⟩
theorem IW.cw {own : String} {idx : Nat} {y : MethodName} {cb : ByteArray} {n : Nat} {k : Nat} {rm : Room} (h : IW own idx y cb n k) (hw : ∀ w ∈ wA, w.before args s = true) (hR : rm.frames + 1 ≤ R.frames ∧ 8 + (n + 11) + rm.locals ≤ R.locals) : CallB R s args own idx y cb n none (.code y cb n none :: wA) rm rm.cells rm.slots k ∧ y.name = "<init>" ∧ (Cond.instanceMethod y).before args s = true :=
  ⟨callB_of k hw (gA h.1) rfl rfl rfl (hw _ h.2.2.2.2.1) (hw _ h.2.1) h.2.2.2.2.2 hR, h.2.2.2.1, hw _ h.2.2.1⟩
theorem NI.cw {own host : String} {idx : Nat} {y : MethodName} {cb : ByteArray} {n : Nat} {k : Nat} {rm : Room} (h : NI y cb n k) (hw : ∀ w ∈ wA, w.before args s = true) (hl : va_Nw (.methodLinkNest own idx y host) s) (hR : rm.frames + 1 ≤ R.frames ∧ 8 + (n + 11) + rm.locals ≤ R.locals) : va_CN R s args own idx y host cb n none (.code y cb n none :: wA) rm rm.cells rm.slots k ∧ y.name = "<init>" ∧ (Cond.instanceMethod y).before args s = true :=
  ⟨va_cnB k hw (gA h.1) rfl rfl rfl hl (hw _ h.2.2.2.1) h.2.2.2.2 hR, h.2.2.1, hw _ h.2.1⟩
theorem pre_fb {G : State → Prop} {sz : Nat} {av : List Value} (hG : ∀ (U : State) (g : JFrame) (mk : MethodId) (a : Array Value), G U → G (U.calling g mk a)) : FrameBlind (PRE G D ws sz av) :=
  fun a U g mk q => ⟨q.1, q.2.1, hG U g mk a q.2.2.1, q.2.2.2.1, q.2.2.2.2⟩
theorem pre_at {G : State → Prop} {av : List Value} {wc : va_W} (hP : va_P D vwCl wc H) (hD : va_D A wc) (hG : ∀ U : State, U.heap = H → s.WarmedH U.vm → G U) : ∀ U : State, U.heap = H → s.WarmedH U.vm → PRE G D wc H.size av av.toArray U :=
  fun U hU hW => ⟨rfl, by rw [hU], hG U hU hW, by rw [hU]; exact hP, hD.weaken (fun _ _ _ _ => trivial)⟩
/-- behind a call -/
theorem aft {H1 : Heap} {wc wr u : va_W} {t : State} {locs1 : List Loc} (hP : va_P D vwCl ws H) (hD : va_D A ws) (isC isR : List Nat) (hC : isC.map (fun i => ws[i]?) = wc.map some) (hR : isR.map (fun i => ws[i]?) = wr.map some) (hn : va_nd isR = true) (hdis : ∀ i ∈ isR, i ∉ isC) (hF : ∀ q, va_A wc H.size q → A q) (ht : t.heap = H1) (hB : PO D (va_A wc H.size) u t) (hk : ∀ q : Nat, q < H.size → ¬ va_A wc H.size q → H1[q]? = H[q]?) : va_P D vwCl (wr ++ u) H1 ∧ va_D A (wr ++ u) :=
  va_join hP hD isC isR hC hR hn hdis hk hF (by rw [← ht]; exact hB.1) hB.2
theorem subP {wc : va_W} (hP : va_P D vwCl ws H) (isC : List Nat) (hC : isC.map (fun i => ws[i]?) = wc.map some) : va_P D vwCl wc H := by
  refine hP.sub isC ?_
  have := congrArg (List.filterMap id) hC
  simpa [List.filterMap_map] using this
theorem call_Vi {y : MethodName} {cb : ByteArray} {n : Nat} {rt : Option FieldType} {rm : Room} {G : State → Prop} {wc wr : va_W} {b : Nat} {As : List Value} {post : Int32 → va_W → Prop} {own : String} {idx : Nat}
    (hx : p.tables.exec = Jvm.exec) (hb : c.code = cc) (hml : c.maxLocals = nL) (hown : s.vm.findClass own = some m.cls) (hw : ∀ w ∈ wA, w.before args s = true) (hM : CI l y cb n rt rm G D wc H.size (.ref b :: As) post) (hv : VW own idx y cb n rt As.length) (hdg : decode cc pc = .ok (.invokevirtual idx, 3))
    (hK : va_K D vwCl tys s) (hP : va_P D vwCl ws H) (hD : va_D A ws) (hS : va_S A H0 H locs) (hA : ∀ q : Nat, H0.size ≤ q → A q) (isC isR : List Nat) (hC : isC.map (fun i => ws[i]?) = wc.map some) (hR : isR.map (fun i => ws[i]?) = wr.map some) (hn : va_nd isR = true) (hdc : va_nd isC = true) (hdis : ∀ i ∈ isR, i ∉ isC)
    (q0 ci : Nat) {T : u_T} {N : Nat} {fs : List Value} (hcl : vwCl[ci]? = some (y.cls, T, N)) (he : wc[q0]? = some (b, .inr (ci, fs)))
    (hfb : ∀ (U : State) (g : JFrame) (mk : MethodId) (a : Array Value), G U → G (U.calling g mk a)) (hG : ∀ U : State, U.heap = H → s.WarmedH U.vm → G U)
    (hsz : ls.size = nL) (hst : st0 = As.reverse ++ .ref b :: rest) (hrest : (rest.map fun v => v.category).sum ≤ 8) (hRm : rm.frames + 1 ≤ R.frames ∧ 8 + (n + 11) + rm.locals ≤ R.locals) (hf : cells + rm.cells ≤ R.cells ∧ slots + rm.slots ≤ R.slots)
    (kk : ∀ (r : Int32) (u : va_W) (H1 : Heap) (locs1 : List Loc), post r u → va_P D vwCl (wr ++ u) H1 → va_D A (wr ++ u) → va_S A H0 H1 locs1 → W p l e R s m args below meth c H1 locs1 (cells + rm.cells) (slots + rm.slots) Q (F0 m (pc + 3) ls (.int r :: rest))) :
    W p l e R s m args below meth c H locs cells slots Q (F0 m pc ls st0) := by
  have hPc := subP hP isC hC
  have hFc := va_free (wc := wc) hD hS hA isC hC
  refine va_calli (va_runV (As := As) (rest := rest) (nL := nL) (b := b) ⟨hx, hb, hml, hown, hw⟩ hM (hv.cw hw hRm) ⟨pre_fb hfb, va_recv hK hPc (ci := ci) (q0 := q0) hcl he, pre_at hPc (hD.sub isC hdc hC) hG⟩ rfl rfl hsz hst (lv_room hrest) hdg hf) hS (fun q _ h => hFc q h) hFc (fun r u t H1 locs1 ht hvm hp hB hz1 hk1 hS1 => ?_)
  obtain ⟨h1, h2⟩ := aft (locs1 := locs1) hP hD isC isR hC hR hn hdis hFc ht hB hk1
  exact kk r u H1 locs1 hp h1 h2 hS1
theorem call_Vv {y : MethodName} {cb : ByteArray} {n : Nat} {rt : Option FieldType} {rm : Room} {G : State → Prop} {wc wr : va_W} {b : Nat} {As : List Value} {post : va_W → Prop} {own : String} {idx : Nat}
    (hx : p.tables.exec = Jvm.exec) (hb : c.code = cc) (hml : c.maxLocals = nL) (hown : s.vm.findClass own = some m.cls) (hw : ∀ w ∈ wA, w.before args s = true) (hM : CV l y cb n rt rm G D wc H.size (.ref b :: As) post) (hv : VW own idx y cb n rt As.length) (hdg : decode cc pc = .ok (.invokevirtual idx, 3))
    (hK : va_K D vwCl tys s) (hP : va_P D vwCl ws H) (hD : va_D A ws) (hS : va_S A H0 H locs) (hA : ∀ q : Nat, H0.size ≤ q → A q) (isC isR : List Nat) (hC : isC.map (fun i => ws[i]?) = wc.map some) (hR : isR.map (fun i => ws[i]?) = wr.map some) (hn : va_nd isR = true) (hdc : va_nd isC = true) (hdis : ∀ i ∈ isR, i ∉ isC)
    (q0 ci : Nat) {T : u_T} {N : Nat} {fs : List Value} (hcl : vwCl[ci]? = some (y.cls, T, N)) (he : wc[q0]? = some (b, .inr (ci, fs)))
    (hfb : ∀ (U : State) (g : JFrame) (mk : MethodId) (a : Array Value), G U → G (U.calling g mk a)) (hG : ∀ U : State, U.heap = H → s.WarmedH U.vm → G U)
    (hsz : ls.size = nL) (hst : st0 = As.reverse ++ .ref b :: rest) (hrest : (rest.map fun v => v.category).sum ≤ 8) (hRm : rm.frames + 1 ≤ R.frames ∧ 8 + (n + 11) + rm.locals ≤ R.locals) (hf : cells + rm.cells ≤ R.cells ∧ slots + rm.slots ≤ R.slots)
    (kk : ∀ (u : va_W) (H1 : Heap) (locs1 : List Loc), post u → va_P D vwCl (wr ++ u) H1 → va_D A (wr ++ u) → va_S A H0 H1 locs1 → W p l e R s m args below meth c H1 locs1 (cells + rm.cells) (slots + rm.slots) Q (F0 m (pc + 3) ls rest)) :
    W p l e R s m args below meth c H locs cells slots Q (F0 m pc ls st0) := by
  have hPc := subP hP isC hC
  have hFc := va_free (wc := wc) hD hS hA isC hC
  refine va_callv (va_runV (As := As) (rest := rest) (nL := nL) (b := b) ⟨hx, hb, hml, hown, hw⟩ hM (hv.cw hw hRm) ⟨pre_fb hfb, va_recv hK hPc (ci := ci) (q0 := q0) hcl he, pre_at hPc (hD.sub isC hdc hC) hG⟩ rfl rfl hsz hst (lv_room hrest) hdg hf) hS (fun q _ h => hFc q h) hFc (fun u t H1 locs1 ht hvm hp hB hz1 hk1 hS1 => ?_)
  obtain ⟨h1, h2⟩ := aft (locs1 := locs1) hP hD isC isR hC hR hn hdis hFc ht hB hk1
  exact kk u H1 locs1 hp h1 h2 hS1
theorem call_Si {y : MethodName} {cb : ByteArray} {n : Nat} {rt : Option FieldType} {rm : Room} {G : State → Prop} {wc wr : va_W} {As : List Value} {post : Int32 → va_W → Prop} {own : String} {idx : Nat}
    (hx : p.tables.exec = Jvm.exec) (hb : c.code = cc) (hml : c.maxLocals = nL) (hown : s.vm.findClass own = some m.cls) (hw : ∀ w ∈ wA, w.before args s = true) (hM : CI l y cb n rt rm G D wc H.size As post) (hv : SW own idx y cb n rt As.length) (hdg : decode cc pc = .ok (.invokestatic idx, 3))
    (hP : va_P D vwCl ws H) (hD : va_D A ws) (hS : va_S A H0 H locs) (hA : ∀ q : Nat, H0.size ≤ q → A q) (isC isR : List Nat) (hC : isC.map (fun i => ws[i]?) = wc.map some) (hR : isR.map (fun i => ws[i]?) = wr.map some) (hn : va_nd isR = true) (hdc : va_nd isC = true) (hdis : ∀ i ∈ isR, i ∉ isC)
    (hfb : ∀ (U : State) (g : JFrame) (mk : MethodId) (a : Array Value), G U → G (U.calling g mk a)) (hG : ∀ U : State, U.heap = H → s.WarmedH U.vm → G U)
    (hsz : ls.size = nL) (hst : st0 = As.reverse ++ rest) (hrest : (rest.map fun v => v.category).sum ≤ 8) (hRm : rm.frames + 1 ≤ R.frames ∧ 8 + (n + 11) + rm.locals ≤ R.locals) (hf : cells + rm.cells ≤ R.cells ∧ slots + rm.slots ≤ R.slots)
    (kk : ∀ (r : Int32) (u : va_W) (H1 : Heap) (locs1 : List Loc), post r u → va_P D vwCl (wr ++ u) H1 → va_D A (wr ++ u) → va_S A H0 H1 locs1 → W p l e R s m args below meth c H1 locs1 (cells + rm.cells) (slots + rm.slots) Q (F0 m (pc + 3) ls (.int r :: rest))) :
    W p l e R s m args below meth c H locs cells slots Q (F0 m pc ls st0) := by
  have hPc := subP hP isC hC
  have hFc := va_free (wc := wc) hD hS hA isC hC
  refine va_calli (va_runS (As := As) (rest := rest) (nL := nL) ⟨hx, hb, hml, hown, hw⟩ hM (hv.cw hw hRm) ⟨pre_fb hfb, pre_at hPc (hD.sub isC hdc hC) hG⟩ rfl rfl hsz hst (lv_room hrest) hdg hf) hS (fun q _ h => hFc q h) hFc (fun r u t H1 locs1 ht hvm hp hB hz1 hk1 hS1 => ?_)
  obtain ⟨h1, h2⟩ := aft (locs1 := locs1) hP hD isC isR hC hR hn hdis hFc ht hB hk1
  exact kk r u H1 locs1 hp h1 h2 hS1
theorem call_Sv {y : MethodName} {cb : ByteArray} {n : Nat} {rt : Option FieldType} {rm : Room} {G : State → Prop} {wc wr : va_W} {As : List Value} {post : va_W → Prop} {own : String} {idx : Nat}
    (hx : p.tables.exec = Jvm.exec) (hb : c.code = cc) (hml : c.maxLocals = nL) (hown : s.vm.findClass own = some m.cls) (hw : ∀ w ∈ wA, w.before args s = true) (hM : CV l y cb n rt rm G D wc H.size As post) (hv : SW own idx y cb n rt As.length) (hdg : decode cc pc = .ok (.invokestatic idx, 3))
    (hP : va_P D vwCl ws H) (hD : va_D A ws) (hS : va_S A H0 H locs) (hA : ∀ q : Nat, H0.size ≤ q → A q) (isC isR : List Nat) (hC : isC.map (fun i => ws[i]?) = wc.map some) (hR : isR.map (fun i => ws[i]?) = wr.map some) (hn : va_nd isR = true) (hdc : va_nd isC = true) (hdis : ∀ i ∈ isR, i ∉ isC)
    (hfb : ∀ (U : State) (g : JFrame) (mk : MethodId) (a : Array Value), G U → G (U.calling g mk a)) (hG : ∀ U : State, U.heap = H → s.WarmedH U.vm → G U)
    (hsz : ls.size = nL) (hst : st0 = As.reverse ++ rest) (hrest : (rest.map fun v => v.category).sum ≤ 8) (hRm : rm.frames + 1 ≤ R.frames ∧ 8 + (n + 11) + rm.locals ≤ R.locals) (hf : cells + rm.cells ≤ R.cells ∧ slots + rm.slots ≤ R.slots)
    (kk : ∀ (u : va_W) (H1 : Heap) (locs1 : List Loc), post u → va_P D vwCl (wr ++ u) H1 → va_D A (wr ++ u) → va_S A H0 H1 locs1 → W p l e R s m args below meth c H1 locs1 (cells + rm.cells) (slots + rm.slots) Q (F0 m (pc + 3) ls rest)) :
    W p l e R s m args below meth c H locs cells slots Q (F0 m pc ls st0) := by
  have hPc := subP hP isC hC
  have hFc := va_free (wc := wc) hD hS hA isC hC
  refine va_callv (va_runS (As := As) (rest := rest) (nL := nL) ⟨hx, hb, hml, hown, hw⟩ hM (hv.cw hw hRm) ⟨pre_fb hfb, pre_at hPc (hD.sub isC hdc hC) hG⟩ rfl rfl hsz hst (lv_room hrest) hdg hf) hS (fun q _ h => hFc q h) hFc (fun u t H1 locs1 ht hvm hp hB hz1 hk1 hS1 => ?_)
  obtain ⟨h1, h2⟩ := aft (locs1 := locs1) hP hD isC isR hC hR hn hdis hFc ht hB hk1
  exact kk u H1 locs1 hp h1 h2 hS1
theorem call_Iv {y : MethodName} {cb : ByteArray} {n : Nat} {rm : Room} {G : State → Prop} {wc wr : va_W} {b : Nat} {As : List Value} {post : va_W → Prop} {own : String} {idx : Nat}
    (hx : p.tables.exec = Jvm.exec) (hb : c.code = cc) (hml : c.maxLocals = nL) (hown : s.vm.findClass own = some m.cls) (hw : ∀ w ∈ wA, w.before args s = true) (hM : CV l y cb n none rm G D wc H.size (.ref b :: As) post) (hv : IW own idx y cb n As.length) (hdg : decode cc pc = .ok (.invokespecial idx, 3))
    (hP : va_P D vwCl ws H) (hD : va_D A ws) (hS : va_S A H0 H locs) (hA : ∀ q : Nat, H0.size ≤ q → A q) (isC isR : List Nat) (hC : isC.map (fun i => ws[i]?) = wc.map some) (hR : isR.map (fun i => ws[i]?) = wr.map some) (hn : va_nd isR = true) (hdc : va_nd isC = true) (hdis : ∀ i ∈ isR, i ∉ isC)
    (hfb : ∀ (U : State) (g : JFrame) (mk : MethodId) (a : Array Value), G U → G (U.calling g mk a)) (hG : ∀ U : State, U.heap = H → s.WarmedH U.vm → G U)
    (hsz : ls.size = nL) (hst : st0 = As.reverse ++ .ref b :: rest) (hrest : (rest.map fun v => v.category).sum ≤ 8) (hRm : rm.frames + 1 ≤ R.frames ∧ 8 + (n + 11) + rm.locals ≤ R.locals) (hf : cells + rm.cells ≤ R.cells ∧ slots + rm.slots ≤ R.slots)
    (kk : ∀ (u : va_W) (H1 : Heap) (locs1 : List Loc), post u → va_P D vwCl (wr ++ u) H1 → va_D A (wr ++ u) → va_S A H0 H1 locs1 → W p l e R s m args below meth c H1 locs1 (cells + rm.cells) (slots + rm.slots) Q (F0 m (pc + 3) ls rest)) :
    W p l e R s m args below meth c H locs cells slots Q (F0 m pc ls st0) := by
  have hPc := subP hP isC hC
  have hFc := va_free (wc := wc) hD hS hA isC hC
  refine va_callv (va_runI (As := As) (rest := rest) (nL := nL) (b := b) ⟨hx, hb, hml, hown, hw⟩ hM (hv.cw hw hRm) ⟨pre_fb hfb, pre_at hPc (hD.sub isC hdc hC) hG⟩ rfl rfl hsz hst (lv_room hrest) hdg hf) hS (fun q _ h => hFc q h) hFc (fun u t H1 locs1 ht hvm hp hB hz1 hk1 hS1 => ?_)
  obtain ⟨h1, h2⟩ := aft (locs1 := locs1) hP hD isC isR hC hR hn hdis hFc ht hB hk1
  exact kk u H1 locs1 hp h1 h2 hS1
theorem call_Nv {y : MethodName} {cb : ByteArray} {n : Nat} {rm : Room} {G : State → Prop} {wc wr : va_W} {b : Nat} {As : List Value} {post : va_W → Prop} {own host : String} {idx : Nat}
    (hx : p.tables.exec = Jvm.exec) (hb : c.code = cc) (hml : c.maxLocals = nL) (hown : s.vm.findClass own = some m.cls) (hw : ∀ w ∈ wA, w.before args s = true) (hM : CV l y cb n none rm G D wc H.size (.ref b :: As) post) (hv : NI y cb n As.length) (hl : va_Nw (.methodLinkNest own idx y host) s) (hdg : decode cc pc = .ok (.invokespecial idx, 3))
    (hP : va_P D vwCl ws H) (hD : va_D A ws) (hS : va_S A H0 H locs) (hA : ∀ q : Nat, H0.size ≤ q → A q) (isC isR : List Nat) (hC : isC.map (fun i => ws[i]?) = wc.map some) (hR : isR.map (fun i => ws[i]?) = wr.map some) (hn : va_nd isR = true) (hdc : va_nd isC = true) (hdis : ∀ i ∈ isR, i ∉ isC)
    (hfb : ∀ (U : State) (g : JFrame) (mk : MethodId) (a : Array Value), G U → G (U.calling g mk a)) (hG : ∀ U : State, U.heap = H → s.WarmedH U.vm → G U)
    (hsz : ls.size = nL) (hst : st0 = As.reverse ++ .ref b :: rest) (hrest : (rest.map fun v => v.category).sum ≤ 8) (hRm : rm.frames + 1 ≤ R.frames ∧ 8 + (n + 11) + rm.locals ≤ R.locals) (hf : cells + rm.cells ≤ R.cells ∧ slots + rm.slots ≤ R.slots)
    (kk : ∀ (u : va_W) (H1 : Heap) (locs1 : List Loc), post u → va_P D vwCl (wr ++ u) H1 → va_D A (wr ++ u) → va_S A H0 H1 locs1 → W p l e R s m args below meth c H1 locs1 (cells + rm.cells) (slots + rm.slots) Q (F0 m (pc + 3) ls rest)) :
    W p l e R s m args below meth c H locs cells slots Q (F0 m pc ls st0) := by
  have hPc := subP hP isC hC
  have hFc := va_free (wc := wc) hD hS hA isC hC
  refine va_callv (va_runIN (As := As) (rest := rest) (nL := nL) (b := b) ⟨hx, hb, hml, hown, hw⟩ hM (hv.cw hw hl hRm) ⟨pre_fb hfb, pre_at hPc (hD.sub isC hdc hC) hG⟩ rfl rfl hsz hst (lv_room hrest) hdg hf) hS (fun q _ h => hFc q h) hFc (fun u t H1 locs1 ht hvm hp hB hz1 hk1 hS1 => ?_)
  obtain ⟨h1, h2⟩ := aft (locs1 := locs1) hP hD isC isR hC hR hn hdis hFc ht hB hk1
  exact kk u H1 locs1 hp h1 h2 hS1
/-- a new array of a class that the tables' list has already -/
theorem newA (hx : p.tables.exec = Jvm.exec) (hb : c.code = cc) {atype : ArrayType} (harr : (Cond.arrayClass (newarray.typeOf atype)).before args s = true) {ty : FieldType} (hty : newarray.typeOf atype = ty) (hK : va_K D vwCl tys s) (t0 : Nat) {cA : ClassId} (ht : tys[t0]? = some (cA, ty)) (hno : ∀ C, ty ≠ .object C) (hP : va_P D vwCl ws H) (hD : va_D A ws) (hS : va_S A H0 H locs) (hA : ∀ q : Nat, H0.size ≤ q → A q)
    {n : Int32} {N' : Nat} {a0 : vp_A} (ha : ∀ cA : ClassId, vp_cell cA a0 = arrV cA N' (fun _ => defaultValue ty)) (hn : ¬ n < 0) (hN : n.toNatClampNeg = N') (hbytes : N' * componentBytes ty ≤ 536870912) (hcells : cells + 1 ≤ R.cells) (hslots : slots + N' ≤ R.slots) (hdg : decode cc pc = .ok (.newarray atype, 2))
    (kk : ∀ (q : Nat) (H1 : Heap), va_P D vwCl (ws ++ [(q, .inl (cA, a0))]) H1 → va_D A (ws ++ [(q, .inl (cA, a0))]) → va_S A H0 H1 locs →
      W p l e R s m args below meth c H1 locs (cells + 1) (slots + N') Q (F0 m (pc + 2) ls (.ref q :: rest))) : W p l e R s m args below meth c H locs cells slots Q (F0 m pc ls (.int n :: rest)) := by
  refine va_newa hx hb harr hty hK hP hD hS hA ha hn hN hbytes hcells hslots hdg (fun q cA' H1 hK1 hP1 hD1 hS1 => ?_)
  have h1 := (hK.2 t0 _ ht).2
  have h2 := (hK1.2 tys.length (cA', ty) (by simp)).2
  have e : cA' = cA := by
    cases ty <;> first | exact Option.some.inj (h2.symm.trans h1) | exact absurd rfl (hno _)
  subst e
  exact kk q H1 hP1 hD1 hS1
end WK
