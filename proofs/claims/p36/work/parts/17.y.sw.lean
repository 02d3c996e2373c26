section WS
variable {p : Program} {l : Launch} {e : Env} {R : Room} {s : State} {m : MethodId} {args : Array Value} {below : List Frame} {meth : Method} {c : Code} {H : Heap} {locs : List Loc} {cells slots mc ms : Nat} {Q : State → Prop} {cc : ByteArray} {pc nL : Nat} {ls : Array Slot} {rest st0 : List Value} {D : va_G} {A : Nat → Prop} {ws : va_W} {H0 : Heap}
theorem callT_SW {y : MethodName} {cb : ByteArray} {maxL n : Nat} {rt : Option FieldType} {hh : List (Nat × Nat × Nat × Nat)} {rm : Room} {G : State → Prop} {wc wr tl : va_W} {As : List Value} {post : Int32 → va_W → Prop} {own : String} {idx : Nat}
    (hx : p.tables.exec = Jvm.exec) (hb : c.code = cc) (hml : c.maxLocals = nL) (hown : s.vm.findClass own = some m.cls) (hw : ∀ w ∈ wA, w.before args s = true)
    (hM : Met l y (.codeWith y cb maxL rt hh :: wA) rm (PRE G D wc H.size As) (va_Qi post (PO D (va_A wc H.size)) (va_A wc H.size)) mc ms (va_A wc H.size)) (cw : vx_CSW R s args own idx y cb maxL rt hh (.codeWith y cb maxL rt hh :: wA) rm mc ms n) (hdg : decode cc pc = .ok (.invokestatic idx, 3))
    (hP : va_P D vwCl (ws ++ tl) H) (hD : va_D A (ws ++ tl)) (hS : va_S A H0 H locs) (hA : ∀ q : Nat, H0.size ≤ q → A q) (isC isR : List Nat) (hC : isC.map (fun i => ws[i]?) = wc.map some) (hR : isR.map (fun i => ws[i]?) = wr.map some) (hn : va_nd isR = true) (hdc : va_nd isC = true) (hdis : ∀ i ∈ isR, i ∉ isC)
    (hfb : ∀ (U : State) (g : JFrame) (mk : MethodId) (a : Array Value), G U → G (U.calling g mk a)) (hG : ∀ U : State, U.heap = H → s.WarmedH U.vm → G U)
    (hsz : ls.size = nL) (hlen : As.length = n) (hst : st0 = As.reverse ++ rest) (hrest : (rest.map fun v => v.category).sum ≤ 8) (hf : cells + mc ≤ R.cells ∧ slots + ms ≤ R.slots)
    (kk : ∀ (r : Int32) (u : va_W) (H1 : Heap) (locs1 : List Loc), post r u → va_P D vwCl ((wr ++ u) ++ tl) H1 → va_D A ((wr ++ u) ++ tl) → va_S A H0 H1 locs1 → W p l e R s m args below meth c H1 locs1 (cells + mc) (slots + ms) Q (F0 m (pc + 3) ls (.int r :: rest))) :
    W p l e R s m args below meth c H locs cells slots Q (F0 m pc ls st0) := by
  have e1 : isC.map (fun i => (ws ++ tl)[i]?) = wc.map some := tl_get hC
  have hPc : va_P D vwCl wc H := subP hP isC e1
  have hDc : va_D A wc := hD.sub isC hdc e1
  have hFc := va_free hD hS hA isC e1
  refine va_calli (vx_runSW (hh := hh) (bytes := cb) (maxL := maxL) (ret := rt) (n := n) (As := As) (rest := rest) (nL := nL) ⟨hx, hb, hml, hown, hw⟩ hM cw ⟨pre_fb hfb, pre_at hPc hDc hG⟩ rfl hlen hsz hst (lv_room hrest) hdg hf) hS (fun q _ h => hFc q h) hFc (fun r u t H1 locs1 ht hvm hp hB hz1 hk1 hS1 => ?_)
  obtain ⟨h1, h2⟩ := aftT (locs1 := locs1) hP hD isC isR hC hR hn hdis hFc ht hB hk1
  exact kk r u H1 locs1 hp h1 h2 hS1
end WS
