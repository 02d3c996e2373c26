/-! worlds by blocks: reordered, cut and joined whatever lies in them -/
theorem va_P.mem {D : va_G} {cl : List vw_C} {ws ws' : va_W} {H : Heap} (h : va_P D cl ws H) (hs : ∀ q ∈ ws', q ∈ ws) : va_P D cl ws' H := by
  intro k q hk
  obtain ⟨i, hi⟩ := List.getElem?_of_mem (hs q (List.mem_of_getElem? hk))
  exact h i q hi
theorem va_D_iff {A : Nat → Prop} {ws : va_W} : va_D A ws ↔ (ws.map Prod.fst).Nodup ∧ ∀ q ∈ ws, A q.1 := by
  constructor
  · intro h
    refine ⟨?_, fun q hq => ?_⟩
    · refine List.pairwise_iff_getElem.mpr (fun i j hi hj hij e => ?_)
      rw [List.length_map] at hi hj
      have := h.1 i j ws[i] ws[j] (List.getElem?_eq_getElem hi) (List.getElem?_eq_getElem hj) (by simpa using e)
      omega
    · obtain ⟨i, hi⟩ := List.getElem?_of_mem hq
      exact h.2 i q hi
  · rintro ⟨h1, h2⟩
    refine ⟨fun i j p q hi hj e => ?_, fun k q hk => h2 q (List.mem_of_getElem? hk)⟩
    obtain ⟨hi', ei⟩ := List.getElem?_eq_some_iff.mp hi
    obtain ⟨hj', ej⟩ := List.getElem?_eq_some_iff.mp hj
    have key : ∀ a b : Nat, (ha : a < ws.length) → (hb : b < ws.length) → ws[a].1 = ws[b].1 → ¬ a < b := fun a b ha hb e hab => by
      refine List.pairwise_iff_getElem.mp h1 a b (by rw [List.length_map]; exact ha) (by rw [List.length_map]; exact hb) hab ?_
      simpa using e
    have e' : ws[i].1 = ws[j].1 := by rw [ei, ej]; exact e
    have k1 := key i j hi' hj' e'
    have k2 := key j i hj' hi' e'.symm
    omega
theorem va_D.perm {A : Nat → Prop} {ws ws' : va_W} (h : va_D A ws) (hp : ws'.Perm ws) : va_D A ws' := by
  rw [va_D_iff] at h ⊢
  exact ⟨(hp.map Prod.fst).nodup_iff.mpr h.1, fun q hq => h.2 q (hp.mem_iff.mp hq)⟩
theorem va_P.perm {D : va_G} {cl : List vw_C} {ws ws' : va_W} {H : Heap} (h : va_P D cl ws H) (hp : ws'.Perm ws) : va_P D cl ws' H := h.mem (fun _ hq => hp.mem_iff.mp hq)
theorem blk_perm (bs : List va_W) (is : List Nat) (h : is.isPerm (List.range bs.length) = true) : (is.map (fun i => bs.getD i [])).flatten.Perm bs.flatten := by
  have h1 : is.Perm (List.range bs.length) := List.isPerm_iff.mp h
  have h2 := (h1.map (fun i => bs.getD i [])).flatten
  have e : (List.range bs.length).map (fun i => bs.getD i []) = bs := by
    apply List.ext_getElem?
    intro k
    rcases Nat.lt_or_ge k bs.length with hk | hk
    · rw [List.getElem?_map, List.getElem?_range hk, List.getElem?_eq_getElem hk]
      simp [List.getD, List.getElem?_eq_getElem hk]
    · rw [List.getElem?_eq_none (by rw [List.length_map, List.length_range]; exact hk), List.getElem?_eq_none hk]
  rw [e] at h2
  exact h2
theorem nd_iff : ∀ l : List Nat, va_nd l = true ↔ l.Nodup
  | [] => by simp [va_nd]
  | a :: l => by simp [va_nd, nd_iff l]
theorem pos_c (wc wr : va_W) : (List.range wc.length).map (fun i => (wc ++ wr)[i]?) = wc.map some := by
  apply List.ext_getElem?
  intro k
  rcases Nat.lt_or_ge k wc.length with hk | hk
  · rw [List.getElem?_map, List.getElem?_range hk, List.getElem?_map, List.getElem?_eq_getElem hk]
    simp [List.getElem?_append_left hk, List.getElem?_eq_getElem hk]
  · rw [List.getElem?_eq_none (by rw [List.length_map, List.length_range]; exact hk), List.getElem?_eq_none (by rw [List.length_map]; exact hk)]
theorem pos_r (wc wr : va_W) : ((List.range wr.length).map (fun i => wc.length + i)).map (fun i => (wc ++ wr)[i]?) = wr.map some := by
  apply List.ext_getElem?
  intro k
  rcases Nat.lt_or_ge k wr.length with hk | hk
  · rw [List.getElem?_map, List.getElem?_map, List.getElem?_range hk, List.getElem?_map, List.getElem?_eq_getElem hk]
    simp [List.getElem?_append_right, List.getElem?_eq_getElem hk]
  · rw [List.getElem?_eq_none (by rw [List.length_map, List.length_map, List.length_range]; exact hk), List.getElem?_eq_none (by rw [List.length_map]; exact hk)]
theorem pos_n (a b : Nat) : va_nd ((List.range b).map (fun i => a + i)) = true := by
  rw [nd_iff]
  refine List.pairwise_iff_getElem.mpr (fun i j hi hj hij => ?_)
  simp
  omega
theorem pos_n0 (b : Nat) : va_nd (List.range b) = true := (nd_iff _).mpr List.nodup_range
theorem pos_d (a b : Nat) : ∀ i ∈ (List.range b).map (fun i => a + i), i ∉ List.range a := by
  intro i hi
  simp at hi ⊢
  omega
/-- blocks that came back beside those that stayed, in another order -/
theorem blk_back {D : va_G} {A : Nat → Prop} {rs us : List va_W} {u : va_W} {H : Heap} (hP : va_P D vwCl (rs.flatten ++ u) H) (hD : va_D A (rs.flatten ++ u)) (hu : us.flatten = u) (is : List Nat) (hp : is.isPerm (List.range (rs ++ us).length) = true) : va_P D vwCl (is.map (fun i => (rs ++ us).getD i [])).flatten H ∧ va_D A (is.map (fun i => (rs ++ us).getD i [])).flatten := by
  subst hu
  rw [← List.flatten_append] at hP hD
  have q := blk_perm (rs ++ us) is hp
  exact ⟨hP.perm q, hD.perm q⟩
theorem tl_lt {ws wc : va_W} {is : List Nat} (h : is.map (fun i => ws[i]?) = wc.map some) : ∀ i ∈ is, i < ws.length := by
  intro i hi
  have h1 : ws[i]? ∈ is.map (fun i => ws[i]?) := List.mem_map.mpr ⟨i, hi, rfl⟩
  rw [h] at h1
  obtain ⟨q, -, e⟩ := List.mem_map.mp h1
  exact (List.getElem?_eq_some_iff.mp e.symm).1
theorem tl_get {ws wc tl : va_W} {is : List Nat} (h : is.map (fun i => ws[i]?) = wc.map some) : is.map (fun i => (ws ++ tl)[i]?) = wc.map some := by
  rw [← h]
  refine List.map_congr_left (fun i hi => ?_)
  exact List.getElem?_append_left (tl_lt h i hi)
theorem tl_nd {ws wr tl : va_W} {is : List Nat} (h : is.map (fun i => ws[i]?) = wr.map some) (hn : va_nd is = true) : va_nd (is ++ (List.range tl.length).map (fun i => ws.length + i)) = true := by
  rw [nd_iff] at hn ⊢
  refine List.nodup_append.mpr ⟨hn, (nd_iff _).mp (pos_n _ _), fun a ha b hb e => ?_⟩
  have h1 := tl_lt h a ha
  simp at hb
  omega
theorem tl_di {ws wc tl : va_W} {isC isR : List Nat} (h : isC.map (fun i => ws[i]?) = wc.map some) (hd : ∀ i ∈ isR, i ∉ isC) : ∀ i ∈ isR ++ (List.range tl.length).map (fun i => ws.length + i), i ∉ isC := by
  intro i hi hc
  rcases List.mem_append.mp hi with hi | hi
  · exact hd i hi hc
  · have h1 := tl_lt h i hc
    simp at hi
    omega
theorem tl_pm (wr u tl : va_W) : ((wr ++ u) ++ tl).Perm ((wr ++ tl) ++ u) := by
  rw [List.append_assoc, List.append_assoc]
  exact List.Perm.append_left wr List.perm_append_comm
theorem aftT {D : va_G} {A : Nat → Prop} {H H1 : Heap} {ws wc wr tl u : va_W} {t : State} {locs1 : List Loc} (hP : va_P D vwCl (ws ++ tl) H) (hD : va_D A (ws ++ tl)) (isC isR : List Nat) (hC : isC.map (fun i => ws[i]?) = wc.map some) (hR : isR.map (fun i => ws[i]?) = wr.map some) (hn : va_nd isR = true) (hdis : ∀ i ∈ isR, i ∉ isC) (hF : ∀ q, va_A wc H.size q → A q) (ht : t.heap = H1) (hB : PO D (va_A wc H.size) u t) (hk : ∀ q : Nat, q < H.size → ¬ va_A wc H.size q → H1[q]? = H[q]?) : va_P D vwCl ((wr ++ u) ++ tl) H1 ∧ va_D A ((wr ++ u) ++ tl) := by
  have e2 : (isR ++ (List.range tl.length).map (fun i => ws.length + i)).map (fun i => (ws ++ tl)[i]?) = (wr ++ tl).map some := by
    rw [List.map_append, List.map_append, tl_get hR, pos_r]
  obtain ⟨h1, h2⟩ := aft (locs1 := locs1) hP hD isC _ (tl_get hC) e2 (tl_nd hR hn) (tl_di hC hdis) hF ht hB hk
  exact ⟨h1.perm (tl_pm wr u tl), h2.perm (tl_pm wr u tl)⟩
section WT
variable {p : Program} {l : Launch} {e : Env} {R : Room} {s : State} {m : MethodId} {args : Array Value} {below : List Frame} {meth : Method} {c : Code} {H : Heap} {locs : List Loc} {cells slots mc ms : Nat} {Q : State → Prop} {cc : ByteArray} {pc nL : Nat} {ls : Array Slot} {rest st0 : List Value} {D : va_G} {A : Nat → Prop} {tys : List (ClassId × FieldType)} {ws : va_W} {H0 : Heap}
theorem callT_Vi {y : MethodName} {cb : ByteArray} {n : Nat} {rt : Option FieldType} {rm : Room} {G : State → Prop} {wc wr tl : va_W} {b : Nat} {As : List Value} {post : Int32 → va_W → Prop} {own : String} {idx : Nat}
    (hx : p.tables.exec = Jvm.exec) (hb : c.code = cc) (hml : c.maxLocals = nL) (hown : s.vm.findClass own = some m.cls) (hw : ∀ w ∈ wA, w.before args s = true) (hM : CI l y cb n rt rm G D wc H.size (.ref b :: As) post) (hv : VW own idx y cb n rt As.length) (hdg : decode cc pc = .ok (.invokevirtual idx, 3))
    (hK : va_K D vwCl tys s) (hP : va_P D vwCl (ws ++ tl) H) (hD : va_D A (ws ++ tl)) (hS : va_S A H0 H locs) (hA : ∀ q : Nat, H0.size ≤ q → A q) (isC isR : List Nat) (hC : isC.map (fun i => ws[i]?) = wc.map some) (hR : isR.map (fun i => ws[i]?) = wr.map some) (hn : va_nd isR = true) (hdc : va_nd isC = true) (hdis : ∀ i ∈ isR, i ∉ isC)
    (q0 ci : Nat) {T : u_T} {N : Nat} {fs : List Value} (hcl : vwCl[ci]? = some (y.cls, T, N)) (he : wc[q0]? = some (b, .inr (ci, fs)))
    (hfb : ∀ (U : State) (g : JFrame) (mk : MethodId) (a : Array Value), G U → G (U.calling g mk a)) (hG : ∀ U : State, U.heap = H → s.WarmedH U.vm → G U)
    (hsz : ls.size = nL) (hst : st0 = As.reverse ++ .ref b :: rest) (hrest : (rest.map fun v => v.category).sum ≤ 8) (hRm : rm.frames + 1 ≤ R.frames ∧ 8 + (n + 11) + rm.locals ≤ R.locals) (hf : cells + rm.cells ≤ R.cells ∧ slots + rm.slots ≤ R.slots)
    (kk : ∀ (r : Int32) (u : va_W) (H1 : Heap) (locs1 : List Loc), post r u → va_P D vwCl ((wr ++ u) ++ tl) H1 → va_D A ((wr ++ u) ++ tl) → va_S A H0 H1 locs1 → W p l e R s m args below meth c H1 locs1 (cells + rm.cells) (slots + rm.slots) Q (F0 m (pc + 3) ls (.int r :: rest))) :
    W p l e R s m args below meth c H locs cells slots Q (F0 m pc ls st0) := by
  have e1 : isC.map (fun i => (ws ++ tl)[i]?) = wc.map some := tl_get hC
  have e2 : (isR ++ (List.range tl.length).map (fun i => ws.length + i)).map (fun i => (ws ++ tl)[i]?) = (wr ++ tl).map some := by
    rw [List.map_append, List.map_append, tl_get hR, pos_r]
  refine call_Vi hx hb hml hown hw hM hv hdg hK hP hD hS hA isC (isR ++ (List.range tl.length).map (fun i => ws.length + i)) e1 e2 (tl_nd hR hn) hdc (tl_di hC hdis) q0 ci hcl he hfb hG hsz hst hrest hRm hf (fun r u H1 locs1 hp h1 h2 h3 => kk r u H1 locs1 hp (h1.perm (tl_pm wr u tl)) (h2.perm (tl_pm wr u tl)) h3)
theorem callT_Vv {y : MethodName} {cb : ByteArray} {n : Nat} {rt : Option FieldType} {rm : Room} {G : State → Prop} {wc wr tl : va_W} {b : Nat} {As : List Value} {post : va_W → Prop} {own : String} {idx : Nat}
    (hx : p.tables.exec = Jvm.exec) (hb : c.code = cc) (hml : c.maxLocals = nL) (hown : s.vm.findClass own = some m.cls) (hw : ∀ w ∈ wA, w.before args s = true) (hM : CV l y cb n rt rm G D wc H.size (.ref b :: As) post) (hv : VW own idx y cb n rt As.length) (hdg : decode cc pc = .ok (.invokevirtual idx, 3))
    (hK : va_K D vwCl tys s) (hP : va_P D vwCl (ws ++ tl) H) (hD : va_D A (ws ++ tl)) (hS : va_S A H0 H locs) (hA : ∀ q : Nat, H0.size ≤ q → A q) (isC isR : List Nat) (hC : isC.map (fun i => ws[i]?) = wc.map some) (hR : isR.map (fun i => ws[i]?) = wr.map some) (hn : va_nd isR = true) (hdc : va_nd isC = true) (hdis : ∀ i ∈ isR, i ∉ isC)
    (q0 ci : Nat) {T : u_T} {N : Nat} {fs : List Value} (hcl : vwCl[ci]? = some (y.cls, T, N)) (he : wc[q0]? = some (b, .inr (ci, fs)))
    (hfb : ∀ (U : State) (g : JFrame) (mk : MethodId) (a : Array Value), G U → G (U.calling g mk a)) (hG : ∀ U : State, U.heap = H → s.WarmedH U.vm → G U)
    (hsz : ls.size = nL) (hst : st0 = As.reverse ++ .ref b :: rest) (hrest : (rest.map fun v => v.category).sum ≤ 8) (hRm : rm.frames + 1 ≤ R.frames ∧ 8 + (n + 11) + rm.locals ≤ R.locals) (hf : cells + rm.cells ≤ R.cells ∧ slots + rm.slots ≤ R.slots)
    (kk : ∀ (u : va_W) (H1 : Heap) (locs1 : List Loc), post u → va_P D vwCl ((wr ++ u) ++ tl) H1 → va_D A ((wr ++ u) ++ tl) → va_S A H0 H1 locs1 → W p l e R s m args below meth c H1 locs1 (cells + rm.cells) (slots + rm.slots) Q (F0 m (pc + 3) ls rest)) :
    W p l e R s m args below meth c H locs cells slots Q (F0 m pc ls st0) := by
  have e1 : isC.map (fun i => (ws ++ tl)[i]?) = wc.map some := tl_get hC
  have e2 : (isR ++ (List.range tl.length).map (fun i => ws.length + i)).map (fun i => (ws ++ tl)[i]?) = (wr ++ tl).map some := by
    rw [List.map_append, List.map_append, tl_get hR, pos_r]
  refine call_Vv hx hb hml hown hw hM hv hdg hK hP hD hS hA isC (isR ++ (List.range tl.length).map (fun i => ws.length + i)) e1 e2 (tl_nd hR hn) hdc (tl_di hC hdis) q0 ci hcl he hfb hG hsz hst hrest hRm hf (fun u H1 locs1 hp h1 h2 h3 => kk u H1 locs1 hp (h1.perm (tl_pm wr u tl)) (h2.perm (tl_pm wr u tl)) h3)
end WT
