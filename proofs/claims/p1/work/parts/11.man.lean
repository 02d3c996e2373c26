theorem q_18 : (Jvm.Cond.initialized "java/util/NoSuchElementException") ∈ wA := inT 18 (by decide +kernel) (by decide +kernel)
theorem q_1143 : (Jvm.Cond.classLink "FourSledgeLaw" (13 : Nat) "java/util/NoSuchElementException") ∈ wA := inT 1143 (by decide +kernel) (by decide +kernel)
theorem q_1144 : (Jvm.Cond.methodLink "FourSledgeLaw" (7 : Nat) ({ cls := "FourSledge", name := "man", desc := "(II)I" } : Jvm.MethodName)) ∈ wA := inT 1144 (by decide +kernel) (by decide +kernel)
theorem q_1145 : (Jvm.Cond.instanceMethod ({ cls := "FourSledge", name := "man", desc := "(II)I" } : Jvm.MethodName)) ∈ wA := inT 1145 (by decide +kernel) (by decide +kernel)
theorem q_1146 : (Jvm.Cond.selects "FourSledge" ({ cls := "FourSledge", name := "man", desc := "(II)I" } : Jvm.MethodName) ({ cls := "FourSledge", name := "man", desc := "(II)I" } : Jvm.MethodName)) ∈ wA := inT 1146 (by decide +kernel) (by decide +kernel)
theorem q_1147 : (Jvm.Cond.code ({ cls := "FourSledge", name := "man", desc := "(II)I" } : Jvm.MethodName) prog_1_method_9_code (4 : Nat) (Option.some Jvm.ClassFile.FieldType.int)) ∈ wA := inT 1147 (by decide +kernel) (by decide +kernel)
theorem q_1148 : (Jvm.Cond.classLink "FourSledge" (156 : Nat) "java/util/NoSuchElementException") ∈ wA := inT 1148 (by decide +kernel) (by decide +kernel)
def xTx : String := "no such man or number"
abbrev atX : List Cond := tx_at RX9 160 "java/util/NoSuchElementException" 13 prog_29_method_4_code ["java/lang/RuntimeException", "java/lang/Exception"]
def wNX : List Cond := atX.filter (fun w => !goodWord w)
theorem atX_in : ∀ w ∈ atX.filter goodWord, w ∈ lw_tbl := by decide +kernel
theorem atX_good : ∀ w ∈ atX.filter goodWord, w ∈ wA := fun w h => List.mem_filter.mpr ⟨atX_in w h, (List.mem_filter.mp h).2⟩
theorem wNX_in : ∀ w ∈ wNX, w ∈ lw_tbl := by decide +kernel
theorem wNX_tab : ∀ w ∈ wNX, w.onTables = true := by decide +kernel
def kdX : Cond → Bool
  | .castable .. => true
  | .declares _ => true
  | _ => false
theorem wNX_kd : ∀ w ∈ wNX, kdX w = true := by decide +kernel
theorem wNX_c : Cond.castable "java/util/NoSuchElementException" "java/util/NoSuchElementException" ∈ wNX := by decide +kernel
theorem atX_ot : ∀ w ∈ Cond.classLink RX9 156 "java/util/NoSuchElementException" :: Cond.initialized "java/util/NoSuchElementException" :: atX, vx_ot w = true := by decide +kernel
theorem wNX_warm {s U : State} (hW : s.WarmedH U.vm) (h : ∀ w ∈ wNX, va_Nw w s) : ∀ w ∈ wNX, va_Nw w U := by
  intro w hw
  have h1 := h w hw
  have h2 := wNX_kd w hw
  cases w <;> first | exact va_Nw.warmC hW h1 | exact va_Nw.warmD hW h1 | exact absurd h2 (by simp [kdX])
def GX (D : va_G) (cI cJ cB cP cM cZ : ClassId) (z0 sa : Nat) (ws : va_W) (U : State) : Prop := GG D cI cJ cB cP cM cZ U ∧ z0 ≤ U.heap.size ∧ (∀ (k : Nat) (q : Nat × va_E), ws[k]? = some q → z0 ≤ q.1) ∧ (∀ w ∈ wNX, va_Nw w U) ∧ vk_R RX9 158 xTx sa U ∧ vx_Zq Bundle.tN "UNASSIGNED_STACK" Bundle.steD (fun q => z0 ≤ q) U U.heap ∧ vx_Zq Bundle.tN "SUPPRESSED_SENTINEL" Bundle.listD (fun q => z0 ≤ q) U U.heap
section GXS
variable {D : va_G} {cI cJ cB cP cM cZ : ClassId} {z0 sa : Nat} {ws wc : va_W} {s : State} {A : Nat → Prop} {H : Heap} {locs : List Loc}
theorem GX.hAz {sz : Nat} (h : GX D cI cJ cB cP cM cZ z0 sa ws s) (hAe : A = va_A ws sz) (hsz : s.heap.size = sz) : ∀ q, A q → z0 ≤ q := by
  intro q hq
  rw [hAe] at hq
  rcases hq with ⟨k, e, hk⟩ | hq
  · exact h.2.2.1 k _ hk
  · exact Nat.le_trans h.2.1 (by rw [hsz]; exact hq)
theorem GX.at (h : GX D cI cJ cB cP cM cZ z0 sa ws s) (hAz : ∀ q, A q → z0 ≤ q) (hS : va_S A s.heap H locs) (hDc : va_D A wc) : ∀ U : State, U.heap = H → s.WarmedH U.vm → GX D cI cJ cB cP cM cZ z0 sa wc U :=
  fun U hU hW => ⟨h.1.warm hW, by rw [hU]; exact Nat.le_trans h.2.1 hS.1, fun k q hq => hAz _ (hDc.2 k q hq), wNX_warm hW h.2.2.2.1, h.2.2.2.2.1.warm hW, by rw [hU]; exact (h.2.2.2.2.2.1.moved hW.alike).kept (fun a ha hn => hS.2.1 a ha (fun hA => hn (hAz a hA))), by rw [hU]; exact (h.2.2.2.2.2.2.moved hW.alike).kept (fun a ha hn => hS.2.1 a ha (fun hA => hn (hAz a hA)))⟩
theorem GX.fb (U : State) (g : JFrame) (mk : MethodId) (a : Array Value) (h : GX D cI cJ cB cP cM cZ z0 sa ws U) : GX D cI cJ cB cP cM cZ z0 sa ws (U.calling g mk a) :=
  ⟨GG.fb U g mk a h.1, h.2.1, h.2.2.1, fun w hw => va_Nw.same (u := U) (wNX_tab w hw) rfl (h.2.2.2.1 w hw), vk_R.same (u := U) rfl h.2.2.2.2.1, h.2.2.2.2.2.1.moved (u := U) (U := U.calling g mk a) (Vm.Alike.refl U.vm), h.2.2.2.2.2.2.moved (u := U) (U := U.calling g mk a) (Vm.Alike.refl U.vm)⟩
end GXS
theorem vx_mk {l : Launch} {y : MethodName} {cc : ByteArray} {n : Nat} {rt : Option FieldType} {rm : Room} {G : State → Prop} {D : va_G} {ws : va_W} {sz : Nat} {av : List Value} {Qf : (Nat → Prop) → Array Value → State → Outcome → State → Prop} {Xf : (Nat → Prop) → String → State → State → Prop} (hy : plainName y.cls = true) (hlen : (lg_sl av).length ≤ n)
    (h : ∀ (p : Program) (e : Env) (s : State) (m : MethodId) (below : List Frame) (meth : Method) (c : Code) (A : Nat → Prop) (ls : Array Slot), ENT p s m meth c y cc n rt av → (∀ x ∈ c.exceptionTable.toList, False) → A = va_A ws sz → G s → s.heap.size = sz → va_P D vwCl ws s.heap → va_D A ws → (∀ q : Nat, s.heap.size ≤ q → A q) → va_S A s.heap s.heap [] → lv_has ls n (lv_args 0 av) →
      W p l e rm s m av.toArray below meth c s.heap [] 0 0 (vx_MQ below (Qf A) (Xf A) av.toArray s rm.cells rm.slots A) (F0 m 0 ls [])) :
    vx_Met l y (.code y cc n rt :: wA) rm (PRE G D ws sz av) (Qf (va_A ws sz)) (Xf (va_A ws sz)) rm.cells rm.slots (va_A ws sz) := by
  refine vx_ofW (cc := cc) (maxL := n) (ret := rt) hy rfl ?_
  intro p e s m args below meth c s₁ B hml htab hv
  obtain ⟨rfl, hsz, hG, hP, hD0⟩ := hv
  have hts := atoms_spec (ws := .code y cc n rt :: wA) B.pre
  have hl := lv_entry av (n := n) hlen
  rw [lg_entry_eq]
  generalize (lg_sl av ++ List.replicate (n - (lg_sl av).length) Slot.unset).toArray = ls at hl ⊢
  exact h p e s m below meth c (va_A ws sz) ls ⟨B.exec, B.bytes, B.returns, fun w hw => hts w (List.mem_cons_of_mem _ hw), findClass_of_methodNamed B.named, B.notSynchronized, hml, (name_of_methodNamed B.named B.method).1⟩ htab rfl hG hsz hP (hD0.self (sz := sz)) (fun q hq => Or.inr (hsz ▸ hq)) va_S.rf hl
theorem dX9_man_0 : decode cX9_man 0 = .ok (.iload_n 1, 1) := by decide +kernel
theorem dX9_man_1 : decode cX9_man 1 = .ok (.ifCond .lt 23, 3) := by decide +kernel
theorem dX9_man_4 : decode cX9_man 4 = .ok (.iload_n 1, 1) := by decide +kernel
theorem dX9_man_5 : decode cX9_man 5 = .ok (.aload_n 0, 1) := by decide +kernel
theorem dX9_man_6 : decode cX9_man 6 = .ok (.getfield 64, 3) := by decide +kernel
theorem dX9_man_9 : decode cX9_man 9 = .ok (.getfield 153, 3) := by decide +kernel
theorem dX9_man_12 : decode cX9_man 12 = .ok (.if_icmp .ge 12, 3) := by decide +kernel
theorem dX9_man_15 : decode cX9_man 15 = .ok (.iload_n 2, 1) := by decide +kernel
theorem dX9_man_16 : decode cX9_man 16 = .ok (.ifCond .lt 8, 3) := by decide +kernel
theorem dX9_man_19 : decode cX9_man 19 = .ok (.iload_n 2, 1) := by decide +kernel
theorem dX9_man_20 : decode cX9_man 20 = .ok (.iconst 4, 1) := by decide +kernel
theorem dX9_man_21 : decode cX9_man 21 = .ok (.if_icmp .le 13, 3) := by decide +kernel
theorem dX9_man_24 : decode cX9_man 24 = .ok (.new 156, 3) := by decide +kernel
theorem dX9_man_27 : decode cX9_man 27 = .ok (.dup, 1) := by decide +kernel
theorem dX9_man_28 : decode cX9_man 28 = .ok (.ldc 158, 2) := by decide +kernel
theorem dX9_man_30 : decode cX9_man 30 = .ok (.invokespecial 160, 3) := by decide +kernel
theorem dX9_man_33 : decode cX9_man 33 = .ok (.athrow, 1) := by decide +kernel
theorem dX9_man_34 : decode cX9_man 34 = .ok (.iload_n 2, 1) := by decide +kernel
theorem dX9_man_35 : decode cX9_man 35 = .ok (.ifCond .ne 13, 3) := by decide +kernel
theorem dX9_man_38 : decode cX9_man 38 = .ok (.aload_n 0, 1) := by decide +kernel
theorem dX9_man_39 : decode cX9_man 39 = .ok (.getfield 64, 3) := by decide +kernel
theorem dX9_man_42 : decode cX9_man 42 = .ok (.getfield 163, 3) := by decide +kernel
theorem dX9_man_45 : decode cX9_man 45 = .ok (.iload_n 1, 1) := by decide +kernel
theorem dX9_man_46 : decode cX9_man 46 = .ok (.iaload, 1) := by decide +kernel
theorem dX9_man_47 : decode cX9_man 47 = .ok (.ireturn, 1) := by decide +kernel
theorem dX9_man_48 : decode cX9_man 48 = .ok (.iload_n 2, 1) := by decide +kernel
theorem dX9_man_49 : decode cX9_man 49 = .ok (.iconst 1, 1) := by decide +kernel
theorem dX9_man_50 : decode cX9_man 50 = .ok (.if_icmp .ne 13, 3) := by decide +kernel
theorem dX9_man_53 : decode cX9_man 53 = .ok (.aload_n 0, 1) := by decide +kernel
theorem dX9_man_54 : decode cX9_man 54 = .ok (.getfield 64, 3) := by decide +kernel
theorem dX9_man_57 : decode cX9_man 57 = .ok (.getfield 167, 3) := by decide +kernel
theorem dX9_man_60 : decode cX9_man 60 = .ok (.iload_n 1, 1) := by decide +kernel
theorem dX9_man_61 : decode cX9_man 61 = .ok (.iaload, 1) := by decide +kernel
theorem dX9_man_62 : decode cX9_man 62 = .ok (.ireturn, 1) := by decide +kernel
theorem dX9_man_63 : decode cX9_man 63 = .ok (.iload_n 2, 1) := by decide +kernel
theorem dX9_man_64 : decode cX9_man 64 = .ok (.iconst 2, 1) := by decide +kernel
theorem dX9_man_65 : decode cX9_man 65 = .ok (.if_icmp .ne 13, 3) := by decide +kernel
theorem dX9_man_68 : decode cX9_man 68 = .ok (.aload_n 0, 1) := by decide +kernel
theorem dX9_man_69 : decode cX9_man 69 = .ok (.getfield 64, 3) := by decide +kernel
theorem dX9_man_72 : decode cX9_man 72 = .ok (.getfield 170, 3) := by decide +kernel
theorem dX9_man_75 : decode cX9_man 75 = .ok (.iload_n 1, 1) := by decide +kernel
theorem dX9_man_76 : decode cX9_man 76 = .ok (.iaload, 1) := by decide +kernel
theorem dX9_man_77 : decode cX9_man 77 = .ok (.ireturn, 1) := by decide +kernel
theorem dX9_man_78 : decode cX9_man 78 = .ok (.aload_n 0, 1) := by decide +kernel
theorem dX9_man_79 : decode cX9_man 79 = .ok (.getfield 19, 3) := by decide +kernel
theorem dX9_man_82 : decode cX9_man 82 = .ok (.iload_n 1, 1) := by decide +kernel
theorem dX9_man_83 : decode cX9_man 83 = .ok (.invokevirtual 173, 3) := by decide +kernel
theorem dX9_man_86 : decode cX9_man 86 = .ok (.istore_n 3, 1) := by decide +kernel
theorem dX9_man_87 : decode cX9_man 87 = .ok (.iload_n 2, 1) := by decide +kernel
theorem dX9_man_88 : decode cX9_man 88 = .ok (.iconst 3, 1) := by decide +kernel
theorem dX9_man_89 : decode cX9_man 89 = .ok (.if_icmp .eq 8, 3) := by decide +kernel
theorem dX9_man_92 : decode cX9_man 92 = .ok (.iload_n 3, 1) := by decide +kernel
theorem dX9_man_93 : decode cX9_man 93 = .ok (.iconst (-1), 1) := by decide +kernel
theorem dX9_man_94 : decode cX9_man 94 = .ok (.if_icmp .ne 5, 3) := by decide +kernel
theorem dX9_man_97 : decode cX9_man 97 = .ok (.iload_n 3, 1) := by decide +kernel
theorem dX9_man_98 : decode cX9_man 98 = .ok (.ireturn, 1) := by decide +kernel
theorem dX9_man_99 : decode cX9_man 99 = .ok (.aload_n 0, 1) := by decide +kernel
theorem dX9_man_100 : decode cX9_man 100 = .ok (.getfield 19, 3) := by decide +kernel
theorem dX9_man_103 : decode cX9_man 103 = .ok (.getfield 177, 3) := by decide +kernel
theorem dX9_man_106 : decode cX9_man 106 = .ok (.iload_n 3, 1) := by decide +kernel
theorem dX9_man_107 : decode cX9_man 107 = .ok (.iaload, 1) := by decide +kernel
theorem dX9_man_108 : decode cX9_man 108 = .ok (.ireturn, 1) := by decide +kernel
theorem dL_man_0 : decode cL_man 0 = .ok (.aload_n 3, 1) := by decide +kernel
theorem dL_man_1 : decode cL_man 1 = .ok (.iconst 0, 1) := by decide +kernel
theorem dL_man_2 : decode cL_man 2 = .ok (.aload_n 0, 1) := by decide +kernel
theorem dL_man_3 : decode cL_man 3 = .ok (.iload_n 1, 1) := by decide +kernel
theorem dL_man_4 : decode cL_man 4 = .ok (.iload_n 2, 1) := by decide +kernel
theorem dL_man_5 : decode cL_man 5 = .ok (.invokevirtual 7, 3) := by decide +kernel
theorem dL_man_8 : decode cL_man 8 = .ok (.i2l, 1) := by decide +kernel
theorem dL_man_9 : decode cL_man 9 = .ok (.lastore, 1) := by decide +kernel
theorem dL_man_10 : decode cL_man 10 = .ok (.goto 7, 3) := by decide +kernel
theorem dL_man_13 : decode cL_man 13 = .ok (.astore 4, 2) := by decide +kernel
theorem dL_man_15 : decode cL_man 15 = .ok (.iconst 1, 1) := by decide +kernel
theorem dL_man_16 : decode cL_man 16 = .ok (.ireturn, 1) := by decide +kernel
theorem dL_man_17 : decode cL_man 17 = .ok (.iconst 0, 1) := by decide +kernel
theorem dL_man_18 : decode cL_man 18 = .ok (.ireturn, 1) := by decide +kernel
set_option maxHeartbeats 4000000 in
set_option maxRecDepth 100000 in
theorem x_X9_man (l : Launch) (hst : l.stackTraces = false) (D : va_G) (cI cJ cB cP cM cZ : ClassId) (z0 sa : Nat) (h0 : Nat) (p0 : Int32) (p1 : Int32) (h1 : Nat) (h2 : Nat) (h3 : Nat) (h4 : Nat) (h5 : Nat) (h6 : Nat) (h7 : Nat) (h8 : Nat) (h9 : Nat) (h10 : Nat) (h11 : Nat) (h12 : Nat) (h13 : Nat) (h14 : Nat) (h15 : Nat) (h16 : Nat) (h17 : Nat) (h18 : Nat) (h19 : Nat) (h20 : Nat) (h21 : Nat) (h22 : Nat) (h23 : Nat) (sz : Nat) : vx_Met l yX9_man (.code yX9_man cX9_man 4 (some .int) :: wA) { frames := 12, cells := 1, slots := 6, locals := 400 } (PRE (GX D cI cJ cB cP cM cZ z0 sa [(h0, .inr (9, [.ref h2, .ref h3, .ref h4, .ref h5, .ref h6, .ref h7, .ref h8, .ref h9, .ref h10, .ref h11, .ref h1, .null, .null, .null, .int 0, .int 0, .int 0, .int 0, .int 0])), (h1, .inr (1, [.int 0, .ref h12, .ref h13, .ref h14, .ref h15, .ref h16, .ref h17, .ref h18, .ref h19, .ref h20, .ref h21, .ref h22, .ref h23, .int 0, .int 0, .int 0, .int 0, .int 0]))]) D [(h0, .inr (9, [.ref h2, .ref h3, .ref h4, .ref h5, .ref h6, .ref h7, .ref h8, .ref h9, .ref h10, .ref h11, .ref h1, .null, .null, .null, .int 0, .int 0, .int 0, .int 0, .int 0])), (h1, .inr (1, [.int 0, .ref h12, .ref h13, .ref h14, .ref h15, .ref h16, .ref h17, .ref h18, .ref h19, .ref h20, .ref h21, .ref h22, .ref h23, .int 0, .int 0, .int 0, .int 0, .int 0]))] sz [.ref h0, .int p0, .int p1]) (va_Qi (fun (r : Int32) (u : va_W) => False) (PO D (va_A [(h0, .inr (9, [.ref h2, .ref h3, .ref h4, .ref h5, .ref h6, .ref h7, .ref h8, .ref h9, .ref h10, .ref h11, .ref h1, .null, .null, .null, .int 0, .int 0, .int 0, .int 0, .int 0])), (h1, .inr (1, [.int 0, .ref h12, .ref h13, .ref h14, .ref h15, .ref h16, .ref h17, .ref h18, .ref h19, .ref h20, .ref h21, .ref h22, .ref h23, .int 0, .int 0, .int 0, .int 0, .int 0]))] sz)) (va_A [(h0, .inr (9, [.ref h2, .ref h3, .ref h4, .ref h5, .ref h6, .ref h7, .ref h8, .ref h9, .ref h10, .ref h11, .ref h1, .null, .null, .null, .int 0, .int 0, .int 0, .int 0, .int 0])), (h1, .inr (1, [.int 0, .ref h12, .ref h13, .ref h14, .ref h15, .ref h16, .ref h17, .ref h18, .ref h19, .ref h20, .ref h21, .ref h22, .ref h23, .int 0, .int 0, .int 0, .int 0, .int 0]))] sz)) (vx_X (fun _ : Unit => True) (fun E _ _ => E = "java/util/NoSuchElementException") (va_A [(h0, .inr (9, [.ref h2, .ref h3, .ref h4, .ref h5, .ref h6, .ref h7, .ref h8, .ref h9, .ref h10, .ref h11, .ref h1, .null, .null, .null, .int 0, .int 0, .int 0, .int 0, .int 0])), (h1, .inr (1, [.int 0, .ref h12, .ref h13, .ref h14, .ref h15, .ref h16, .ref h17, .ref h18, .ref h19, .ref h20, .ref h21, .ref h22, .ref h23, .int 0, .int 0, .int 0, .int 0, .int 0]))] sz)) 1 6 (va_A [(h0, .inr (9, [.ref h2, .ref h3, .ref h4, .ref h5, .ref h6, .ref h7, .ref h8, .ref h9, .ref h10, .ref h11, .ref h1, .null, .null, .null, .int 0, .int 0, .int 0, .int 0, .int 0])), (h1, .inr (1, [.int 0, .ref h12, .ref h13, .ref h14, .ref h15, .ref h16, .ref h17, .ref h18, .ref h19, .ref h20, .ref h21, .ref h22, .ref h23, .int 0, .int 0, .int 0, .int 0, .int 0]))] sz) := by
  refine vx_mk (rm := { frames := 12, cells := 1, slots := 6, locals := 400 }) (Qf := fun A => va_Qi (fun (r : Int32) (u : va_W) => False) (PO D A) A) (Xf := fun A => vx_X (fun _ : Unit => True) (fun E _ _ => E = "java/util/NoSuchElementException") A) (by decide) (Nat.le_of_ble_eq_true rfl) ?_
  intro p e s m below meth c A ls E htab hAe hG hsz hP hD hA hS hl
  obtain ⟨hx, hb, hr, hw, hown, hlocks, hml, hnm⟩ := E
  have hK := hG.1.1
  have hAz := hG.hAz hAe hsz
  have hl : lv_has ls 4 [(0, .ref h0), (1, .int p0), (2, .int p1)] := hl
  refine lv_iload_n hx hb dX9_man_0 rfl (lv_at hl 1 rfl) ?_
  refine lv_if_lt (tgt := 24) hx hb dX9_man_1 (by decide) (fun c_1 => ?_) (fun c_1 => ?_)
  · exact tx_throw (ix := 13) (rx := prog_29_method_4_code) (names := ["java/lang/RuntimeException", "java/lang/Exception"]) (text := xTx) hx hb hst (by decide +kernel) (by decide +kernel) (by decide +kernel) (by decide +kernel) hown (by decide) (by decide) (hw _ q_1148) (hw _ q_18) hG.2.2.2.2.1 (vx_hat (fun w h => hw w (atX_good w h)) (fun w h => h) (fun w h => va_Nw.use (wNX_tab w h) (hG.2.2.2.1 w h))) atX_ot (hG.2.2.2.2.2.1.narrow hAz) (hG.2.2.2.2.2.2.narrow hAz) hS (hl.1.trans hml.symm) dX9_man_24 dX9_man_27 dX9_man_28 dX9_man_30 dX9_man_33 (fun x hx => (htab x hx).elim) (Nat.le_of_ble_eq_true rfl) (Nat.le_of_ble_eq_true rfl) (Nat.le_of_ble_eq_true rfl) (Nat.le_of_ble_eq_true rfl) hlocks (fun t _ h1 h2 => ⟨(), trivial, rfl, Nat.le_trans hS.1 h1, fun q hq hn => (h2 q (Nat.lt_of_lt_of_le hq hS.1)).trans (hS.2.1 q hq hn)⟩) hS.2.2 (Nat.le_of_ble_eq_true rfl) (Nat.le_of_ble_eq_true rfl)
  · refine lv_iload_n hx hb dX9_man_4 rfl (lv_at hl 1 rfl) ?_
    refine lv_aload_n hx hb dX9_man_5 rfl (lv_at hl 0 rfl) ?_
    refine va_get (D := D) (ci := 9) (v := .ref h1) (C := RX9) (T := TX9) (N := 19) hx hb hw inAX9 hown hK hP 0 rfl rfl 10 (by decide) (hw _ q_450) (fun _ h9 => h9) rfl dX9_man_6 ?_
    refine va_get (D := D) (ci := 1) (v := .int 0) (C := RX1) (T := TX1) (N := 18) hx hb hw inAX1 hown hK hP 1 rfl rfl 13 (by decide) (hw _ q_353) (fun _ h9 => h9) rfl dX9_man_9 ?_
    refine lv_icmp_ge (tgt := 24) hx hb dX9_man_12 (by decide) (fun c_2 => ?_) (fun c_2 => (False.elim (by have g0 := c_1; have g1 := c_2; simp only [Int32.lt_iff_toInt_lt, Int32.le_iff_toInt_le, ← Int32.toInt_inj, Int32.reduceToInt] at g0 g1; omega)))
    exact tx_throw (ix := 13) (rx := prog_29_method_4_code) (names := ["java/lang/RuntimeException", "java/lang/Exception"]) (text := xTx) hx hb hst (by decide +kernel) (by decide +kernel) (by decide +kernel) (by decide +kernel) hown (by decide) (by decide) (hw _ q_1148) (hw _ q_18) hG.2.2.2.2.1 (vx_hat (fun w h => hw w (atX_good w h)) (fun w h => h) (fun w h => va_Nw.use (wNX_tab w h) (hG.2.2.2.1 w h))) atX_ot (hG.2.2.2.2.2.1.narrow hAz) (hG.2.2.2.2.2.2.narrow hAz) hS (hl.1.trans hml.symm) dX9_man_24 dX9_man_27 dX9_man_28 dX9_man_30 dX9_man_33 (fun x hx => (htab x hx).elim) (Nat.le_of_ble_eq_true rfl) (Nat.le_of_ble_eq_true rfl) (Nat.le_of_ble_eq_true rfl) (Nat.le_of_ble_eq_true rfl) hlocks (fun t _ h1 h2 => ⟨(), trivial, rfl, Nat.le_trans hS.1 h1, fun q hq hn => (h2 q (Nat.lt_of_lt_of_le hq hS.1)).trans (hS.2.1 q hq hn)⟩) hS.2.2 (Nat.le_of_ble_eq_true rfl) (Nat.le_of_ble_eq_true rfl)
theorem wV_L_7_X9_man : VW RL 7 yX9_man cX9_man 4 (some .int) 2 := ⟨q_1147, q_1144, q_1145, q_1146, q_1, ⟨by decide, by decide, by decide +kernel⟩⟩
theorem wL_man_c : Cond.codeWith yL_man cL_man 5 (some .int) [(0, 10, 13, 13)] ∈ wA := inT 1142 (by decide +kernel) (by decide +kernel)
set_option maxHeartbeats 4000000 in
set_option maxRecDepth 100000 in
theorem c_L_man (l : Launch) (hst : l.stackTraces = false) (D : va_G) (cI cJ cB cP cM cZ : ClassId) (z0 sa : Nat) (h0 : Nat) (p0 : Int32) (p1 : Int32) (h1 : Nat) (h2 : Nat) (h3 : Nat) (h4 : Nat) (h5 : Nat) (h6 : Nat) (h7 : Nat) (h8 : Nat) (h9 : Nat) (h10 : Nat) (h11 : Nat) (h12 : Nat) (h13 : Nat) (h14 : Nat) (h15 : Nat) (h16 : Nat) (h17 : Nat) (h18 : Nat) (h19 : Nat) (h20 : Nat) (h21 : Nat) (h22 : Nat) (h23 : Nat) (ho : Nat) (sz : Nat) : Met l yL_man (.codeWith yL_man cL_man 5 (some .int) [(0, 10, 13, 13)] :: wA) { frames := 14, cells := 1, slots := 6, locals := 440 } (PRE (GX D cI cJ cB cP cM cZ z0 sa [(h0, .inr (9, [.ref h2, .ref h3, .ref h4, .ref h5, .ref h6, .ref h7, .ref h8, .ref h9, .ref h10, .ref h11, .ref h1, .null, .null, .null, .int 0, .int 0, .int 0, .int 0, .int 0])), (h1, .inr (1, [.int 0, .ref h12, .ref h13, .ref h14, .ref h15, .ref h16, .ref h17, .ref h18, .ref h19, .ref h20, .ref h21, .ref h22, .ref h23, .int 0, .int 0, .int 0, .int 0, .int 0])), (ho, .inl (cJ, 1, .inr (.inl (fun _ => 0))))]) D [(h0, .inr (9, [.ref h2, .ref h3, .ref h4, .ref h5, .ref h6, .ref h7, .ref h8, .ref h9, .ref h10, .ref h11, .ref h1, .null, .null, .null, .int 0, .int 0, .int 0, .int 0, .int 0])), (h1, .inr (1, [.int 0, .ref h12, .ref h13, .ref h14, .ref h15, .ref h16, .ref h17, .ref h18, .ref h19, .ref h20, .ref h21, .ref h22, .ref h23, .int 0, .int 0, .int 0, .int 0, .int 0])), (ho, .inl (cJ, 1, .inr (.inl (fun _ => 0))))] sz [.ref h0, .int p0, .int p1, .ref ho]) (va_Qi (fun (r : Int32) (u : va_W) => r = 1 ∧ u = []) (PO D (va_A [(h0, .inr (9, [.ref h2, .ref h3, .ref h4, .ref h5, .ref h6, .ref h7, .ref h8, .ref h9, .ref h10, .ref h11, .ref h1, .null, .null, .null, .int 0, .int 0, .int 0, .int 0, .int 0])), (h1, .inr (1, [.int 0, .ref h12, .ref h13, .ref h14, .ref h15, .ref h16, .ref h17, .ref h18, .ref h19, .ref h20, .ref h21, .ref h22, .ref h23, .int 0, .int 0, .int 0, .int 0, .int 0])), (ho, .inl (cJ, 1, .inr (.inl (fun _ => 0))))] sz)) (va_A [(h0, .inr (9, [.ref h2, .ref h3, .ref h4, .ref h5, .ref h6, .ref h7, .ref h8, .ref h9, .ref h10, .ref h11, .ref h1, .null, .null, .null, .int 0, .int 0, .int 0, .int 0, .int 0])), (h1, .inr (1, [.int 0, .ref h12, .ref h13, .ref h14, .ref h15, .ref h16, .ref h17, .ref h18, .ref h19, .ref h20, .ref h21, .ref h22, .ref h23, .int 0, .int 0, .int 0, .int 0, .int 0])), (ho, .inl (cJ, 1, .inr (.inl (fun _ => 0))))] sz)) 1 6 (va_A [(h0, .inr (9, [.ref h2, .ref h3, .ref h4, .ref h5, .ref h6, .ref h7, .ref h8, .ref h9, .ref h10, .ref h11, .ref h1, .null, .null, .null, .int 0, .int 0, .int 0, .int 0, .int 0])), (h1, .inr (1, [.int 0, .ref h12, .ref h13, .ref h14, .ref h15, .ref h16, .ref h17, .ref h18, .ref h19, .ref h20, .ref h21, .ref h22, .ref h23, .int 0, .int 0, .int 0, .int 0, .int 0])), (ho, .inl (cJ, 1, .inr (.inl (fun _ => 0))))] sz) := by
  refine va_MetW (cc := cL_man) (maxL := 5) (ret := some .int) (hh := [(0, 10, 13, 13)]) (by decide) rfl ?_
  intro p e s m args below meth c s₁ B hml hv
  obtain ⟨rfl, hsz, hG, hP, hD0⟩ := hv
  have hts := atoms_spec (ws := .codeWith yL_man cL_man 5 (some .int) [(0, 10, 13, 13)] :: wA) B.pre
  have hw : ∀ w ∈ wA, w.before _ s = true := fun w h => hts w (List.mem_cons_of_mem _ h)
  have htab := vx_table (x := yL_man) B (hts _ List.mem_cons_self)
  have hl := lv_entry [.ref h0, .int p0, .int p1, .ref ho] (n := 5) (Nat.le_of_ble_eq_true rfl)
  rw [lg_entry_eq]
  generalize (lg_sl [.ref h0, .int p0, .int p1, .ref ho] ++ List.replicate (5 - (lg_sl [.ref h0, .int p0, .int p1, .ref ho]).length) Slot.unset).toArray = ls at hl ⊢
  have hx := B.exec
  have hb := B.bytes
  have hr := B.returns
  have hlocks := B.notSynchronized
  have hown : s.vm.findClass RL = some m.cls := findClass_of_methodNamed B.named
  have hD := hD0.self (sz := sz)
  generalize hAe : va_A [(h0, .inr (9, [.ref h2, .ref h3, .ref h4, .ref h5, .ref h6, .ref h7, .ref h8, .ref h9, .ref h10, .ref h11, .ref h1, .null, .null, .null, .int 0, .int 0, .int 0, .int 0, .int 0])), (h1, .inr (1, [.int 0, .ref h12, .ref h13, .ref h14, .ref h15, .ref h16, .ref h17, .ref h18, .ref h19, .ref h20, .ref h21, .ref h22, .ref h23, .int 0, .int 0, .int 0, .int 0, .int 0])), (ho, .inl (cJ, 1, .inr (.inl (fun _ => 0))))] sz = A at hD ⊢
  have hA : ∀ q : Nat, s.heap.size ≤ q → A q := fun q h => by rw [← hAe]; exact Or.inr (hsz ▸ h)
  have hS : va_S A s.heap s.heap [] := va_S.rf
  have hAz := hG.hAz hAe.symm hsz
  have hK := hG.1.1
  have hl : lv_has ls 5 [(0, .ref h0), (1, .int p0), (2, .int p1), (3, .ref ho)] := hl
  refine lv_aload_n hx hb dL_man_0 rfl (lv_at hl 3 rfl) ?_
  refine lv_iconst (v := 0) hx hb dL_man_1 (by decide) ?_
  refine lv_aload_n hx hb dL_man_2 rfl (lv_at hl 0 rfl) ?_
  refine lv_iload_n hx hb dL_man_3 rfl (lv_at hl 1 rfl) ?_
  refine lv_iload_n hx hb dL_man_4 rfl (lv_at hl 2 rfl) ?_
  have hPc := hP.sub (ws' := [(h0, .inr (9, [.ref h2, .ref h3, .ref h4, .ref h5, .ref h6, .ref h7, .ref h8, .ref h9, .ref h10, .ref h11, .ref h1, .null, .null, .null, .int 0, .int 0, .int 0, .int 0, .int 0])), (h1, .inr (1, [.int 0, .ref h12, .ref h13, .ref h14, .ref h15, .ref h16, .ref h17, .ref h18, .ref h19, .ref h20, .ref h21, .ref h22, .ref h23, .int 0, .int 0, .int 0, .int 0, .int 0]))]) [0, 1] rfl
  have hDc := hD.sub (ws' := [(h0, .inr (9, [.ref h2, .ref h3, .ref h4, .ref h5, .ref h6, .ref h7, .ref h8, .ref h9, .ref h10, .ref h11, .ref h1, .null, .null, .null, .int 0, .int 0, .int 0, .int 0, .int 0])), (h1, .inr (1, [.int 0, .ref h12, .ref h13, .ref h14, .ref h15, .ref h16, .ref h17, .ref h18, .ref h19, .ref h20, .ref h21, .ref h22, .ref h23, .int 0, .int 0, .int 0, .int 0, .int 0]))]) [0, 1] (by decide) rfl
  have hFc := va_free (wc := [(h0, .inr (9, [.ref h2, .ref h3, .ref h4, .ref h5, .ref h6, .ref h7, .ref h8, .ref h9, .ref h10, .ref h11, .ref h1, .null, .null, .null, .int 0, .int 0, .int 0, .int 0, .int 0])), (h1, .inr (1, [.int 0, .ref h12, .ref h13, .ref h14, .ref h15, .ref h16, .ref h17, .ref h18, .ref h19, .ref h20, .ref h21, .ref h22, .ref h23, .int 0, .int 0, .int 0, .int 0, .int 0]))]) hD hS hA [0, 1] rfl
  refine vx_calli (vx_runV (As := [.int p0, .int p1]) (rest := [.int 0, .ref ho]) (nL := 5) (b := h0) ⟨hx, hb, hml, hown, hw⟩ (x_X9_man l hst D cI cJ cB cP cM cZ z0 sa h0 p0 p1 h1 h2 h3 h4 h5 h6 h7 h8 h9 h10 h11 h12 h13 h14 h15 h16 h17 h18 h19 h20 h21 h22 h23 s.heap.size) (wV_L_7_X9_man.cw hw ⟨(Nat.le_of_ble_eq_true rfl), (Nat.le_of_ble_eq_true rfl)⟩) ⟨pre_fb GX.fb, va_recv hK hPc (ci := 9) (q0 := 0) rfl rfl, pre_at hPc hDc (hG.at hAz hS hDc)⟩ rfl rfl hl.1 rfl (lv_room (Nat.le_of_ble_eq_true rfl)) dL_man_5 ⟨(Nat.le_of_ble_eq_true rfl), (Nat.le_of_ble_eq_true rfl)⟩) hS (fun q _ h => hFc q h) hFc (fun q _ h => hFc q h) (fun E ce q9 u t H1 locs1 ht hvm hpx hBX hz1 hk1 hS1 hce hcv hcl => ?_) (fun r u t H1 locs1 ht hvm hp hB hz1 hk1 hS1 => hp.elim)
  subst hBX
  refine vx_catch (own := RL) (name := "java/util/NoSuchElementException") hown [] ⟨0, 10, 13, 13⟩ [] htab (fun z hz => by cases hz) (by decide) (by decide) (hw _ q_1143) (va_Nw.use rfl (hG.2.2.2.1 _ wNX_c)) hce hcv hcl ?_
  refine lv_astore (lv' := [(4, .ref q9), (0, .ref h0), (1, .int p0), (2, .int p1), (3, .ref ho)]) hx hb dL_man_13 hl (by decide) rfl (fun ls hl => ?_)
  refine lv_iconst (v := 1) hx hb dL_man_15 (by decide) ?_
  exact ret_i (ws := []) (v := 1) hx hb hr hlocks hS1 (fun k q h => by simp at h) ⟨fun i j p q h => by simp at h, fun k q h => by simp at h⟩ dL_man_16 rfl (Nat.le_of_ble_eq_true rfl) (Nat.le_of_ble_eq_true rfl) ⟨rfl, rfl⟩
