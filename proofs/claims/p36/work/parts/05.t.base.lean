/-! objects as functions of the places of their fields -/
def vL (N : Nat) (F : Nat → Value) : List Value := (List.range N).map F
def vup (F : Nat → Value) (k : Nat) (v : Value) : Nat → Value := fun j => if j = k then v else F j
theorem vL_len {N : Nat} {F : Nat → Value} : (vL N F).length = N := by unfold vL; rw [List.length_map, List.length_range]
theorem vL_get {N k : Nat} {F : Nat → Value} {v : Value} (hk : k < N) (h : F k = v) : (vL N F)[k]? = some v := by
  unfold vL
  rw [List.getElem?_map, List.getElem?_range hk]
  exact congrArg some h
theorem vL_set {N k : Nat} {F : Nat → Value} {v : Value} : (vL N F).set k v = vL N (vup F k v) := by
  apply List.ext_getElem?
  intro j
  rcases Nat.lt_or_ge j N with hj | hj
  · rw [vL_get (F := vup F k v) hj rfl]
    by_cases e : k = j
    · subst e
      rw [List.getElem?_set_self (by rw [vL_len]; exact hj)]
      exact congrArg some (if_pos rfl).symm
    · rw [List.getElem?_set_ne e, vL_get hj rfl]
      exact congrArg some (if_neg (fun q => e q.symm)).symm
  · rw [List.getElem?_eq_none (by rw [List.length_set, vL_len]; exact hj), List.getElem?_eq_none (by rw [vL_len]; exact hj)]
theorem get_eq {F G : Nat → Value} {k : Nat} {v : Value} (e : G = vup F k v) : G k = v := by rw [e]; exact if_pos rfl
theorem get_ne {F G : Nat → Value} {k j : Nat} {v w : Value} (e : G = vup F k v) (hn : j ≠ k) (h : F j = w) : G j = w := by rw [e]; exact (if_neg hn).trans h
def SAME (ms : List Nat) (F G : Nat → Value) : Prop := ∀ j, j ∉ ms → G j = F j
theorem SAME.rf {ms : List Nat} {F : Nat → Value} : SAME ms F F := fun _ _ => rfl
theorem SAME.up {ms : List Nat} {F G G' : Nat → Value} {k : Nat} {v : Value} (e : G' = vup G k v) (h : SAME ms F G) (hk : k ∈ ms) : SAME ms F G' := fun j hj => by
  rw [e]
  have q : ¬ j = k := fun q => hj (by rw [q]; exact hk)
  exact (if_neg q).trans (h j hj)
theorem SAME.tr {ms ns : List Nat} {F G K : Nat → Value} (h : SAME ms F G) (h2 : SAME ns G K) (hs : ∀ x ∈ ns, x ∈ ms) : SAME ms F K := fun j hj => (h2 j (fun q => hj (hs j q))).trans (h j hj)
theorem SAME.at {ms : List Nat} {F G : Nat → Value} {j : Nat} {v : Value} (h : SAME ms F G) (hj : j ∉ ms) (e : F j = v) : G j = v := (h j hj).trans e
/-- a reference, or none -/
def RV (v : Value) : Prop := v = .null ∨ ∃ q : Nat, v = .ref q
theorem rv_nar {v : Value} {C : String} (h : RV v) : narrow (.object C) v = v := by rcases h with h | ⟨q, h⟩ <;> subst h <;> rfl
theorem rv_fit {v : Value} {C : String} (h : RV v) : fits (.object C) v = true := by rcases h with h | ⟨q, h⟩ <;> subst h <;> rfl
/-! ranges by terms -/
theorem ir_wk {a b a' b' : Int} {x : Int} (h : a ≤ x ∧ x ≤ b) (h1 : a' ≤ a) (h2 : b ≤ b') : a' ≤ x ∧ x ≤ b' := ⟨Int.le_trans h1 h.1, Int.le_trans h.2 h2⟩
theorem up_lt {x y b c : Int} (h : x < y) (hy : y ≤ b) (e : b ≤ c + 1) : x ≤ c := by omega
theorem lo_lt {x y a c : Int} (h : x < y) (hx : a ≤ x) (e : c ≤ a + 1) : c ≤ y := by omega
theorem bad_lt {x y a b : Int} (h : x < y) (hx : a ≤ x) (hy : y ≤ b) (e : b ≤ a) : False := by omega
theorem bad_le {x y a b : Int} (h : x ≤ y) (hx : a ≤ x) (hy : y ≤ b) (e : b < a) : False := by omega
theorem bad_ne {x y a b c d : Int} (h : x ≠ y) (hx : a ≤ x ∧ x ≤ b) (hy : c ≤ y ∧ y ≤ d) (e : a = b ∧ b = c ∧ c = d) : False := by omega
theorem ne_lo {x y a b c : Int} (h : x ≠ y) (hx : a ≤ x) (hy : b ≤ y ∧ y ≤ a) (e : c ≤ a + 1 ∧ a ≤ b) : c ≤ x := by omega
theorem ne_hi {x y a b c : Int} (h : x ≠ y) (hx : x ≤ a) (hy : a ≤ y ∧ y ≤ b) (e : a ≤ c + 1 ∧ b ≤ a) : x ≤ c := by omega
theorem lin_lo {v b c lo l : Int} (e : v = b + c) (h : lo ≤ v) (d : l + c ≤ lo) : l ≤ b := by omega
theorem lin_hi {v b c hi l : Int} (e : v = b + c) (h : v ≤ hi) (d : hi ≤ l + c) : b ≤ l := by omega
theorem lin_m {v b c : Int} (e : v = b - c) : v = b + (-c) := by omega
theorem lin_c {v b c : Int} (e : v = c + b) : v = b + c := by omega
theorem lt_dec {x a b : Int} (h : x ≤ a) (e : a < b) : x < b := by omega
theorem dec_lt {x a b : Int} (h : a ≤ x) (e : b < a) : b < x := by omega
theorem nz_k {x : Int32} {a b : Int} (h : a ≤ x.toInt ∧ x.toInt ≤ b) (e : 0 < a) : ¬ x = 0 := fun q => by
  have q2 := eq_i (a := x.toInt) (b := 0) rfl rfl q
  omega
theorem ix_k {i : Int32} {a b : Int} {n : Nat} (h : a ≤ i.toInt ∧ i.toInt ≤ b) (h0 : 0 ≤ a) (h1 : b < n) : vp_in i n := ix_i (Int.le_trans h0 h.1) (Int.lt_of_le_of_lt h.2 h1)
theorem add_k {x y : Int32} {a b l1 h1 l2 h2 : Int} (ea : x.toInt = a) (eb : y.toInt = b) (kx : l1 ≤ a ∧ a ≤ h1) (ky : l2 ≤ b ∧ b ≤ h2) (h : -2147483648 ≤ l1 + l2 ∧ h1 + h2 ≤ 2147483647) : (x + y).toInt = a + b := add_i ea eb (by omega) (by omega)
theorem sub_k {x y : Int32} {a b l1 h1 l2 h2 : Int} (ea : x.toInt = a) (eb : y.toInt = b) (kx : l1 ≤ a ∧ a ≤ h1) (ky : l2 ≤ b ∧ b ≤ h2) (h : -2147483648 ≤ l1 - h2 ∧ h1 - l2 ≤ 2147483647) : (x - y).toInt = a - b := sub_i ea eb (by omega) (by omega)
theorem add_r {v a b l1 h1 l2 h2 lo hi : Int} (e : v = a + b) (kx : l1 ≤ a ∧ a ≤ h1) (ky : l2 ≤ b ∧ b ≤ h2) (h : lo ≤ l1 + l2 ∧ h1 + h2 ≤ hi) : lo ≤ v ∧ v ≤ hi := by omega
theorem sub_r {v a b l1 h1 l2 h2 lo hi : Int} (e : v = a - b) (kx : l1 ≤ a ∧ a ≤ h1) (ky : l2 ≤ b ∧ b ≤ h2) (h : lo ≤ l1 - h2 ∧ h1 - l2 ≤ hi) : lo ≤ v ∧ v ≤ hi := by omega
theorem mulk_k {x y : Int32} {a k l h : Int} (ea : x.toInt = a) (ek : y.toInt = k) (k0 : 0 ≤ k) (kx : l ≤ a ∧ a ≤ h) (hh : -2147483648 ≤ l * k ∧ h * k ≤ 2147483647) : (x * y).toInt = a * k :=
  mul_i ea ek (Int.le_trans hh.1 (Int.mul_le_mul_of_nonneg_right kx.1 k0)) (Int.le_trans (Int.mul_le_mul_of_nonneg_right kx.2 k0) hh.2)
theorem kmul_k {x y : Int32} {a k l h : Int} (ek : x.toInt = k) (ea : y.toInt = a) (k0 : 0 ≤ k) (kx : l ≤ a ∧ a ≤ h) (hh : -2147483648 ≤ k * l ∧ k * h ≤ 2147483647) : (x * y).toInt = k * a :=
  mul_i ek ea (Int.le_trans hh.1 (Int.mul_le_mul_of_nonneg_left kx.1 k0)) (Int.le_trans (Int.mul_le_mul_of_nonneg_left kx.2 k0) hh.2)
theorem mulk_r {v a k l h lo hi : Int} (e : v = a * k) (k0 : 0 ≤ k) (kx : l ≤ a ∧ a ≤ h) (hh : lo ≤ l * k ∧ h * k ≤ hi) : lo ≤ v ∧ v ≤ hi := by
  rw [e]
  exact ⟨Int.le_trans hh.1 (Int.mul_le_mul_of_nonneg_right kx.1 k0), Int.le_trans (Int.mul_le_mul_of_nonneg_right kx.2 k0) hh.2⟩
theorem kmul_r {v a k l h lo hi : Int} (e : v = k * a) (k0 : 0 ≤ k) (kx : l ≤ a ∧ a ≤ h) (hh : lo ≤ k * l ∧ k * h ≤ hi) : lo ≤ v ∧ v ≤ hi := by
  rw [e]
  exact ⟨Int.le_trans hh.1 (Int.mul_le_mul_of_nonneg_left kx.1 k0), Int.le_trans (Int.mul_le_mul_of_nonneg_left kx.2 k0) hh.2⟩
theorem div_r {v a d l h lo hi : Int} (e : v = a / d) (kx : l ≤ a ∧ a ≤ h) (hh : 0 < d ∧ lo ≤ l / d ∧ h / d ≤ hi) : lo ≤ v ∧ v ≤ hi := by
  rw [e]
  exact ⟨Int.le_trans hh.2.1 (Int.ediv_le_ediv hh.1 kx.1), Int.le_trans (Int.ediv_le_ediv hh.1 kx.2) hh.2.2⟩
theorem divv_k {x y : Int32} {ah bl hi : Int} (h0 : 0 ≤ x.toInt) (h1 : x.toInt ≤ ah) (h2 : bl ≤ y.toInt) (h : 0 < bl ∧ ah / bl ≤ hi) : 0 ≤ (x / y).toInt ∧ (x / y).toInt ≤ hi := by
  have hy : 0 < y.toInt := Int.lt_of_lt_of_le h.1 h2
  rw [div_i rfl rfl h0 hy]
  refine ⟨Int.ediv_nonneg h0 (Int.le_of_lt hy), Int.le_trans (Int.le_trans (Int.ediv_le_ediv hy h1) ?_) h.2⟩
  have ha : 0 ≤ ah := Int.le_trans h0 h1
  have q : ah / y.toInt * bl ≤ ah := Int.le_trans (Int.mul_le_mul_of_nonneg_left h2 (Int.ediv_nonneg ha (Int.le_of_lt hy))) (Int.ediv_mul_le _ (by omega))
  exact (Int.le_ediv_iff_mul_le h.1).mpr q
theorem rem_r {v a d hi : Int} (e : v = a % d) (hh : 0 < d ∧ d ≤ hi + 1) : 0 ≤ v ∧ v ≤ hi := by
  rw [e]
  have h1 := Int.emod_nonneg a (b := d) (by omega)
  have h2 := Int.emod_lt_of_pos a hh.1
  omega
theorem mmin_k {x y : Int32} {a b l1 h1 l2 h2 lo hi : Int} (ea : x.toInt = a) (eb : y.toInt = b) (kx : l1 ≤ a ∧ a ≤ h1) (ky : l2 ≤ b ∧ b ≤ h2) (h : (lo ≤ l1 ∧ lo ≤ l2) ∧ (h1 ≤ hi ∨ h2 ≤ hi)) : lo ≤ (if y < x then y else x).toInt ∧ (if y < x then y else x).toInt ≤ hi := by
  by_cases q : y < x
  · rw [if_pos q]; have := lt_i eb ea q; omega
  · rw [if_neg q]; have := nlt_i eb ea q; omega
theorem mmax_k {x y : Int32} {a b l1 h1 l2 h2 lo hi : Int} (ea : x.toInt = a) (eb : y.toInt = b) (kx : l1 ≤ a ∧ a ≤ h1) (ky : l2 ≤ b ∧ b ≤ h2) (h : (lo ≤ l1 ∨ lo ≤ l2) ∧ (h1 ≤ hi ∧ h2 ≤ hi)) : lo ≤ (if x < y then y else x).toInt ∧ (if x < y then y else x).toInt ≤ hi := by
  by_cases q : x < y
  · rw [if_pos q]; have := lt_i ea eb q; omega
  · rw [if_neg q]; have := nlt_i ea eb q; omega
theorem shx_dec : ∀ a, a < 16 → 0 ≤ ((nI a) <<< ((1 : Int32) &&& 31)).toInt ∧ ((nI a) <<< ((1 : Int32) &&& 31)).toInt ≤ 30 := by decide +kernel
theorem shx_i {x : Int32} (h1 : 0 ≤ x.toInt) (h2 : x.toInt ≤ 15) : 0 ≤ (x <<< ((1 : Int32) &&& 31)).toInt ∧ (x <<< ((1 : Int32) &&& 31)).toInt ≤ 30 := by
  obtain ⟨n, en, -, tn⟩ := ni_of h1
  rw [en]
  exact shx_dec n (by omega)
theorem shr_dec : ∀ a, a < 32 → 0 ≤ ((nI a) >>> ((1 : Int32) &&& 31)).toInt ∧ ((nI a) >>> ((1 : Int32) &&& 31)).toInt ≤ 15 := by decide +kernel
theorem shr_i {x : Int32} (h1 : 0 ≤ x.toInt) (h2 : x.toInt ≤ 31) : 0 ≤ (x >>> ((1 : Int32) &&& 31)).toInt ∧ (x >>> ((1 : Int32) &&& 31)).toInt ≤ 15 := by
  obtain ⟨n, en, -, tn⟩ := ni_of h1
  rw [en]
  exact shr_dec n (by omega)
theorem or32_dec : ∀ a, a < 32 → ∀ b, b < 32 → 0 ≤ (nI a ||| nI b).toInt ∧ (nI a ||| nI b).toInt ≤ 31 := by decide +kernel
theorem or32_ik {x y : Int32} (h1 : 0 ≤ x.toInt ∧ x.toInt ≤ 31) (h3 : 0 ≤ y.toInt ∧ y.toInt ≤ 31) : 0 ≤ (x ||| y).toInt ∧ (x ||| y).toInt ≤ 31 := by
  obtain ⟨n, en, -, tn⟩ := ni_of h1.1
  obtain ⟨k, ek, -, tk⟩ := ni_of h3.1
  rw [en, ek]
  exact or32_dec n (by omega) k (by omega)
theorem or_ik {x y : Int32} (h1 : 0 ≤ x.toInt ∧ x.toInt ≤ 15) (h3 : 0 ≤ y.toInt ∧ y.toInt ≤ 15) : 0 ≤ (x ||| y).toInt ∧ (x ||| y).toInt ≤ 15 := or_i h1.1 h1.2 h3.1 h3.2
theorem SG.cp {a b : Nat} {lo hi : Int} {f g : Nat → Int32} {n : Nat} (h : SG a b lo hi f) (hb : b < n) : SG a b lo hi (va_cpy f g 0 0 n) := by
  intro j h1 h2
  have e : va_cpy f g 0 0 n j = f j := by
    unfold va_cpy
    rw [if_pos (by omega)]
    exact congrArg f (by omega)
  rw [e]
  exact h j h1 h2
theorem SG.cp2 {a b : Nat} {lo hi : Int} {f g : Nat → Int32} {n : Nat} (h : SG a b lo hi g) (hb : n ≤ a) : SG a b lo hi (va_cpy f g 0 0 n) := by
  intro j h1 h2
  have e : va_cpy f g 0 0 n j = g j := by
    unfold va_cpy
    exact if_neg (by omega)
  rw [e]
  exact h j h1 h2
/-- the first n are all x -/
def FILK (g : Nat → Int32) (x : Int32) (n : Int) : Prop := ∀ j : Nat, (j : Int) < n → g j = x
theorem FILK.zero {g : Nat → Int32} {x : Int32} {n : Int} (h : n ≤ 0) : FILK g x n := fun j hj => by omega
theorem FILK.mono {g : Nat → Int32} {x : Int32} {n n' : Int} (h : FILK g x n) (hn : n' ≤ n) : FILK g x n' := fun j hj => h j (by omega)
theorem FILK.step {f g : Nat → Int32} {x : Int32} {n n' : Int} (h : FILK f x n) {i : Int32} (e : upd f i.toNatClampNeg x = g) (h0 : 0 ≤ n) (hi : i.toInt = n) (hn : n' = n + 1) : FILK g x n' := by
  subst e
  rw [cl_nat]
  intro j hj
  by_cases ej : j = i.toInt.toNat
  · subst ej; rw [pk_us]
  · rw [pk_un ej]; exact h j (by omega)
theorem FILK.sg {g : Nat → Int32} {x : Int32} {a b : Nat} {lo hi : Int} {n : Int} (h : FILK g x n) (hb : (b : Int) < n) (hx : lo ≤ x.toInt ∧ x.toInt ≤ hi) : SG a b lo hi g := fun j _ h2 => by rw [h j (by omega)]; exact hx
section GF
variable {p : Program} {l : Launch} {e : Env} {R : Room} {s : State} {m : MethodId} {args : Array Value} {below : List Frame} {meth : Method} {c : Code} {H : Heap} {locs : List Loc} {cells slots mc ms : Nat} {Q : State → Prop} {cc : ByteArray} {pc nL : Nat} {ls : Array Slot} {rest st0 : List Value} {D : va_G} {A : Nat → Prop} {tys : List (ClassId × FieldType)} {ws : va_W} {H0 : Heap} {a : Nat}
theorem lv_cv {x y : Value} (h : x = y) (k : W p l e R s m args below meth c H locs cells slots Q (F0 m pc ls (y :: rest))) : W p l e R s m args below meth c H locs cells slots Q (F0 m pc ls (x :: rest)) := h ▸ k
theorem get_f (hx : p.tables.exec = Jvm.exec) (hb : c.code = cc) {own ref C : String} {T : u_T} {N ci index : Nat} {Ts : List Cond} (hts : ∀ w ∈ Ts, w.before args s = true) (hin : ∀ w ∈ u_ws C T N, w ∈ Ts) (hown : s.vm.findClass own = some m.cls) (hK : va_K D vwCl tys s) (hP : va_P D vwCl ws H) (q0 : Nat) {F : Nat → Value} (he : ws[q0]? = some (a, .inr (ci, vL N F))) (hc : vwCl[ci]? = some (C, T, N)) (k : Nat) (hk : k < N) (hlink : (Cond.fieldLink own index ref (T k).2.1 (T k).2.2.1).before args s = true) (hsame : ∀ x, s.fieldFound? (T k).1 (T k).2.1 (T k).2.2.1 = some x → s.fieldFound? ref (T k).2.1 (T k).2.2.1 = some x) {v : Value} (hv : F k = v) (hdg : decode cc pc = .ok (.getfield index, 3))
    (kk : W p l e R s m args below meth c H locs cells slots Q (F0 m (pc + 3) ls (v :: rest))) : W p l e R s m args below meth c H locs cells slots Q (F0 m pc ls (.ref a :: rest)) :=
  va_get hx hb hts hin hown hK hP q0 he hc k hk hlink hsame (vL_get hk hv) hdg kk
theorem get_fN (hx : p.tables.exec = Jvm.exec) (hb : c.code = cc) {own ref C host : String} {T : u_T} {N ci index : Nat} {Ts : List Cond} (hts : ∀ w ∈ Ts, w.before args s = true) (hin : ∀ w ∈ u_ws C T N, w ∈ Ts) (hown : s.vm.findClass own = some m.cls) (hK : va_K D vwCl tys s) (hP : va_P D vwCl ws H) (q0 : Nat) {F : Nat → Value} (he : ws[q0]? = some (a, .inr (ci, vL N F))) (hc : vwCl[ci]? = some (C, T, N)) (k : Nat) (hk : k < N) (hlink : (Cond.fieldLinkNest own index ref (T k).2.1 (T k).2.2.1 host).before args s = true) (hsame : ∀ x, s.fieldFound? (T k).1 (T k).2.1 (T k).2.2.1 = some x → s.fieldFound? ref (T k).2.1 (T k).2.2.1 = some x) {v : Value} (hv : F k = v) (hdg : decode cc pc = .ok (.getfield index, 3))
    (kk : W p l e R s m args below meth c H locs cells slots Q (F0 m (pc + 3) ls (v :: rest))) : W p l e R s m args below meth c H locs cells slots Q (F0 m pc ls (.ref a :: rest)) :=
  va_getN hx hb hts hin hown hK hP q0 he hc k hk hlink hsame (vL_get hk hv) hdg kk
theorem put_f (hx : p.tables.exec = Jvm.exec) (hb : c.code = cc) {own ref C : String} {T : u_T} {N ci index : Nat} {Ts : List Cond} (hts : ∀ w ∈ Ts, w.before args s = true) (hin : ∀ w ∈ u_ws C T N, w ∈ Ts) (ty0 : Nat → FieldType) (hty : ∀ k, k < N → parseFieldDescriptor (T k).2.2.1 = some (ty0 k)) (hnm : ∀ a, a < N → ∀ b, b < N → a ≠ b → (T a).2.1 ≠ (T b).2.1) (hown : s.vm.findClass own = some m.cls) (hK : va_K D vwCl tys s) (hP : va_P D vwCl ws H) (hD : va_D A ws) (hS : va_S A H0 H locs) (q0 : Nat) {F : Nat → Value} (he : ws[q0]? = some (a, .inr (ci, vL N F))) (hc : vwCl[ci]? = some (C, T, N)) (k : Nat) (hk : k < N) (hlink : (Cond.fieldLink own index ref (T k).2.1 (T k).2.2.1).before args s = true) (hsame : ∀ x, s.fieldFound? (T k).1 (T k).2.1 (T k).2.2.1 = some x → s.fieldFound? ref (T k).2.1 (T k).2.2.1 = some x) (hfin : (T k).2.2.2 = false) {ty : FieldType} {v : Value} (hd : parseFieldDescriptor (T k).2.2.1 = some ty) (hn : narrow ty v = v) (hfit : fits ty v = true) (hdg : decode cc pc = .ok (.putfield index, 3))
    (kk : ∀ (H1 : Heap) (locs1 : List Loc) (G : Nat → Value), G = vup F k v → va_P D vwCl (ws.set q0 (a, .inr (ci, vL N G))) H1 → va_D A (ws.set q0 (a, .inr (ci, vL N G))) → va_S A H0 H1 locs1 → W p l e R s m args below meth c H1 locs1 cells slots Q (F0 m (pc + 3) ls rest)) : W p l e R s m args below meth c H locs cells slots Q (F0 m pc ls (v :: .ref a :: rest)) :=
  va_put hx hb hts hin ty0 hty hnm hown hK hP hD hS q0 he hc k hk hlink hsame hfin hd hn hfit (by rw [vL_len]; exact hk) hdg (fun H1 locs1 h1 h2 h3 => kk H1 locs1 _ rfl (by rw [← vL_set]; exact h1) (by rw [← vL_set]; exact h2) h3)
theorem put_fN (hx : p.tables.exec = Jvm.exec) (hb : c.code = cc) {own ref C host : String} {T : u_T} {N ci index : Nat} {Ts : List Cond} (hts : ∀ w ∈ Ts, w.before args s = true) (hin : ∀ w ∈ u_ws C T N, w ∈ Ts) (ty0 : Nat → FieldType) (hty : ∀ k, k < N → parseFieldDescriptor (T k).2.2.1 = some (ty0 k)) (hnm : ∀ a, a < N → ∀ b, b < N → a ≠ b → (T a).2.1 ≠ (T b).2.1) (hown : s.vm.findClass own = some m.cls) (hK : va_K D vwCl tys s) (hP : va_P D vwCl ws H) (hD : va_D A ws) (hS : va_S A H0 H locs) (q0 : Nat) {F : Nat → Value} (he : ws[q0]? = some (a, .inr (ci, vL N F))) (hc : vwCl[ci]? = some (C, T, N)) (k : Nat) (hk : k < N) (hlink : (Cond.fieldLinkNest own index ref (T k).2.1 (T k).2.2.1 host).before args s = true) (hsame : ∀ x, s.fieldFound? (T k).1 (T k).2.1 (T k).2.2.1 = some x → s.fieldFound? ref (T k).2.1 (T k).2.2.1 = some x) (hfin : (T k).2.2.2 = false) {ty : FieldType} {v : Value} (hd : parseFieldDescriptor (T k).2.2.1 = some ty) (hn : narrow ty v = v) (hfit : fits ty v = true) (hdg : decode cc pc = .ok (.putfield index, 3))
    (kk : ∀ (H1 : Heap) (locs1 : List Loc) (G : Nat → Value), G = vup F k v → va_P D vwCl (ws.set q0 (a, .inr (ci, vL N G))) H1 → va_D A (ws.set q0 (a, .inr (ci, vL N G))) → va_S A H0 H1 locs1 → W p l e R s m args below meth c H1 locs1 cells slots Q (F0 m (pc + 3) ls rest)) : W p l e R s m args below meth c H locs cells slots Q (F0 m pc ls (v :: .ref a :: rest)) :=
  va_putN hx hb hts hin ty0 hty hnm hown hK hP hD hS q0 he hc k hk hlink hsame hfin hd hn hfit (by rw [vL_len]; exact hk) hdg (fun H1 locs1 h1 h2 h3 => kk H1 locs1 _ rfl (by rw [← vL_set]; exact h1) (by rw [← vL_set]; exact h2) h3)
theorem put_fF (hx : p.tables.exec = Jvm.exec) (hb : c.code = cc) {own ref C : String} {T : u_T} {N ci index : Nat} {Ts : List Cond} (hts : ∀ w ∈ Ts, w.before args s = true) (hin : ∀ w ∈ u_ws C T N, w ∈ Ts) (ty0 : Nat → FieldType) (hty : ∀ k, k < N → parseFieldDescriptor (T k).2.2.1 = some (ty0 k)) (hnm : ∀ a, a < N → ∀ b, b < N → a ≠ b → (T a).2.1 ≠ (T b).2.1) (hown : s.vm.findClass own = some m.cls) (hK : va_K D vwCl tys s) (hP : va_P D vwCl ws H) (hD : va_D A ws) (hS : va_S A H0 H locs) (q0 : Nat) {F : Nat → Value} (he : ws[q0]? = some (a, .inr (ci, vL N F))) (hc : vwCl[ci]? = some (C, T, N)) (k : Nat) (hk : k < N) (hlink : (Cond.fieldLink own index ref (T k).2.1 (T k).2.2.1).before args s = true) (hsame : ∀ x, s.fieldFound? (T k).1 (T k).2.1 (T k).2.2.1 = some x → s.fieldFound? ref (T k).2.1 (T k).2.2.1 = some x) (hfin : (T k).2.2.2 = true) (hin2 : meth.name = "<init>") (hdecl : (T k).1 = own) {ty : FieldType} {v : Value} (hd : parseFieldDescriptor (T k).2.2.1 = some ty) (hn : narrow ty v = v) (hfit : fits ty v = true) (hdg : decode cc pc = .ok (.putfield index, 3))
    (kk : ∀ (H1 : Heap) (locs1 : List Loc) (G : Nat → Value), G = vup F k v → va_P D vwCl (ws.set q0 (a, .inr (ci, vL N G))) H1 → va_D A (ws.set q0 (a, .inr (ci, vL N G))) → va_S A H0 H1 locs1 → W p l e R s m args below meth c H1 locs1 cells slots Q (F0 m (pc + 3) ls rest)) : W p l e R s m args below meth c H locs cells slots Q (F0 m pc ls (v :: .ref a :: rest)) :=
  va_putF hx hb hts hin ty0 hty hnm hown hK hP hD hS q0 he hc k hk hlink hsame hfin hin2 hdecl hd hn hfit (by rw [vL_len]; exact hk) hdg (fun H1 locs1 h1 h2 h3 => kk H1 locs1 _ rfl (by rw [← vL_set]; exact h1) (by rw [← vL_set]; exact h2) h3)
theorem ret_l {v : Int64} {post : Int64 → va_W → Prop} (hx : p.tables.exec = Jvm.exec) (hb : c.code = cc) (hr : meth.sig.returnType = some .long) (hlocks : meth.locks = false) (hS : va_S A s.heap H locs) (hP : va_P D vwCl ws H) (hD : va_D A ws) (hdg : decode cc pc = .ok (.lreturn, 1)) (hc : cells ≤ mc) (hs : slots ≤ ms) (hp : post v ws) :
    W p l e R s m args below meth c H locs cells slots (MQ below (va_Ql post (PO D A) A) args s mc ms A) (F0 m pc ls [.long v]) :=
  W.widen hc hs (W.lret hx hb hr (fun t ht hW => ⟨⟨v, ws, rfl, hp, by rw [ht]; exact hP, hD⟩, hS.F ht⟩) hS.2.2 hdg hlocks)
/-- the world behind a call that answers a reference -/
def PR (D : va_G) (A : Nat → Prop) : Nat × va_W → Nat → State → Prop := fun u a t => a = u.1 ∧ PO D A u.2 t
theorem ret_r {v : Nat} {C : String} {post : Nat → va_W → Prop} (hx : p.tables.exec = Jvm.exec) (hb : c.code = cc) (hr : meth.sig.returnType = some (.object C)) (hlocks : meth.locks = false) (hS : va_S A s.heap H locs) (hP : va_P D vwCl ws H) (hD : va_D A ws) (hdg : decode cc pc = .ok (.areturn, 1)) (hc : cells ≤ mc) (hs : slots ≤ ms) (hp : post v ws) :
    W p l e R s m args below meth c H locs cells slots (MQ below (va_Qr (fun u : Nat × va_W => post u.1 u.2) (PR D A) A) args s mc ms A) (F0 m pc ls [.ref v]) :=
  W.widen hc hs (W.aret hx hb hr (Or.inl ⟨_, rfl⟩) (Or.inr ⟨_, rfl⟩) (fun t ht hW => ⟨⟨(v, ws), v, rfl, hp, rfl, by rw [ht]; exact hP, hD⟩, hS.F ht⟩) hS.2.2 hdg hlocks)
end GF
def CL (l : Launch) (y : MethodName) (cc : ByteArray) (n : Nat) (rt : Option FieldType) (rm : Room) (G : State → Prop) (D : va_G) (ws : va_W) (sz : Nat) (av : List Value) (post : Int64 → va_W → Prop) : Prop :=
  Met l y (.code y cc n rt :: wA) rm (PRE G D ws sz av) (va_Ql post (PO D (va_A ws sz)) (va_A ws sz)) rm.cells rm.slots (va_A ws sz)
def CR (l : Launch) (y : MethodName) (cc : ByteArray) (n : Nat) (rt : Option FieldType) (rm : Room) (G : State → Prop) (D : va_G) (ws : va_W) (sz : Nat) (av : List Value) (post : Nat → va_W → Prop) : Prop :=
  Met l y (.code y cc n rt :: wA) rm (PRE G D ws sz av) (va_Qr (fun u : Nat × va_W => post u.1 u.2) (PR D (va_A ws sz)) (va_A ws sz)) rm.cells rm.slots (va_A ws sz)
theorem CL_mk {l : Launch} {y : MethodName} {cc : ByteArray} {n : Nat} {rt : Option FieldType} {rm : Room} {G : State → Prop} {D : va_G} {ws : va_W} {sz : Nat} {av : List Value} {post : Int64 → va_W → Prop} (hy : plainName y.cls = true) (hlen : (lg_sl av).length ≤ n)
    (h : ∀ (p : Program) (e : Env) (s : State) (m : MethodId) (below : List Frame) (meth : Method) (c : Code) (A : Nat → Prop) (ls : Array Slot), ENT p s m meth c y cc n rt av → A = va_A ws sz → G s → s.heap.size = sz → va_P D vwCl ws s.heap → va_D A ws → (∀ q : Nat, s.heap.size ≤ q → A q) → va_S A s.heap s.heap [] → lv_has ls n (lv_args 0 av) →
      W p l e rm s m av.toArray below meth c s.heap [] 0 0 (MQ below (va_Ql post (PO D A) A) av.toArray s rm.cells rm.slots A) (F0 m 0 ls [])) : CL l y cc n rt rm G D ws sz av post := met_mk (Qf := fun A => va_Ql post (PO D A) A) hy hlen h
theorem CR_mk {l : Launch} {y : MethodName} {cc : ByteArray} {n : Nat} {rt : Option FieldType} {rm : Room} {G : State → Prop} {D : va_G} {ws : va_W} {sz : Nat} {av : List Value} {post : Nat → va_W → Prop} (hy : plainName y.cls = true) (hlen : (lg_sl av).length ≤ n)
    (h : ∀ (p : Program) (e : Env) (s : State) (m : MethodId) (below : List Frame) (meth : Method) (c : Code) (A : Nat → Prop) (ls : Array Slot), ENT p s m meth c y cc n rt av → A = va_A ws sz → G s → s.heap.size = sz → va_P D vwCl ws s.heap → va_D A ws → (∀ q : Nat, s.heap.size ≤ q → A q) → va_S A s.heap s.heap [] → lv_has ls n (lv_args 0 av) →
      W p l e rm s m av.toArray below meth c s.heap [] 0 0 (MQ below (va_Qr (fun u : Nat × va_W => post u.1 u.2) (PR D A) A) av.toArray s rm.cells rm.slots A) (F0 m 0 ls [])) : CR l y cc n rt rm G D ws sz av post := met_mk (Qf := fun A => va_Qr (fun u : Nat × va_W => post u.1 u.2) (PR D A) A) hy hlen h
section WK2
variable {p : Program} {l : Launch} {e : Env} {R : Room} {s : State} {m : MethodId} {args : Array Value} {below : List Frame} {meth : Method} {c : Code} {H : Heap} {locs : List Loc} {cells slots mc ms : Nat} {Q : State → Prop} {cc : ByteArray} {pc nL : Nat} {ls : Array Slot} {rest st0 : List Value} {D : va_G} {A : Nat → Prop} {tys : List (ClassId × FieldType)} {ws : va_W} {H0 : Heap}
def NS (y : MethodName) (cc : ByteArray) (n : Nat) (rt : Option FieldType) (k : Nat) : Prop :=
  Cond.code y cc n rt ∈ wA ∧ Cond.static y ∈ wA ∧ Cond.initialized y.cls ∈ wA ∧ (y.cls ≠ "java/lang/invoke/MethodHandle" ∧ y.cls ≠ "java/lang/invoke/VarHandle" ∧ (parseMethodDescriptor y.desc).map (fun d => d.parameters.length) = some k)
theorem NS.cw {own host : String} {idx : Nat} {y : MethodName} {cb : ByteArray} {n : Nat} {rt : Option FieldType} {k : Nat} {rm : Room} (h : NS y cb n rt k) (hw : ∀ w ∈ wA, w.before args s = true) (hl : va_Nw (.methodLinkNest own idx y host) s) (hR : rm.frames + 1 ≤ R.frames ∧ 8 + (n + 11) + rm.locals ≤ R.locals) : va_CN R s args own idx y host cb n rt (.code y cb n rt :: wA) rm rm.cells rm.slots k ∧ (Cond.static y).before args s = true ∧ True :=
  ⟨va_cnB k hw (gA h.1) rfl rfl rfl hl (hw _ h.2.2.1) h.2.2.2 hR, hw _ h.2.1, trivial⟩
theorem call_Ti {y : MethodName} {cb : ByteArray} {n : Nat} {rt : Option FieldType} {rm : Room} {G : State → Prop} {wc wr : va_W} {As : List Value} {post : Int32 → va_W → Prop} {own host : String} {idx : Nat}
    (hx : p.tables.exec = Jvm.exec) (hb : c.code = cc) (hml : c.maxLocals = nL) (hown : s.vm.findClass own = some m.cls) (hw : ∀ w ∈ wA, w.before args s = true) (hM : CI l y cb n rt rm G D wc H.size As post) (hv : NS y cb n rt As.length) (hl : va_Nw (.methodLinkNest own idx y host) s) (hdg : decode cc pc = .ok (.invokestatic idx, 3))
    (hP : va_P D vwCl ws H) (hD : va_D A ws) (hS : va_S A H0 H locs) (hA : ∀ q : Nat, H0.size ≤ q → A q) (isC isR : List Nat) (hC : isC.map (fun i => ws[i]?) = wc.map some) (hR : isR.map (fun i => ws[i]?) = wr.map some) (hn : va_nd isR = true) (hdc : va_nd isC = true) (hdis : ∀ i ∈ isR, i ∉ isC)
    (hfb : ∀ (U : State) (g : JFrame) (mk : MethodId) (a : Array Value), G U → G (U.calling g mk a)) (hG : ∀ U : State, U.heap = H → s.WarmedH U.vm → G U)
    (hsz : ls.size = nL) (hst : st0 = As.reverse ++ rest) (hrest : (rest.map fun v => v.category).sum ≤ 8) (hRm : rm.frames + 1 ≤ R.frames ∧ 8 + (n + 11) + rm.locals ≤ R.locals) (hf : cells + rm.cells ≤ R.cells ∧ slots + rm.slots ≤ R.slots)
    (kk : ∀ (r : Int32) (u : va_W) (H1 : Heap) (locs1 : List Loc), post r u → va_P D vwCl (wr ++ u) H1 → va_D A (wr ++ u) → va_S A H0 H1 locs1 → W p l e R s m args below meth c H1 locs1 (cells + rm.cells) (slots + rm.slots) Q (F0 m (pc + 3) ls (.int r :: rest))) :
    W p l e R s m args below meth c H locs cells slots Q (F0 m pc ls st0) := by
  have hPc := subP hP isC hC
  have hFc := va_free (wc := wc) hD hS hA isC hC
  refine va_calli (va_runSN (As := As) (rest := rest) (nL := nL) ⟨hx, hb, hml, hown, hw⟩ hM (hv.cw hw hl hRm) ⟨pre_fb hfb, pre_at hPc (hD.sub isC hdc hC) hG⟩ rfl rfl hsz hst (lv_room hrest) hdg hf) hS (fun q _ h => hFc q h) hFc (fun r u t H1 locs1 ht hvm hp hB hz1 hk1 hS1 => ?_)
  obtain ⟨h1, h2⟩ := aft (locs1 := locs1) hP hD isC isR hC hR hn hdis hFc ht hB hk1
  exact kk r u H1 locs1 hp h1 h2 hS1
theorem call_Vl {y : MethodName} {cb : ByteArray} {n : Nat} {rt : Option FieldType} {rm : Room} {G : State → Prop} {wc wr : va_W} {b : Nat} {As : List Value} {post : Int64 → va_W → Prop} {own : String} {idx : Nat}
    (hx : p.tables.exec = Jvm.exec) (hb : c.code = cc) (hml : c.maxLocals = nL) (hown : s.vm.findClass own = some m.cls) (hw : ∀ w ∈ wA, w.before args s = true) (hM : CL l y cb n rt rm G D wc H.size (.ref b :: As) post) (hv : VW own idx y cb n rt As.length) (hdg : decode cc pc = .ok (.invokevirtual idx, 3))
    (hK : va_K D vwCl tys s) (hP : va_P D vwCl ws H) (hD : va_D A ws) (hS : va_S A H0 H locs) (hA : ∀ q : Nat, H0.size ≤ q → A q) (isC isR : List Nat) (hC : isC.map (fun i => ws[i]?) = wc.map some) (hR : isR.map (fun i => ws[i]?) = wr.map some) (hn : va_nd isR = true) (hdc : va_nd isC = true) (hdis : ∀ i ∈ isR, i ∉ isC)
    (q0 ci : Nat) {T : u_T} {N : Nat} {fs : List Value} (hcl : vwCl[ci]? = some (y.cls, T, N)) (he : wc[q0]? = some (b, .inr (ci, fs)))
    (hfb : ∀ (U : State) (g : JFrame) (mk : MethodId) (a : Array Value), G U → G (U.calling g mk a)) (hG : ∀ U : State, U.heap = H → s.WarmedH U.vm → G U)
    (hsz : ls.size = nL) (hst : st0 = As.reverse ++ .ref b :: rest) (hrest : (rest.map fun v => v.category).sum ≤ 8) (hRm : rm.frames + 1 ≤ R.frames ∧ 8 + (n + 11) + rm.locals ≤ R.locals) (hf : cells + rm.cells ≤ R.cells ∧ slots + rm.slots ≤ R.slots)
    (kk : ∀ (r : Int64) (u : va_W) (H1 : Heap) (locs1 : List Loc), post r u → va_P D vwCl (wr ++ u) H1 → va_D A (wr ++ u) → va_S A H0 H1 locs1 → W p l e R s m args below meth c H1 locs1 (cells + rm.cells) (slots + rm.slots) Q (F0 m (pc + 3) ls (.long r :: rest))) :
    W p l e R s m args below meth c H locs cells slots Q (F0 m pc ls st0) := by
  have hPc := subP hP isC hC
  have hFc := va_free (wc := wc) hD hS hA isC hC
  refine va_calll (va_runV (As := As) (rest := rest) (nL := nL) (b := b) ⟨hx, hb, hml, hown, hw⟩ hM (hv.cw hw hRm) ⟨pre_fb hfb, va_recv hK hPc (ci := ci) (q0 := q0) hcl he, pre_at hPc (hD.sub isC hdc hC) hG⟩ rfl rfl hsz hst (lv_room hrest) hdg hf) hS (fun q _ h => hFc q h) hFc (fun r u t H1 locs1 ht hvm hp hB hz1 hk1 hS1 => ?_)
  obtain ⟨h1, h2⟩ := aft (locs1 := locs1) hP hD isC isR hC hR hn hdis hFc ht hB hk1
  exact kk r u H1 locs1 hp h1 h2 hS1
theorem call_Vr {y : MethodName} {cb : ByteArray} {n : Nat} {rt : Option FieldType} {rm : Room} {G : State → Prop} {wc wr : va_W} {b : Nat} {As : List Value} {post : Nat → va_W → Prop} {own : String} {idx : Nat}
    (hx : p.tables.exec = Jvm.exec) (hb : c.code = cc) (hml : c.maxLocals = nL) (hown : s.vm.findClass own = some m.cls) (hw : ∀ w ∈ wA, w.before args s = true) (hM : CR l y cb n rt rm G D wc H.size (.ref b :: As) post) (hv : VW own idx y cb n rt As.length) (hdg : decode cc pc = .ok (.invokevirtual idx, 3))
    (hK : va_K D vwCl tys s) (hP : va_P D vwCl ws H) (hD : va_D A ws) (hS : va_S A H0 H locs) (hA : ∀ q : Nat, H0.size ≤ q → A q) (isC isR : List Nat) (hC : isC.map (fun i => ws[i]?) = wc.map some) (hR : isR.map (fun i => ws[i]?) = wr.map some) (hn : va_nd isR = true) (hdc : va_nd isC = true) (hdis : ∀ i ∈ isR, i ∉ isC)
    (q0 ci : Nat) {T : u_T} {N : Nat} {fs : List Value} (hcl : vwCl[ci]? = some (y.cls, T, N)) (he : wc[q0]? = some (b, .inr (ci, fs)))
    (hfb : ∀ (U : State) (g : JFrame) (mk : MethodId) (a : Array Value), G U → G (U.calling g mk a)) (hG : ∀ U : State, U.heap = H → s.WarmedH U.vm → G U)
    (hsz : ls.size = nL) (hst : st0 = As.reverse ++ .ref b :: rest) (hrest : (rest.map fun v => v.category).sum ≤ 8) (hRm : rm.frames + 1 ≤ R.frames ∧ 8 + (n + 11) + rm.locals ≤ R.locals) (hf : cells + rm.cells ≤ R.cells ∧ slots + rm.slots ≤ R.slots)
    (kk : ∀ (r : Nat) (u : va_W) (H1 : Heap) (locs1 : List Loc), post r u → va_P D vwCl (wr ++ u) H1 → va_D A (wr ++ u) → va_S A H0 H1 locs1 → W p l e R s m args below meth c H1 locs1 (cells + rm.cells) (slots + rm.slots) Q (F0 m (pc + 3) ls (.ref r :: rest))) :
    W p l e R s m args below meth c H locs cells slots Q (F0 m pc ls st0) := by
  have hPc := subP hP isC hC
  have hFc := va_free (wc := wc) hD hS hA isC hC
  refine va_callr (va_runV (As := As) (rest := rest) (nL := nL) (b := b) ⟨hx, hb, hml, hown, hw⟩ hM (hv.cw hw hRm) ⟨pre_fb hfb, va_recv hK hPc (ci := ci) (q0 := q0) hcl he, pre_at hPc (hD.sub isC hdc hC) hG⟩ rfl rfl hsz hst (lv_room hrest) hdg hf) hS (fun q _ h => hFc q h) hFc (fun u r t H1 locs1 ht hvm hp hB hz1 hk1 hS1 => ?_)
  obtain ⟨rfl, hB⟩ := hB
  obtain ⟨h1, h2⟩ := aft (locs1 := locs1) hP hD isC isR hC hR hn hdis hFc ht hB hk1
  exact kk u.1 u.2 H1 locs1 hp h1 h2 hS1
end WK2
theorem uF_0 : SG 0 0 5 40 uF := by
  intro j h1 h2
  have e : j = 0 := by omega
  subst e
  decide
/-! the statics that a COURSE is read by -/
def lF : Nat → Int32 := fun j => if j = 0 then 5 else if j = 1 then 100 else if j = 2 then 300 else 0
def mF : Nat → Int32 := fun j => if j = 0 then 40 else if j = 1 then 300 else if j = 2 then 900 else if j = 3 then 9 else 20
def STY (A : Nat → Prop) (tU tL tM : Nat) (U : State) (H : Heap) : Prop :=
  va_Z "FourSledge" "SETTING_USUAL" "[I" (.ref tU) A U H ∧ STU A tU U H ∧ va_Z "FourSledge" "SETTING_LEAST" "[I" (.ref tL) A U H ∧ va_T .int tL 5 (fun j => .int (lF j)) A U H ∧ va_Z "FourSledge" "SETTING_MOST" "[I" (.ref tM) A U H ∧ va_T .int tM 5 (fun j => .int (mF j)) A U H
section STYS
variable {A B : Nat → Prop} {tU tL tM : Nat} {s U : State} {H H1 : Heap}
theorem STY.narrow (h : STY A tU tL tM U H) (hAB : ∀ q, B q → A q) : STY B tU tL tM U H := by
  obtain ⟨h1, ⟨cell, a1, a2, a3, a4, a5, a6⟩, h3, h4, h5, h6⟩ := h
  exact ⟨h1.narrow hAB, ⟨cell, a1, a2, a3, a4, a5, fun q => a6 (hAB _ q)⟩, h3.narrow hAB, h4.narrow hAB, h5.narrow hAB, h6.narrow hAB⟩
theorem STY.moved {u : State} (al : u.vm.Alike U.vm) (h : STY A tU tL tM u H) : STY A tU tL tM U H := by
  obtain ⟨h1, ⟨cell, a1, a2, a3, a4, a5, a6⟩, h3, h4, h5, h6⟩ := h
  exact ⟨h1.moved al, ⟨cell, a1, State.isArrayOf_alike al a2, a3, by rw [al.findClass]; exact a4, a5, a6⟩, h3.moved al, h4.moved al, h5.moved al, h6.moved al⟩
theorem STY.kept (h : STY A tU tL tM U H) (hq : ∀ a : Nat, a < H.size → ¬ A a → H1[a]? = H[a]?) : STY A tU tL tM U H1 := by
  obtain ⟨h1, ⟨cell, a1, a2, a3, a4, a5, a6⟩, h3, h4, h5, h6⟩ := h
  exact ⟨h1.kept hq, ⟨cell, by rw [hq _ (Array.getElem?_eq_some_iff.mp a1).1 a6]; exact a1, a2, a3, a4, a5, a6⟩, h3.kept hq, h4.kept hq, h5.kept hq, h6.kept hq⟩
end STYS
def GY (D : va_G) (cI cJ cB cP cM cZ : ClassId) (z0 tU tL tM : Nat) (ws : va_W) (U : State) : Prop := GG D cI cJ cB cP cM cZ U ∧ z0 ≤ U.heap.size ∧ (∀ (k : Nat) (q : Nat × va_E), ws[k]? = some q → z0 ≤ q.1) ∧ STY (fun q => z0 ≤ q) tU tL tM U U.heap
section GYS
variable {D : va_G} {cI cJ cB cP cM cZ : ClassId} {z0 tU tL tM : Nat} {ws wc : va_W} {s : State} {A : Nat → Prop} {H : Heap} {locs : List Loc}
theorem GY.hAz {sz : Nat} (h : GY D cI cJ cB cP cM cZ z0 tU tL tM ws s) (hAe : A = va_A ws sz) (hsz : s.heap.size = sz) : ∀ q, A q → z0 ≤ q := by
  intro q hq
  rw [hAe] at hq
  rcases hq with ⟨k, e, hk⟩ | hq
  · exact h.2.2.1 k _ hk
  · exact Nat.le_trans h.2.1 (by rw [hsz]; exact hq)
theorem GY.st (h : GY D cI cJ cB cP cM cZ z0 tU tL tM ws s) (hAz : ∀ q, A q → z0 ≤ q) : STY A tU tL tM s s.heap := h.2.2.2.narrow hAz
theorem GY.at (h : GY D cI cJ cB cP cM cZ z0 tU tL tM ws s) (hAz : ∀ q, A q → z0 ≤ q) (hS : va_S A s.heap H locs) (hDc : va_D A wc) : ∀ U : State, U.heap = H → s.WarmedH U.vm → GY D cI cJ cB cP cM cZ z0 tU tL tM wc U :=
  fun U hU hW => ⟨h.1.warm hW, by rw [hU]; exact Nat.le_trans h.2.1 hS.1, fun k q hq => hAz _ (hDc.2 k q hq), by rw [hU]; exact (STY.moved hW.alike h.2.2.2).kept (fun a ha hn => hS.2.1 a ha (fun hA => hn (hAz a hA)))⟩
theorem GY.fb (U : State) (g : JFrame) (mk : MethodId) (a : Array Value) (h : GY D cI cJ cB cP cM cZ z0 tU tL tM ws U) : GY D cI cJ cB cP cM cZ z0 tU tL tM ws (U.calling g mk a) :=
  ⟨GG.fb U g mk a h.1, h.2.1, h.2.2.1, STY.moved (u := U) (Vm.Alike.refl U.vm) h.2.2.2⟩
end GYS
