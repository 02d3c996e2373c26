/-! numbers by their Int values; rows of numbers by ranges; loops with a measure -/
abbrev IR (lo hi : Int) (x : Int32) : Prop := lo ≤ x.toInt ∧ x.toInt ≤ hi
theorem ir_any (x : Int32) : -2147483648 ≤ x.toInt ∧ x.toInt ≤ 2147483647 := by
  have h1 := Int32.le_toInt x
  have h2 := Int32.toInt_lt x
  omega
theorem lt_i {x y : Int32} {a b : Int} (hx : x.toInt = a) (hy : y.toInt = b) (h : x < y) : a < b := by rw [← hx, ← hy]; exact Int32.lt_iff_toInt_lt.mp h
theorem nlt_i {x y : Int32} {a b : Int} (hx : x.toInt = a) (hy : y.toInt = b) (h : ¬ x < y) : b ≤ a := by
  rw [← hx, ← hy]
  exact Int.not_lt.mp (fun q => h (Int32.lt_iff_toInt_lt.mpr q))
theorem le_i {x y : Int32} {a b : Int} (hx : x.toInt = a) (hy : y.toInt = b) (h : x ≤ y) : a ≤ b := by rw [← hx, ← hy]; exact Int32.le_iff_toInt_le.mp h
theorem nle_i {x y : Int32} {a b : Int} (hx : x.toInt = a) (hy : y.toInt = b) (h : ¬ x ≤ y) : b < a := by
  rw [← hx, ← hy]
  exact Int.not_le.mp (fun q => h (Int32.le_iff_toInt_le.mpr q))
theorem eq_i {x y : Int32} {a b : Int} (hx : x.toInt = a) (hy : y.toInt = b) (h : x = y) : a = b := by rw [← hx, ← hy, h]
theorem ne_i {x y : Int32} {a b : Int} (hx : x.toInt = a) (hy : y.toInt = b) (h : ¬ x = y) : a ≠ b := by
  rw [← hx, ← hy]
  exact fun q => h (Int32.toInt_inj.mp q)
theorem bm_i {a : Int} (h1 : -2147483648 ≤ a) (h2 : a ≤ 2147483647) : a.bmod (2 ^ 32) = a := Int.bmod_eq_of_le (by omega) (by omega)
theorem add_i {x y : Int32} {a b : Int} (hx : x.toInt = a) (hy : y.toInt = b) (h1 : -2147483648 ≤ a + b) (h2 : a + b ≤ 2147483647) : (x + y).toInt = a + b := by
  rw [Int32.toInt_add, hx, hy]
  exact bm_i h1 h2
theorem sub_i {x y : Int32} {a b : Int} (hx : x.toInt = a) (hy : y.toInt = b) (h1 : -2147483648 ≤ a - b) (h2 : a - b ≤ 2147483647) : (x - y).toInt = a - b := by
  rw [Int32.toInt_sub, hx, hy]
  exact bm_i h1 h2
theorem mul_i {x y : Int32} {a b : Int} (hx : x.toInt = a) (hy : y.toInt = b) (h1 : -2147483648 ≤ a * b) (h2 : a * b ≤ 2147483647) : (x * y).toInt = a * b := by
  rw [Int32.toInt_mul, hx, hy]
  exact bm_i h1 h2
theorem ni_of {x : Int32} (h : 0 ≤ x.toInt) : ∃ n : Nat, x = nI n ∧ n < 2 ^ 31 ∧ x.toInt = n := by
  have h3 : ¬ x < 0 := fun q => by
    have := lt_i rfl (b := 0) rfl q
    omega
  obtain ⟨j, hj, e⟩ := nI_of h3
  exact ⟨j, e, hj, by rw [e, nI_toInt hj]⟩
theorem div_i {x y : Int32} {a b : Int} (hx : x.toInt = a) (hy : y.toInt = b) (h1 : 0 ≤ a) (h2 : 0 < b) : (x / y).toInt = a / b := by
  obtain ⟨n, en, hn, tn⟩ := ni_of (x := x) (by omega)
  obtain ⟨d, ed, hd, td⟩ := ni_of (x := y) (by omega)
  have d0 : 0 < d := by omega
  rw [en, ed, pk_div hn d0 hd, nI_toInt (Nat.lt_of_le_of_lt (Nat.div_le_self n d) hn), ← hx, ← hy, tn, td]
  rfl
theorem rem_i {x y : Int32} {a b : Int} (hx : x.toInt = a) (hy : y.toInt = b) (h1 : 0 ≤ a) (h2 : 0 < b) : (x - x / y * y).toInt = a % b := by
  obtain ⟨n, en, hn, tn⟩ := ni_of (x := x) (by omega)
  obtain ⟨d, ed, hd, td⟩ := ni_of (x := y) (by omega)
  have d0 : 0 < d := by omega
  rw [en, ed, pk_rem hn d0 hd, nI_toInt (Nat.lt_of_le_of_lt (Nat.mod_le n d) hn), ← hx, ← hy, tn, td]
  rfl
theorem ix_i {i : Int32} {n : Nat} (h0 : 0 ≤ i.toInt) (h1 : i.toInt < n) : vp_in i n := vp_in_iff.mpr ⟨h0, h1⟩
/-- a row of numbers: from a to b they lie between lo and hi -/
def SG (a b : Nat) (lo hi : Int) (f : Nat → Int32) : Prop := ∀ j : Nat, a ≤ j → j ≤ b → lo ≤ (f j).toInt ∧ (f j).toInt ≤ hi
theorem cl_nat {i : Int32} : i.toNatClampNeg = i.toInt.toNat := rfl
theorem SG.at {a b : Nat} {lo hi : Int} {f : Nat → Int32} (h : SG a b lo hi f) (i : Int32) (h1 : (a : Int) ≤ i.toInt) (h2 : i.toInt ≤ b) : lo ≤ (f i.toNatClampNeg).toInt ∧ (f i.toNatClampNeg).toInt ≤ hi := by
  rw [cl_nat]
  exact h _ (by omega) (by omega)
theorem SG.atN {a b : Nat} {lo hi : Int} {f : Nat → Int32} (h : SG a b lo hi f) (k : Nat) (h1 : a ≤ k) (h2 : k ≤ b) : lo ≤ (f k).toInt ∧ (f k).toInt ≤ hi := h k h1 h2
theorem SG.upN {a b : Nat} {lo hi : Int} {f : Nat → Int32} (h : SG a b lo hi f) {k : Nat} {x : Int32} (hx : k < a ∨ b < k ∨ (lo ≤ x.toInt ∧ x.toInt ≤ hi)) : SG a b lo hi (upd f k x) := by
  intro j h1 h2
  by_cases e : j = k
  · subst e
    rw [pk_us]
    rcases hx with q | q | q
    · omega
    · omega
    · exact q
  · rw [pk_un e]
    exact h j h1 h2
theorem SG.up {a b : Nat} {lo hi : Int} {f : Nat → Int32} (h : SG a b lo hi f) {i : Int32} {x : Int32} (h0 : 0 ≤ i.toInt) (hx : i.toInt < a ∨ (b : Int) < i.toInt ∨ (lo ≤ x.toInt ∧ x.toInt ≤ hi)) : SG a b lo hi (upd f i.toNatClampNeg x) := by
  rw [cl_nat]
  refine h.upN ?_
  rcases hx with q | q | q
  · exact Or.inl (by omega)
  · exact Or.inr (Or.inl (by omega))
  · exact Or.inr (Or.inr q)
/-- kept from the sight of omega -/
def IMP (p : Prop) : Prop := p
theorem IMP.mk {p : Prop} (h : p) : IMP p := h
theorem IMP.h {p : Prop} (h : IMP p) : p := h
theorem SG.upI {a b : Nat} {lo hi : Int} {f : Nat → Int32} (h : SG a b lo hi f) {i : Int32} {x : Int32} (h0 : 0 ≤ i.toInt) (hx : (a : Int) ≤ i.toInt → i.toInt ≤ b → lo ≤ x.toInt ∧ x.toInt ≤ hi) : SG a b lo hi (upd f i.toNatClampNeg x) := by
  refine h.up h0 ?_
  by_cases h1 : i.toInt < a
  · exact Or.inl h1
  · by_cases h2 : (b : Int) < i.toInt
    · exact Or.inr (Or.inl h2)
    · exact Or.inr (Or.inr (hx (by omega) (by omega)))
theorem SG.c {a b : Nat} {lo hi : Int} {x : Int32} (h : lo ≤ x.toInt ∧ x.toInt ≤ hi) : SG a b lo hi (fun _ => x) := fun _ _ _ => h
theorem SG.any {a b : Nat} (f : Nat → Int32) : SG a b (-2147483648) 2147483647 f := fun j _ _ => ir_any (f j)
theorem mloop {α : Type} {nL : Nat} {D : va_G} {A : Nat → Prop} {H0 : Heap} (μ : α → Nat) (Inv : α → Prop) (Wd : α → va_W) (Lc : α → List (Nat × Value)) (P : Heap → List Loc → Array Slot → Prop)
    (hs : ∀ a : α, Inv a → (∀ a' : α, Inv a' → μ a' < μ a → ∀ (H : Heap) (locs : List Loc) (ls : Array Slot), va_P D vwCl (Wd a') H → va_D A (Wd a') → va_S A H0 H locs → lv_has ls nL (Lc a') → P H locs ls) → ∀ (H : Heap) (locs : List Loc) (ls : Array Slot), va_P D vwCl (Wd a) H → va_D A (Wd a) → va_S A H0 H locs → lv_has ls nL (Lc a) → P H locs ls) :
    ∀ a : α, Inv a → ∀ (H : Heap) (locs : List Loc) (ls : Array Slot), va_P D vwCl (Wd a) H → va_D A (Wd a) → va_S A H0 H locs → lv_has ls nL (Lc a) → P H locs ls := by
  have key : ∀ (n : Nat) (a : α), μ a < n → Inv a → ∀ (H : Heap) (locs : List Loc) (ls : Array Slot), va_P D vwCl (Wd a) H → va_D A (Wd a) → va_S A H0 H locs → lv_has ls nL (Lc a) → P H locs ls := by
    intro n
    induction n with
    | zero => intro a h; exact absurd h (Nat.not_lt_zero _)
    | succ n ih =>
      intro a h hI
      exact hs a hI (fun a' hI' hm => ih a' (by omega) hI')
  intro a hI
  exact key (μ a + 1) a (Nat.lt_succ_self _) hI
theorem SG.new1 {k : Nat} {lo hi : Int} {f : Nat → Int32} {x : Int32} (h : lo ≤ x.toInt ∧ x.toInt ≤ hi) : SG k k lo hi (upd f k x) := by
  intro j h1 h2
  have e : j = k := by omega
  subst e
  rw [pk_us]
  exact h
theorem and_i (x : Int32) {m : Int32} (k : Nat) (hm : m.toBitVec.toNat = 2 ^ k - 1 ∧ k ≤ 30) : 0 ≤ (x &&& m).toInt ∧ (x &&& m).toInt ≤ m.toInt := by
  have e := pk_and x k hm.1
  have hlt : x.toBitVec.toNat % 2 ^ k < 2 ^ k := Nat.mod_lt _ (Nat.two_pow_pos k)
  have h30 : 2 ^ k ≤ 2 ^ 30 := Nat.pow_le_pow_right (by decide) hm.2
  have hm2 : m = nI (2 ^ k - 1) := by
    have h9 : m.toBitVec.toNat = (nI (2 ^ k - 1)).toBitVec.toNat := by rw [hm.1, pk_tn (by omega)]
    exact Int32.toBitVec_inj.mp (BitVec.eq_of_toNat_eq h9)
  rw [e, nI_toInt (by omega)]
  rw [hm2, nI_toInt (by omega)]
  omega
theorem nz_i {x : Int32} (h1 : 0 ≤ x.toInt) (h2 : x.toInt ≤ 1) : narrow .boolean (.int x) = .int x := by
  obtain ⟨n, en, hn, tn⟩ := ni_of h1
  have h : n = 0 ∨ n = 1 := by omega
  rcases h with h | h
  · subst h; subst en; rfl
  · subst h; subst en; rfl
theorem fz_i {x : Int32} (h1 : 0 ≤ x.toInt) (h2 : x.toInt ≤ 1) : fits .boolean (.int x) = true := by
  obtain ⟨n, en, hn, tn⟩ := ni_of h1
  have h : n = 0 ∨ n = 1 := by omega
  rcases h with h | h
  · subst h; subst en; rfl
  · subst h; subst en; rfl
theorem or_dec : ∀ a, a < 16 → ∀ b, b < 16 → 0 ≤ (nI a ||| nI b).toInt ∧ (nI a ||| nI b).toInt ≤ 15 := by decide +kernel
theorem or_i {x y : Int32} (h1 : 0 ≤ x.toInt) (h2 : x.toInt ≤ 15) (h3 : 0 ≤ y.toInt) (h4 : y.toInt ≤ 15) : 0 ≤ (x ||| y).toInt ∧ (x ||| y).toInt ≤ 15 := by
  obtain ⟨n, en, -, tn⟩ := ni_of h1
  obtain ⟨k, ek, -, tk⟩ := ni_of h3
  rw [en, ek]
  exact or_dec n (by omega) k (by omega)
theorem shl1_dec : ∀ a, a < 4 → 1 ≤ ((1 : Int32) <<< (nI a &&& 31)).toInt ∧ ((1 : Int32) <<< (nI a &&& 31)).toInt ≤ 8 := by decide +kernel
theorem shl1_i {x : Int32} (h1 : 0 ≤ x.toInt) (h2 : x.toInt ≤ 3) : 1 ≤ ((1 : Int32) <<< (x &&& 31)).toInt ∧ ((1 : Int32) <<< (x &&& 31)).toInt ≤ 8 := by
  obtain ⟨n, en, -, tn⟩ := ni_of h1
  rw [en]
  exact shl1_dec n (by omega)
section SAF
variable {p : Program} {l : Launch} {e : Env} {R : Room} {s : State} {m : MethodId} {args : Array Value} {below : List Frame} {meth : Method} {c : Code} {H : Heap} {locs : List Loc} {cells slots : Nat} {Q : State → Prop} {cc : ByteArray} {pc : Nat} {ls : Array Slot} {rest : List Value} {D : va_G} {A : Nat → Prop} {tys : List (ClassId × FieldType)} {ws : va_W} {H0 : Heap} {a : Nat}
theorem iast_g (hx : p.tables.exec = Jvm.exec) (hb : c.code = cc) (hK : va_K D vwCl tys s) (hP : va_P D vwCl ws H) (hD : va_D A ws) (hS : va_S A H0 H locs) (q0 t0 : Nat) {cA : ClassId} {n : Nat} {f : Nat → Int32} (ha : ws[q0]? = some (a, .inl (cA, n, .inl f))) (ht : tys[t0]? = some (cA, .int)) {i x : Int32} (hi : vp_in i n) {g : Nat → Int32} (hg : upd f i.toNatClampNeg x = g) (hdg : decode cc pc = .ok (.iastore, 1))
    (kk : ∀ (H1 : Heap) (locs1 : List Loc), va_P D vwCl (ws.set q0 (a, .inl (cA, n, .inl g))) H1 → va_D A (ws.set q0 (a, .inl (cA, n, .inl g))) → va_S A H0 H1 locs1 → W p l e R s m args below meth c H1 locs1 cells slots Q (F0 m (pc + 1) ls rest)) : W p l e R s m args below meth c H locs cells slots Q (F0 m pc ls (.int x :: .int i :: .ref a :: rest)) :=
  va_iast hx hb hK hP hD hS q0 t0 ha ht hi hdg (by rw [hg]; exact kk)
theorem bast_g (hx : p.tables.exec = Jvm.exec) (hb : c.code = cc) (hK : va_K D vwCl tys s) (hP : va_P D vwCl ws H) (hD : va_D A ws) (hS : va_S A H0 H locs) (q0 t0 : Nat) {cA : ClassId} {n : Nat} {f : Nat → Int32} (ha : ws[q0]? = some (a, .inl (cA, n, .inl f))) (ht : tys[t0]? = some (cA, .byte)) {i x : Int32} (hi : vp_in i n) {g : Nat → Int32} (hg : upd f i.toNatClampNeg (vp_nar .byte x) = g) (hdg : decode cc pc = .ok (.bastore, 1))
    (kk : ∀ (H1 : Heap) (locs1 : List Loc), va_P D vwCl (ws.set q0 (a, .inl (cA, n, .inl g))) H1 → va_D A (ws.set q0 (a, .inl (cA, n, .inl g))) → va_S A H0 H1 locs1 → W p l e R s m args below meth c H1 locs1 cells slots Q (F0 m (pc + 1) ls rest)) : W p l e R s m args below meth c H locs cells slots Q (F0 m pc ls (.int x :: .int i :: .ref a :: rest)) :=
  va_bast hx hb hK hP hD hS q0 t0 ha ht hi hdg (by rw [hg]; exact kk)
theorem zast_g (hx : p.tables.exec = Jvm.exec) (hb : c.code = cc) (hK : va_K D vwCl tys s) (hP : va_P D vwCl ws H) (hD : va_D A ws) (hS : va_S A H0 H locs) (q0 t0 : Nat) {cA : ClassId} {n : Nat} {f : Nat → Int32} (ha : ws[q0]? = some (a, .inl (cA, n, .inl f))) (ht : tys[t0]? = some (cA, .boolean)) {i x : Int32} (hi : vp_in i n) {g : Nat → Int32} (hg : upd f i.toNatClampNeg (vp_nar .boolean x) = g) (hdg : decode cc pc = .ok (.bastore, 1))
    (kk : ∀ (H1 : Heap) (locs1 : List Loc), va_P D vwCl (ws.set q0 (a, .inl (cA, n, .inl g))) H1 → va_D A (ws.set q0 (a, .inl (cA, n, .inl g))) → va_S A H0 H1 locs1 → W p l e R s m args below meth c H1 locs1 cells slots Q (F0 m (pc + 1) ls rest)) : W p l e R s m args below meth c H locs cells slots Q (F0 m pc ls (.int x :: .int i :: .ref a :: rest)) :=
  va_zast hx hb hK hP hD hS q0 t0 ha ht hi hdg (by rw [hg]; exact kk)
theorem last_g (hx : p.tables.exec = Jvm.exec) (hb : c.code = cc) (hK : va_K D vwCl tys s) (hP : va_P D vwCl ws H) (hD : va_D A ws) (hS : va_S A H0 H locs) (q0 t0 : Nat) {cA : ClassId} {n : Nat} {f : Nat → Int64} (ha : ws[q0]? = some (a, .inl (cA, n, .inr (.inl f)))) (ht : tys[t0]? = some (cA, .long)) {i : Int32} {x : Int64} (hi : vp_in i n) {g : Nat → Int64} (hg : vp_updL f i.toNatClampNeg x = g) (hdg : decode cc pc = .ok (.lastore, 1))
    (kk : ∀ (H1 : Heap) (locs1 : List Loc), va_P D vwCl (ws.set q0 (a, .inl (cA, n, .inr (.inl g)))) H1 → va_D A (ws.set q0 (a, .inl (cA, n, .inr (.inl g)))) → va_S A H0 H1 locs1 → W p l e R s m args below meth c H1 locs1 cells slots Q (F0 m (pc + 1) ls rest)) : W p l e R s m args below meth c H locs cells slots Q (F0 m pc ls (.long x :: .int i :: .ref a :: rest)) :=
  va_last hx hb hK hP hD hS q0 t0 ha ht hi hdg (by rw [hg]; exact kk)
end SAF
theorem andm_dec : ∀ a, a < 64 → 1 ≤ a → 0 ≤ (nI a &&& (nI a - 1)).toInt ∧ (nI a &&& (nI a - 1)).toInt < (nI a).toInt := by decide +kernel
theorem andm_i {x : Int32} (h1 : 1 ≤ x.toInt) (h2 : x.toInt ≤ 63) : 0 ≤ (x &&& (x - 1)).toInt ∧ (x &&& (x - 1)).toInt < x.toInt := by
  obtain ⟨n, en, -, tn⟩ := ni_of (x := x) (by omega)
  rw [en]
  exact andm_dec n (by omega) (by omega)
theorem shl6_dec : ∀ a, a < 7 → 1 ≤ ((1 : Int32) <<< (nI a &&& 31)).toInt ∧ ((1 : Int32) <<< (nI a &&& 31)).toInt ≤ 64 := by decide +kernel
theorem shl6_i {x : Int32} (h1 : 0 ≤ x.toInt) (h2 : x.toInt ≤ 6) : 1 ≤ ((1 : Int32) <<< (x &&& 31)).toInt ∧ ((1 : Int32) <<< (x &&& 31)).toInt ≤ 64 := by
  obtain ⟨n, en, -, tn⟩ := ni_of h1
  rw [en]
  exact shl6_dec n (by omega)

theorem ushr8_i (x : Int32) : 0 ≤ ((x.toUInt32 >>> ((8 : Int32).toUInt32 &&& Int32.toUInt32 31)).toInt32).toInt ∧ ((x.toUInt32 >>> ((8 : Int32).toUInt32 &&& Int32.toUInt32 31)).toInt32).toInt ≤ 16777215 := by
  have e : ((8 : Int32).toUInt32 &&& Int32.toUInt32 31) = 8 := by decide +kernel
  rw [e]
  have h1 : (x.toUInt32 >>> 8).toNat = x.toUInt32.toNat / 256 := by
    rw [UInt32.toNat_shiftRight]
    rw [show (UInt32.toNat 8 % 32) = 8 from rfl, Nat.shiftRight_eq_div_pow]
  have h2 := UInt32.toNat_lt x.toUInt32
  have h3 : (x.toUInt32 >>> 8).toNat < 16777216 := by rw [h1]; omega
  have h4 : ((x.toUInt32 >>> 8).toInt32).toInt = ((x.toUInt32 >>> 8).toNat : Int) := by
    show BitVec.toInt (x.toUInt32 >>> 8).toBitVec = _
    rw [BitVec.toInt_eq_toNat_of_lt]
    · rfl
    · have : (x.toUInt32 >>> 8).toBitVec.toNat < 16777216 := h3
      omega
  rw [h4]
  omega
/-- as SG, for what lies below n -/
def SGK (a b : Nat) (lo hi : Int) (f : Nat → Int32) (n : Int) : Prop := ∀ j : Nat, a ≤ j → j ≤ b → (j : Int) < n → lo ≤ (f j).toInt ∧ (f j).toInt ≤ hi
theorem SGK.zero {a b : Nat} {lo hi : Int} {f : Nat → Int32} {n : Int} (h : n ≤ 0) : SGK a b lo hi f n := by
  intro j _ _ h3
  omega
theorem SGK.step {a b : Nat} {lo hi : Int} {f g : Nat → Int32} {n n' : Int} (h : SGK a b lo hi f n) {i x : Int32} (e : upd f i.toNatClampNeg x = g) (h0 : 0 ≤ n) (hi' : i.toInt = n) (hn : n' = n + 1) (hx : (a : Int) ≤ i.toInt → i.toInt ≤ b → lo ≤ x.toInt ∧ x.toInt ≤ hi) : SGK a b lo hi g n' := by
  subst e
  rw [cl_nat]
  intro j h1 h2 h3
  by_cases ej : j = i.toInt.toNat
  · subst ej
    rw [pk_us]
    exact hx (by omega) (by omega)
  · rw [pk_un ej]
    exact h j h1 h2 (by omega)
theorem SGK.all {a b : Nat} {lo hi : Int} {f : Nat → Int32} {n : Int} (h : SGK a b lo hi f n) (hb : (b : Int) < n) : SG a b lo hi f := fun j h1 h2 => h j h1 h2 (by omega)
/-- g from og on is f from of on, for n of them -/
def CPY (g : Nat → Int32) (og : Nat) (f : Nat → Int32) (of : Nat) (n : Int) : Prop := ∀ j : Nat, (j : Int) < n → g (og + j) = f (of + j)
theorem CPY.zero {g f : Nat → Int32} {og of : Nat} {n : Int} (h : n ≤ 0) : CPY g og f of n := by
  intro j h3
  omega
theorem CPY.step {g g' f : Nat → Int32} {og of : Nat} {n n' : Int} (h : CPY g og f of n) {i k x : Int32} (e : upd g i.toNatClampNeg x = g') (ex : x = f k.toNatClampNeg) (hi : 0 ≤ n ∧ i.toInt = og + n) (hk : k.toInt = of + n) (hn : n' = n + 1) : CPY g' og f of n' := by
  subst e
  rw [cl_nat]
  intro j h3
  by_cases ej : (j : Int) = n
  · have e1 : og + j = i.toInt.toNat := by omega
    have e2 : of + j = k.toNatClampNeg := by rw [cl_nat]; omega
    rw [e1, pk_us, ex, e2]
  · have e1 : og + j ≠ i.toInt.toNat := by omega
    rw [pk_un e1]
    exact h j (by omega)
theorem SG.cpy {g f : Nat → Int32} {og of : Nat} {n : Int} (h : CPY g og f of n) {a b : Nat} {lo hi : Int} (hs : SG a b lo hi f) {a' b' : Nat} (h1 : of ≤ a) (h2 : a' + of = a + og) (h3 : b' + of = b + og) (h4 : (b' : Int) < og + n) : SG a' b' lo hi g := by
  intro j q1 q2
  have e : j = og + (j - og) := by omega
  rw [e, h (j - og) (by omega)]
  exact hs _ (by omega) (by omega)
/-- how many truths lie on the pile behind i codes -/
def stp (c : Int) : Int := if c = 20 then 0 else if c = 21 ∨ c = 22 then -1 else 1
def dep (f : Nat → Int32) (b : Nat) : Nat → Int
  | 0 => 0
  | i + 1 => dep f b i + stp (f (b + 3 * i)).toInt
def gdc (f : Nat → Int32) (b n : Nat) : Prop := ∀ i : Nat, i < n → ((f (b + 3 * i)).toInt = 20 → 1 ≤ dep f b i) ∧ ((f (b + 3 * i)).toInt = 21 ∨ (f (b + 3 * i)).toInt = 22 → 2 ≤ dep f b i)
def KW (off : Nat) (f : Nat → Int32) : Prop := (0 ≤ (f (off + 153)).toInt ∧ (f (off + 153)).toInt ≤ 44) ∧ gdc f (off + 154) (f (off + 153)).toInt.toNat
theorem dep_eq {f g : Nat → Int32} {b c : Nat} : ∀ n : Nat, (∀ j, j < 3 * n → g (c + j) = f (b + j)) → dep g c n = dep f b n := by
  intro n
  induction n with
  | zero => intro _; rfl
  | succ n ih =>
    intro h
    show dep g c n + stp (g (c + 3 * n)).toInt = dep f b n + stp (f (b + 3 * n)).toInt
    rw [ih (fun j hj => h j (by omega)), h (3 * n) (by omega)]
theorem gdc_eq {f g : Nat → Int32} {b c n : Nat} (h : ∀ j, j < 3 * n → g (c + j) = f (b + j)) (hf : gdc f b n) : gdc g c n := by
  intro i hi
  have e1 := dep_eq (f := f) (g := g) (b := b) (c := c) i (fun j hj => h j (by omega))
  rw [h (3 * i) (by omega), e1]
  exact hf i hi
theorem KW.eq {f g : Nat → Int32} {o o' : Nat} (h : KW o f) (e : ∀ j, 153 ≤ j → j < 334 → g (o' + j) = f (o + j)) : KW o' g := by
  have e1 := e 153 (by decide) (by decide)
  unfold KW
  rw [e1]
  refine ⟨h.1, gdc_eq (f := f) (b := o + 154) (fun j hj => ?_) h.2⟩
  have h1 := h.1
  have e2 := e (154 + j) (by omega) (by omega)
  rw [show o' + 154 + j = o' + (154 + j) by omega, show o + 154 + j = o + (154 + j) by omega]
  exact e2
theorem KW.upN {o : Nat} {f : Nat → Int32} (h : KW o f) {k : Nat} {x : Int32} (hk : k < o + 153 ∨ o + 333 < k) : KW o (upd f k x) :=
  h.eq (fun j h1 h2 => pk_un (by omega))
theorem KW.up {o : Nat} {f : Nat → Int32} (h : KW o f) {i x : Int32} (h0 : 0 ≤ i.toInt) (hk : i.toInt < o + 153 ∨ (o : Int) + 333 < i.toInt) : KW o (upd f i.toNatClampNeg x) := by
  rw [cl_nat]
  exact h.upN (by omega)
theorem KW.cpy {g f : Nat → Int32} {og of : Nat} {n : Int} (h : CPY g og f of n) (hs : KW of f) (hn : 334 ≤ n) (_ : True) : KW og g :=
  hs.eq (fun j h1 h2 => h j (by omega))
theorem KW.none {f : Nat → Int32} (h : SG 153 153 0 0 f) : KW 0 f := by
  have h1 := h 153 (by decide) (by decide)
  have e : (f (0 + 153)).toInt = 0 := by show (f 153).toInt = 0; omega
  refine ⟨by omega, ?_⟩
  rw [e]
  intro i hi
  exact absurd hi (Nat.not_lt_zero _)
theorem dep_to {f : Nat → Int32} {b : Nat} {i i' : Int} (h0 : 0 ≤ i) (h : i' = i + 1) : dep f b i'.toNat = dep f b i.toNat + stp (f (b + 3 * i.toNat)).toInt := by
  have e : i'.toNat = i.toNat + 1 := by omega
  rw [e]
  rfl
theorem stp_ca (c : Int) : (c = 20 → stp c = 0) ∧ (c = 21 ∨ c = 22 → stp c = -1) ∧ (c ≠ 20 → c ≠ 21 → c ≠ 22 → stp c = 1) := by
  refine ⟨fun h => ?_, fun h => ?_, fun h1 h2 h3 => ?_⟩
  · unfold stp; rw [if_pos h]
  · unfold stp; rw [if_neg (by omega), if_pos h]
  · unfold stp; rw [if_neg h1, if_neg (by omega)]
theorem SG.wk {a b : Nat} {lo hi lo' hi' : Int} {f : Nat → Int32} (h : SG a b lo hi f) (h1 : lo' ≤ lo) (h2 : hi ≤ hi') : SG a b lo' hi' f := by
  intro j q1 q2
  have := h j q1 q2
  omega
theorem SG.one {k : Nat} {lo hi : Int} {f : Nat → Int32} {x : Int32} (e : x = f k) (h : lo ≤ x.toInt ∧ x.toInt ≤ hi) : SG k k lo hi f := by
  intro j h1 h2
  have ej : j = k := by omega
  subst ej
  rw [← e]
  exact h
