/-! what the class's texts name -/
theorem KWN.wix {f : Nat → Int64} (h : KWN f) {w : Int} : wixK (nmG (gL f) (23 : Int).toNat) 0 w = wix w := by
  show wixK (nmG (gL f) 23) 0 w = wixK rw27 0 w
  rw [show nmG (gL f) 23 = rw27 from h]
theorem nmL_len {f : Nat → Int64} {n : Int} : (nmL f n).length = n.toNat := nmG_len
theorem at_tk {T : Int → Tok} {k a v p : Int32} {nm : Int64} {t1 : Tok} (h : t1 = T p.toInt) (hk : k.toInt = 2) : t1 = T (tkC k a v nm p).2.2.2.2 := by
  rw [tkC_at hk]
  exact h
theorem inl_eq {β : Type} {x : Sum Flt β} {c : Int} {t : Tok} {fk fp : Int32} (h : x = .inl (c, t.2.1)) (h1 : fk.toInt = c) (h2 : fp.toInt = t.2.1) : x = .inl (fk.toInt, fp.toInt) := by
  rw [h, h1, h2]
theorem man_l {f g : Nat → Int64} {i : Int32} {x : Int64} {n n' t : Int} (e : vp_updL f i.toNatClampNeg x = g) (hi : i.toInt = n) (h0 : 0 ≤ n) (hn : n' = n + 1) (ht : t = x.toInt) : nmL g n' = nmL f n ++ [t] := by
  rw [hn, ht]
  exact nmL_up e hi h0
theorem lnw {k a v p : Int32} {nm : Int64} {c : Int} (hk : k.toInt = 2) (hw : k.toInt = 2 → v.toInt = wix nm.toInt) (hv : v.toInt = c) : wix (tkC k a v nm p).2.2.2.1 = c := by
  rw [tkC_nm hk, ← hw hk]
  exact hv
def slo (k : Int32) : Int := if k = 0 then 5 else if k = 1 then 100 else if k = 2 then 300 else 0
def shi (k : Int32) : Int := if k = 0 then 40 else if k = 1 then 300 else if k = 2 then 900 else if k = 3 then 9 else 20
def cSetK (T : Int → Tok) (t : Tok) (s : CS) (k : Int32) : Sum Flt (Tok × CS) := cSet T t s k (slo k) (shi k)
theorem cSetK_0 {T : Int → Tok} {t : Tok} {s : CS} : cSetK T t s 0 = cSet T t s 0 5 40 := by
  unfold cSetK
  rw [show slo 0 = 5 by decide, show shi 0 = 40 by decide]
theorem cSetK_1 {T : Int → Tok} {t : Tok} {s : CS} : cSetK T t s 1 = cSet T t s 1 100 300 := by
  unfold cSetK
  rw [show slo 1 = 100 by decide, show shi 1 = 300 by decide]
theorem cSetK_2 {T : Int → Tok} {t : Tok} {s : CS} : cSetK T t s 2 = cSet T t s 2 300 900 := by
  unfold cSetK
  rw [show slo 2 = 300 by decide, show shi 2 = 900 by decide]
theorem cSetK_3 {T : Int → Tok} {t : Tok} {s : CS} : cSetK T t s 3 = cSet T t s 3 0 9 := by
  unfold cSetK
  rw [show slo 3 = 0 by decide, show shi 3 = 9 by decide]
theorem cSetK_4 {T : Int → Tok} {t : Tok} {s : CS} : cSetK T t s 4 = cSet T t s 4 0 20 := by
  unfold cSetK
  rw [show slo 4 = 0 by decide, show shi 4 = 20 by decide]
theorem set_0 {T : Int → Tok} {t : Tok} {s : CS} {k : Int32} {x : Sum Flt (Tok × CS)} (hk : k = 0) (h : cSetK T t s k = x) : cSet T t s 0 5 40 = x := by
  rw [← cSetK_0, ← h, hk]
theorem set_1 {T : Int → Tok} {t : Tok} {s : CS} {k : Int32} {x : Sum Flt (Tok × CS)} (hk : k = 1) (h : cSetK T t s k = x) : cSet T t s 1 100 300 = x := by
  rw [← cSetK_1, ← h, hk]
theorem set_2 {T : Int → Tok} {t : Tok} {s : CS} {k : Int32} {x : Sum Flt (Tok × CS)} (hk : k = 2) (h : cSetK T t s k = x) : cSet T t s 2 300 900 = x := by
  rw [← cSetK_2, ← h, hk]
theorem set_3 {T : Int → Tok} {t : Tok} {s : CS} {k : Int32} {x : Sum Flt (Tok × CS)} (hk : k = 3) (h : cSetK T t s k = x) : cSet T t s 3 0 9 = x := by
  rw [← cSetK_3, ← h, hk]
theorem set_4 {T : Int → Tok} {t : Tok} {s : CS} {k : Int32} {x : Sum Flt (Tok × CS)} (hk : k = 4) (h : cSetK T t s k = x) : cSet T t s 4 0 20 = x := by
  rw [← cSetK_4, ← h, hk]
theorem crs_0 {f : Nat → Int32} {n : Int} {t : Tok} {s : CS} {x : Sum Flt (Int × CS)} (h : t = tkA f n 900 0) (hs : s = (0, 40, [], 0, [])) (ha : cAll (tkA f n 900) 900 t s 0 = x) : cTxt f n = x := by
  unfold cTxt
  rw [← hs, ← h]
  exact ha
theorem cs_0 {st : Nat → Int32} {mn rr : Nat → Int64} (h : (st 0).toInt = 40) : csC 0 st 0 mn 0 0 rr = (0, 40, [], 0, []) := by
  unfold csC
  rw [h]
  exact rfl
/-! bytes that are fed -/
def by8 (x k : Int32) : Int32 := (x >>> (k &&& 31)).toInt8.toInt32
def ap4 (f : Nat → Int32) (n : Nat) (x : Int32) : Nat → Int32 := upd (upd (upd (upd f n (by8 x 24)) (n + 1) (by8 x 16)) (n + 2) (by8 x 8)) (n + 3) (by8 x 0)
def ap20 (f : Nat → Int32) (n : Nat) (a b c d e : Int32) : Nat → Int32 := ap4 (ap4 (ap4 (ap4 (ap4 f n a) (n + 4) b) (n + 8) c) (n + 12) d) (n + 16) e
theorem by8_S {x k u v : Int32} (e1 : u = x >>> (k &&& 31)) (e2 : u.toInt8.toInt32 = v) : vp_nar .byte v = by8 x k := by
  rw [vp_nar_byte, ← e2, e1]
  unfold by8
  rw [Int8.toInt8_toInt32]
theorem ap4_of {f g1 g2 g3 g4 : Nat → Int32} {n0 n1 n2 n3 x v1 v2 v3 v4 : Int32} (e1 : upd f n0.toNatClampNeg (vp_nar .byte v1) = g1) (e2 : upd g1 n1.toNatClampNeg (vp_nar .byte v2) = g2) (e3 : upd g2 n2.toNatClampNeg (vp_nar .byte v3) = g3) (e4 : upd g3 n3.toNatClampNeg (vp_nar .byte v4) = g4)
    (h0 : 0 ≤ n0.toInt) (h1 : n1.toInt = n0.toInt + 1) (h2 : n2.toInt = n0.toInt + 2) (h3 : n3.toInt = n0.toInt + 3) (b1 : vp_nar .byte v1 = by8 x 24) (b2 : vp_nar .byte v2 = by8 x 16) (b3 : vp_nar .byte v3 = by8 x 8) (b4 : vp_nar .byte v4 = by8 x 0) : g4 = ap4 f n0.toInt.toNat x := by
  unfold ap4
  rw [← e4, ← e3, ← e2, ← e1, b1, b2, b3, b4]
  have k1 : n1.toNatClampNeg = n0.toInt.toNat + 1 := by rw [cl_nat]; omega
  have k2 : n2.toNatClampNeg = n0.toInt.toNat + 2 := by rw [cl_nat]; omega
  have k3 : n3.toNatClampNeg = n0.toInt.toNat + 3 := by rw [cl_nat]; omega
  rw [k1, k2, k3, cl_nat]
theorem by8_U {x k u v : Int32} (j D : Nat) (hD : 2 ^ j = D) (hd : D = 16777216 ∨ D = 65536 ∨ D = 256 ∨ D = 1) (hk : ((k.toUInt32 &&& Int32.toUInt32 31).toBitVec % 32).toNat = j) (hk2 : ((k &&& 31).toBitVec.smod 32).toNat = j) (e1 : (x.toUInt32 >>> (k.toUInt32 &&& Int32.toUInt32 31)).toInt32 = u) (e2 : u.toInt8.toInt32 = v) : vp_nar .byte v = by8 x k := by
  have h1 : u.toBitVec.toNat = x.toBitVec.toNat / D := by
    rw [← e1, ← hD]
    exact pk_ushr x k j hk
  have h2 : (x >>> (k &&& 31)).toInt = x.toInt / (D : Int) := by
    rw [pk_shr x (k &&& 31) j hk2, Int.shiftRight_eq_div_pow, ← hD]
  have h4 := i32n x
  have h5 := i32n u
  have h6 : u.toInt % 256 = (x >>> (k &&& 31)).toInt % 256 := by
    rw [h2]
    rcases hd with hd | hd | hd | hd <;> rw [hd] at h1 ⊢ <;> omega
  have h7 : u.toInt % ((2 ^ 8 : Nat) : Int) = (x >>> (k &&& 31)).toInt % ((2 ^ 8 : Nat) : Int) := h6
  have h8 : u.toInt8 = (x >>> (k &&& 31)).toInt8 := by
    apply Int8.toInt.inj
    rw [Int32.toInt_toInt8, Int32.toInt_toInt8]
    exact (Int.emod_bmod _ _).symm.trans ((congrArg (fun z => Int.bmod z (2 ^ 8)) h7).trans (Int.emod_bmod _ _))
  rw [vp_nar_byte, ← e2, Int8.toInt8_toInt32, h8]
  exact rfl
theorem ap20_of {f g1 g2 g3 g4 g5 : Nat → Int32} {n0 n1 n2 n3 n4 a b c d e : Int32} (e1 : g1 = ap4 f n0.toInt.toNat a) (e2 : g2 = ap4 g1 n1.toInt.toNat b) (e3 : g3 = ap4 g2 n2.toInt.toNat c) (e4 : g4 = ap4 g3 n3.toInt.toNat d) (e5 : g5 = ap4 g4 n4.toInt.toNat e)
    (h0 : 0 ≤ n0.toInt) (h1 : n1.toInt = n0.toInt + 4) (h2 : n2.toInt = n0.toInt + 8) (h3 : n3.toInt = n0.toInt + 12) (h4 : n4.toInt = n0.toInt + 16) : g5 = ap20 f n0.toInt.toNat a b c d e := by
  unfold ap20
  rw [e5, e4, e3, e2, e1]
  have k1 : n1.toInt.toNat = n0.toInt.toNat + 4 := by omega
  have k2 : n2.toInt.toNat = n0.toInt.toNat + 8 := by omega
  have k3 : n3.toInt.toNat = n0.toInt.toNat + 12 := by omega
  have k4 : n4.toInt.toNat = n0.toInt.toNat + 16 := by omega
  rw [k1, k2, k3, k4]
theorem fed_eq {f1 f2 g1 g2 : Nat → Int32} {l1 l2 m1 m2 r1 r2 a b c d e : Int32} (h1 : (l1.toInt ≤ 920 ∧ r1.toInt = l1.toInt + 20 ∧ m1.toInt = l1.toInt + 20 ∧ g1 = ap20 f1 l1.toInt.toNat a b c d e) ∨ (920 < l1.toInt ∧ r1.toInt = -1 ∧ m1 = l1 ∧ g1 = f1))
    (h2 : (l2.toInt ≤ 920 ∧ r2.toInt = l2.toInt + 20 ∧ m2.toInt = l2.toInt + 20 ∧ g2 = ap20 f2 l2.toInt.toNat a b c d e) ∨ (920 < l2.toInt ∧ r2.toInt = -1 ∧ m2 = l2 ∧ g2 = f2)) (hl : l1 = l2) (hf : f1 = f2) : g2 = g1 := by
  rw [hl, hf] at h1
  rcases h1 with ⟨k1, _, _, e1⟩ | ⟨k1, _, _, e1⟩ <;> rcases h2 with ⟨k2, _, _, e2⟩ | ⟨k2, _, _, e2⟩
  · rw [e1, e2]
  · omega
  · omega
  · rw [e1, e2]
theorem FILK.at {g : Nat → Int32} {x : Int32} {n : Int} (h : FILK g x n) (k : Nat) (hk : (k : Int) < n) : g k = x := h k hk
/-! the words that the class's reader makes of its row of signs -/
def wnC (wB : Nat → Int32) (i : Nat) : Int32 := (((wB (i)) &&& 255).toUInt32 % 65536).toInt32
def WNF (wB : Nat → Int32) : Nat → Nat → Int64
  | 0 => fun _ => 0
  | i + 1 => if wnC wB i = 32 then WNF wB i else vp_updL (WNF wB i) (i / 7) (((((WNF wB i (i / 7)) * 27) + ((wnC wB i).toInt64)) - 97) + 1)
theorem WNF_n {wB : Nat → Int32} {i : Nat} (h : (((wB (i)) &&& 255).toUInt32 % 65536).toInt32 = 32) : WNF wB (i + 1) = WNF wB i := if_pos h
theorem WNF_y {wB : Nat → Int32} {i : Nat} (h : ¬ (((wB (i)) &&& 255).toUInt32 % 65536).toInt32 = 32) : WNF wB (i + 1) = vp_updL (WNF wB i) (i / 7) (((((WNF wB i (i / 7)) * 27) + (((((wB (i)) &&& 255).toUInt32 % 65536).toInt32).toInt64)) - 97) + 1) := if_neg h
theorem xloopI {N nL : Nat} {D : va_G} {A : Nat → Prop} {H0 : Heap} {Wd : Nat → va_W} {Lc : Nat → List (Nat × Value)} {P : Heap → List Loc → Array Slot → Prop}
    (hz : ∀ (H : Heap) (locs : List Loc) (ls : Array Slot), va_P D vwCl (Wd N) H → va_D A (Wd N) → va_S A H0 H locs → lv_has ls nL (Lc N) → P H locs ls)
    (hs : ∀ i : Nat, i < N → (∀ (H : Heap) (locs : List Loc) (ls : Array Slot), va_P D vwCl (Wd (i + 1)) H → va_D A (Wd (i + 1)) → va_S A H0 H locs → lv_has ls nL (Lc (i + 1)) → P H locs ls) → ∀ (H : Heap) (locs : List Loc) (ls : Array Slot), va_P D vwCl (Wd i) H → va_D A (Wd i) → va_S A H0 H locs → lv_has ls nL (Lc i) → P H locs ls) :
    ∀ (H : Heap) (locs : List Loc) (ls : Array Slot), va_P D vwCl (Wd 0) H → va_D A (Wd 0) → va_S A H0 H locs → lv_has ls nL (Lc 0) → P H locs ls := by
  have key : ∀ n i : Nat, i + n = N → ∀ (H : Heap) (locs : List Loc) (ls : Array Slot), va_P D vwCl (Wd i) H → va_D A (Wd i) → va_S A H0 H locs → lv_has ls nL (Lc i) → P H locs ls := by
    intro n
    induction n with
    | zero =>
      intro i hi
      have e : i = N := by omega
      subst e
      exact hz
    | succ n ih =>
      intro i hi
      exact hs i (by omega) (ih (i + 1) (by omega))
  exact key N 0 (by omega)
