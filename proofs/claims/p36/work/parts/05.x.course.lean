/-! what a COURSE's text comes to, by its TOKENS alone -/
/-- settings told (bits), YARDS, men's names, BENDS, runners' names -/
abbrev CS : Type := Int32 × Int × List Int × Int × List Int
def tst (x k : Int32) : Int := ((x >>> (k &&& 31)) &&& 1).toInt
def cSet (T : Int → Tok) (t : Tok) (s : CS) (k : Int32) (lo hi : Int) : Sum Flt (Tok × CS) :=
  if tst s.1 k ≠ 0 then .inl (3, t.2.1) else bnd (num T (T t.2.2.2.2) lo hi) (fun u => .inr (u, (s.1 ||| (1 <<< (k &&& 31)), (if k = 0 then (T t.2.2.2.2).2.2.1 else s.2.1), s.2.2)))
def cMan (T : Int → Tok) (t : Tok) (s : CS) : Sum Flt (Tok × CS) :=
  if 12 ≤ s.2.2.1.length then .inl (4, t.2.1) else
  bnd (nam T (T t.2.2.2.2) s.2.2.1 s.2.2.2.2) (fun t1 => bnd (num T t1 1 9) (fun t2 => bnd (num T t2 1 9) (fun t3 => bnd (num T t3 50 150) (fun t4 =>
    .inr (t4, (s.1, s.2.1, s.2.2.1 ++ [(T t.2.2.2.2).2.2.2.1], s.2.2.2.1, s.2.2.2.2))))))
def cBend (T : Int → Tok) (t : Tok) (s : CS) : Sum Flt (Tok × CS) :=
  if 12 ≤ s.2.2.2.1 then .inl (4, t.2.1) else
  bnd (num T (T t.2.2.2.2) 1 9) (fun t1 => bnd (num T t1 0 9) (fun t2 => bnd (num T t2 0 9) (fun t3 => bnd (num T t3 1 99) (fun t4 =>
    .inr (t4, (s.1, s.2.1, s.2.2.1, s.2.2.2.1 + 1, s.2.2.2.2))))))
def cRun (T : Int → Tok) (t : Tok) (s : CS) : Sum Flt (Tok × CS) :=
  if 6 ≤ s.2.2.2.2.length then .inl (4, t.2.1) else
  bnd (nam T (T t.2.2.2.2) s.2.2.1 s.2.2.2.2) (fun t1 => bnd (num T t1 0 20) (fun t2 => bnd (num T t2 0 9) (fun t3 =>
    .inr (t3, (s.1, s.2.1, s.2.2.1, s.2.2.2.1, s.2.2.2.2 ++ [(T t.2.2.2.2).2.2.2.1])))))
def cLine (T : Int → Tok) (t : Tok) (s : CS) : Sum Flt (Tok × CS) :=
  if t.1 = 1 then
    (if wix t.2.2.2.1 = 0 then cSet T t s 0 5 40
    else if wix t.2.2.2.1 = 1 then cSet T t s 1 100 300
    else if wix t.2.2.2.1 = 2 then cSet T t s 2 300 900
    else if wix t.2.2.2.1 = 3 then cSet T t s 3 0 9
    else if wix t.2.2.2.1 = 4 then cSet T t s 4 0 20
    else if wix t.2.2.2.1 = 5 then cMan T t s
    else if wix t.2.2.2.1 = 6 then cBend T t s
    else if wix t.2.2.2.1 = 7 then cRun T t s
    else .inl (1, t.2.1))
  else .inl (1, t.2.1)
/-- all LINES: a FAULT with its place, or how many LINES and what they tell -/
def cAll (T : Int → Tok) : Nat → Tok → CS → Int → Sum Flt (Int × CS)
  | 0, _, s, n => .inr (n, s)
  | k + 1, t, s, n => if t.1 = 0 then .inr (n, s) else bnd (cLine T t s) (fun u => bnd (sgn T u.1 59) (fun v => cAll T k v u.2 (n + 1)))
def cAns (x : Sum Flt (Int × CS)) : Int :=
  match x with
  | .inl e => -1 - e.2
  | .inr u => u.1
def cTxt (f : Nat → Int32) (n : Int) : Sum Flt (Int × CS) := cAll (tkA f n 900) 900 (tkA f n 900 0) (0, 40, [], 0, []) 0
theorem cAns_l {x : Sum Flt (Int × CS)} {e : Flt} (h : x = .inl e) : cAns x = -1 - e.2 := by rw [h]; exact rfl
theorem cAns_r {x : Sum Flt (Int × CS)} {u : Int × CS} (h : x = .inr u) : cAns x = u.1 := by rw [h]; exact rfl
/-! any TOKEN: which LINE it begins -/
theorem cSet_t {T : Int → Tok} {t : Tok} {s : CS} {k : Int32} {lo hi : Int} (h : tst s.1 k ≠ 0) : cSet T t s k lo hi = .inl (3, t.2.1) := if_pos h
theorem cSet_f {T : Int → Tok} {t t1 : Tok} {s : CS} {k : Int32} {lo hi : Int} {e : Flt} (h : tst s.1 k = 0) (h1 : t1 = T t.2.2.2.2) (h2 : num T t1 lo hi = .inl e) : cSet T t s k lo hi = .inl e := by
  unfold cSet
  rw [if_neg (fun q => q h), ← h1, bnd_l h2]
theorem cSet_o {T : Int → Tok} {t t1 t2 : Tok} {s : CS} {k tl : Int32} {lo hi yd : Int} (h : tst s.1 k = 0) (h1 : t1 = T t.2.2.2.2) (h2 : num T t1 lo hi = .inr t2) (h3 : tl = s.1 ||| (1 <<< (k &&& 31))) (h4 : yd = if k = 0 then t1.2.2.1 else s.2.1) : cSet T t s k lo hi = .inr (t2, (tl, yd, s.2.2)) := by
  unfold cSet
  rw [if_neg (fun q => q h), ← h1, bnd_r h2, h3, h4]
theorem cMan_m {T : Int → Tok} {t : Tok} {s : CS} (h : 12 ≤ s.2.2.1.length) : cMan T t s = .inl (4, t.2.1) := if_pos h
theorem cMan_0 {T : Int → Tok} {t t1 : Tok} {s : CS} {e : Flt} (h : ¬ 12 ≤ s.2.2.1.length) (h1 : t1 = T t.2.2.2.2) (h2 : nam T t1 s.2.2.1 s.2.2.2.2 = .inl e) : cMan T t s = .inl e := by
  unfold cMan
  rw [if_neg h, ← h1, bnd_l h2]
theorem cMan_1 {T : Int → Tok} {t t1 t2 : Tok} {s : CS} {e : Flt} (h : ¬ 12 ≤ s.2.2.1.length) (h1 : t1 = T t.2.2.2.2) (h2 : nam T t1 s.2.2.1 s.2.2.2.2 = .inr t2) (h3 : num T t2 1 9 = .inl e) : cMan T t s = .inl e := by
  unfold cMan
  rw [if_neg h, ← h1, bnd_r h2, bnd_l h3]
theorem cMan_2 {T : Int → Tok} {t t1 t2 t3 : Tok} {s : CS} {e : Flt} (h : ¬ 12 ≤ s.2.2.1.length) (h1 : t1 = T t.2.2.2.2) (h2 : nam T t1 s.2.2.1 s.2.2.2.2 = .inr t2) (h3 : num T t2 1 9 = .inr t3) (h4 : num T t3 1 9 = .inl e) : cMan T t s = .inl e := by
  unfold cMan
  rw [if_neg h, ← h1, bnd_r h2, bnd_r h3, bnd_l h4]
theorem cMan_3 {T : Int → Tok} {t t1 t2 t3 t4 : Tok} {s : CS} {e : Flt} (h : ¬ 12 ≤ s.2.2.1.length) (h1 : t1 = T t.2.2.2.2) (h2 : nam T t1 s.2.2.1 s.2.2.2.2 = .inr t2) (h3 : num T t2 1 9 = .inr t3) (h4 : num T t3 1 9 = .inr t4) (h5 : num T t4 50 150 = .inl e) : cMan T t s = .inl e := by
  unfold cMan
  rw [if_neg h, ← h1, bnd_r h2, bnd_r h3, bnd_r h4, bnd_l h5]
theorem cMan_o {T : Int → Tok} {t t1 t2 t3 t4 t5 : Tok} {s : CS} {ms : List Int} (h : ¬ 12 ≤ s.2.2.1.length) (h1 : t1 = T t.2.2.2.2) (h2 : nam T t1 s.2.2.1 s.2.2.2.2 = .inr t2) (h3 : num T t2 1 9 = .inr t3) (h4 : num T t3 1 9 = .inr t4) (h5 : num T t4 50 150 = .inr t5) (h6 : ms = s.2.2.1 ++ [t1.2.2.2.1]) : cMan T t s = .inr (t5, (s.1, s.2.1, ms, s.2.2.2.1, s.2.2.2.2)) := by
  unfold cMan
  rw [if_neg h, ← h1, bnd_r h2, bnd_r h3, bnd_r h4, bnd_r h5, h6]
theorem cBend_m {T : Int → Tok} {t : Tok} {s : CS} (h : 12 ≤ s.2.2.2.1) : cBend T t s = .inl (4, t.2.1) := if_pos h
theorem cBend_0 {T : Int → Tok} {t t1 : Tok} {s : CS} {e : Flt} (h : ¬ 12 ≤ s.2.2.2.1) (h1 : t1 = T t.2.2.2.2) (h2 : num T t1 1 9 = .inl e) : cBend T t s = .inl e := by
  unfold cBend
  rw [if_neg h, ← h1, bnd_l h2]
theorem cBend_1 {T : Int → Tok} {t t1 t2 : Tok} {s : CS} {e : Flt} (h : ¬ 12 ≤ s.2.2.2.1) (h1 : t1 = T t.2.2.2.2) (h2 : num T t1 1 9 = .inr t2) (h3 : num T t2 0 9 = .inl e) : cBend T t s = .inl e := by
  unfold cBend
  rw [if_neg h, ← h1, bnd_r h2, bnd_l h3]
theorem cBend_2 {T : Int → Tok} {t t1 t2 t3 : Tok} {s : CS} {e : Flt} (h : ¬ 12 ≤ s.2.2.2.1) (h1 : t1 = T t.2.2.2.2) (h2 : num T t1 1 9 = .inr t2) (h3 : num T t2 0 9 = .inr t3) (h4 : num T t3 0 9 = .inl e) : cBend T t s = .inl e := by
  unfold cBend
  rw [if_neg h, ← h1, bnd_r h2, bnd_r h3, bnd_l h4]
theorem cBend_3 {T : Int → Tok} {t t1 t2 t3 t4 : Tok} {s : CS} {e : Flt} (h : ¬ 12 ≤ s.2.2.2.1) (h1 : t1 = T t.2.2.2.2) (h2 : num T t1 1 9 = .inr t2) (h3 : num T t2 0 9 = .inr t3) (h4 : num T t3 0 9 = .inr t4) (h5 : num T t4 1 99 = .inl e) : cBend T t s = .inl e := by
  unfold cBend
  rw [if_neg h, ← h1, bnd_r h2, bnd_r h3, bnd_r h4, bnd_l h5]
theorem cBend_o {T : Int → Tok} {t t1 t2 t3 t4 t5 : Tok} {s : CS} {b : Int} (h : ¬ 12 ≤ s.2.2.2.1) (h1 : t1 = T t.2.2.2.2) (h2 : num T t1 1 9 = .inr t2) (h3 : num T t2 0 9 = .inr t3) (h4 : num T t3 0 9 = .inr t4) (h5 : num T t4 1 99 = .inr t5) (h6 : b = s.2.2.2.1 + 1) : cBend T t s = .inr (t5, (s.1, s.2.1, s.2.2.1, b, s.2.2.2.2)) := by
  unfold cBend
  rw [if_neg h, ← h1, bnd_r h2, bnd_r h3, bnd_r h4, bnd_r h5, h6]
theorem cRun_m {T : Int → Tok} {t : Tok} {s : CS} (h : 6 ≤ s.2.2.2.2.length) : cRun T t s = .inl (4, t.2.1) := if_pos h
theorem cRun_0 {T : Int → Tok} {t t1 : Tok} {s : CS} {e : Flt} (h : ¬ 6 ≤ s.2.2.2.2.length) (h1 : t1 = T t.2.2.2.2) (h2 : nam T t1 s.2.2.1 s.2.2.2.2 = .inl e) : cRun T t s = .inl e := by
  unfold cRun
  rw [if_neg h, ← h1, bnd_l h2]
theorem cRun_1 {T : Int → Tok} {t t1 t2 : Tok} {s : CS} {e : Flt} (h : ¬ 6 ≤ s.2.2.2.2.length) (h1 : t1 = T t.2.2.2.2) (h2 : nam T t1 s.2.2.1 s.2.2.2.2 = .inr t2) (h3 : num T t2 0 20 = .inl e) : cRun T t s = .inl e := by
  unfold cRun
  rw [if_neg h, ← h1, bnd_r h2, bnd_l h3]
theorem cRun_2 {T : Int → Tok} {t t1 t2 t3 : Tok} {s : CS} {e : Flt} (h : ¬ 6 ≤ s.2.2.2.2.length) (h1 : t1 = T t.2.2.2.2) (h2 : nam T t1 s.2.2.1 s.2.2.2.2 = .inr t2) (h3 : num T t2 0 20 = .inr t3) (h4 : num T t3 0 9 = .inl e) : cRun T t s = .inl e := by
  unfold cRun
  rw [if_neg h, ← h1, bnd_r h2, bnd_r h3, bnd_l h4]
theorem cRun_o {T : Int → Tok} {t t1 t2 t3 t4 : Tok} {s : CS} {rs : List Int} (h : ¬ 6 ≤ s.2.2.2.2.length) (h1 : t1 = T t.2.2.2.2) (h2 : nam T t1 s.2.2.1 s.2.2.2.2 = .inr t2) (h3 : num T t2 0 20 = .inr t3) (h4 : num T t3 0 9 = .inr t4) (h5 : rs = s.2.2.2.2 ++ [t1.2.2.2.1]) : cRun T t s = .inr (t4, (s.1, s.2.1, s.2.2.1, s.2.2.2.1, rs)) := by
  unfold cRun
  rw [if_neg h, ← h1, bnd_r h2, bnd_r h3, bnd_r h4, h5]
theorem cLine_w {T : Int → Tok} {t : Tok} {s : CS} (h : t.1 = 1) : cLine T t s =
    (if wix t.2.2.2.1 = 0 then cSet T t s 0 5 40
    else if wix t.2.2.2.1 = 1 then cSet T t s 1 100 300
    else if wix t.2.2.2.1 = 2 then cSet T t s 2 300 900
    else if wix t.2.2.2.1 = 3 then cSet T t s 3 0 9
    else if wix t.2.2.2.1 = 4 then cSet T t s 4 0 20
    else if wix t.2.2.2.1 = 5 then cMan T t s
    else if wix t.2.2.2.1 = 6 then cBend T t s
    else if wix t.2.2.2.1 = 7 then cRun T t s
    else .inl (1, t.2.1)) := if_pos h
theorem cLine_0 {T : Int → Tok} {t : Tok} {s : CS} (h : t.1 = 1) (hw : wix t.2.2.2.1 = 0) : cLine T t s = cSet T t s 0 5 40 := by
  rw [cLine_w h, hw, if_pos rfl]
theorem cLine_1 {T : Int → Tok} {t : Tok} {s : CS} (h : t.1 = 1) (hw : wix t.2.2.2.1 = 1) : cLine T t s = cSet T t s 1 100 300 := by
  rw [cLine_w h, hw, if_neg (by decide), if_pos rfl]
theorem cLine_2 {T : Int → Tok} {t : Tok} {s : CS} (h : t.1 = 1) (hw : wix t.2.2.2.1 = 2) : cLine T t s = cSet T t s 2 300 900 := by
  rw [cLine_w h, hw, if_neg (by decide), if_neg (by decide), if_pos rfl]
theorem cLine_3 {T : Int → Tok} {t : Tok} {s : CS} (h : t.1 = 1) (hw : wix t.2.2.2.1 = 3) : cLine T t s = cSet T t s 3 0 9 := by
  rw [cLine_w h, hw, if_neg (by decide), if_neg (by decide), if_neg (by decide), if_pos rfl]
theorem cLine_4 {T : Int → Tok} {t : Tok} {s : CS} (h : t.1 = 1) (hw : wix t.2.2.2.1 = 4) : cLine T t s = cSet T t s 4 0 20 := by
  rw [cLine_w h, hw, if_neg (by decide), if_neg (by decide), if_neg (by decide), if_neg (by decide), if_pos rfl]
theorem cLine_5 {T : Int → Tok} {t : Tok} {s : CS} (h : t.1 = 1) (hw : wix t.2.2.2.1 = 5) : cLine T t s = cMan T t s := by
  rw [cLine_w h, hw, if_neg (by decide), if_neg (by decide), if_neg (by decide), if_neg (by decide), if_neg (by decide), if_pos rfl]
theorem cLine_6 {T : Int → Tok} {t : Tok} {s : CS} (h : t.1 = 1) (hw : wix t.2.2.2.1 = 6) : cLine T t s = cBend T t s := by
  rw [cLine_w h, hw, if_neg (by decide), if_neg (by decide), if_neg (by decide), if_neg (by decide), if_neg (by decide), if_neg (by decide), if_pos rfl]
theorem cLine_7 {T : Int → Tok} {t : Tok} {s : CS} (h : t.1 = 1) (hw : wix t.2.2.2.1 = 7) : cLine T t s = cRun T t s := by
  rw [cLine_w h, hw, if_neg (by decide), if_neg (by decide), if_neg (by decide), if_neg (by decide), if_neg (by decide), if_neg (by decide), if_neg (by decide), if_pos rfl]
theorem cLine_n {T : Int → Tok} {t : Tok} {s : CS} (h : t.1 = 1 → wix t.2.2.2.1 < 0 ∨ 7 < wix t.2.2.2.1) : cLine T t s = .inl (1, t.2.1) := by
  by_cases h1 : t.1 = 1
  · have h2 := h h1
    rw [cLine_w h1, if_neg (by omega), if_neg (by omega), if_neg (by omega), if_neg (by omega), if_neg (by omega), if_neg (by omega), if_neg (by omega), if_neg (by omega)]
  · exact if_neg h1
/-! the LINES, one by one -/
def CA (T : Int → Tok) (t0 : Tok) (s0 : CS) (N : Int) (t : Tok) (s : CS) (n : Int) : Prop := cAll T N.toNat t0 s0 0 = cAll T (N - n).toNat t s n
theorem CA.zero {T : Int → Tok} {t : Tok} {s : CS} {N : Int} : CA T t s N t s 0 := by
  show cAll T N.toNat t s 0 = cAll T (N - 0).toNat t s 0
  rw [Int.sub_zero]
theorem CA.step {T : Int → Tok} {t0 t t1 t2 : Tok} {s0 s s1 : CS} {N n n2 : Int} (h : CA T t0 s0 N t s n) (hn : n < N) (h0 : t.1 ≠ 0) (h1 : cLine T t s = .inr (t1, s1)) (h2 : sgn T t1 59 = .inr t2) (hm : n2 = n + 1) : CA T t0 s0 N t2 s1 n2 := by
  unfold CA at h ⊢
  rw [h, show (N - n).toNat = (N - n2).toNat + 1 by omega]
  show (if t.1 = 0 then _ else bnd (cLine T t s) _) = _
  rw [if_neg h0, bnd_r h1]
  show bnd (sgn T t1 59) _ = _
  rw [bnd_r h2, hm]
theorem CA.bad1 {T : Int → Tok} {t0 t : Tok} {s0 s : CS} {N n : Int} {e : Flt} (h : CA T t0 s0 N t s n) (hn : n < N) (h0 : t.1 ≠ 0) (h1 : cLine T t s = .inl e) : cAll T N.toNat t0 s0 0 = .inl e := by
  unfold CA at h
  rw [h, show (N - n).toNat = (N - (n + 1)).toNat + 1 by omega]
  show (if t.1 = 0 then _ else bnd (cLine T t s) _) = _
  rw [if_neg h0, bnd_l h1]
theorem CA.bad2 {T : Int → Tok} {t0 t t1 : Tok} {s0 s s1 : CS} {N n : Int} {e : Flt} (h : CA T t0 s0 N t s n) (hn : n < N) (h0 : t.1 ≠ 0) (h1 : cLine T t s = .inr (t1, s1)) (h2 : sgn T t1 59 = .inl e) : cAll T N.toNat t0 s0 0 = .inl e := by
  unfold CA at h
  rw [h, show (N - n).toNat = (N - (n + 1)).toNat + 1 by omega]
  show (if t.1 = 0 then _ else bnd (cLine T t s) _) = _
  rw [if_neg h0, bnd_r h1]
  show bnd (sgn T t1 59) _ = _
  rw [bnd_l h2]
theorem CA.fin {T : Int → Tok} {t0 t : Tok} {s0 s : CS} {N n : Int} (h : CA T t0 s0 N t s n) (he : N ≤ n ∨ t.1 = 0) : cAll T N.toNat t0 s0 0 = .inr (n, s) := by
  unfold CA at h
  rw [h]
  by_cases hn : N ≤ n
  · rw [show (N - n).toNat = 0 by omega]
    exact rfl
  · rw [show (N - n).toNat = (N - (n + 1)).toNat + 1 by omega]
    show (if t.1 = 0 then _ else _) = _
    rw [if_pos (he.resolve_left hn)]
/-! the class's COURSE -/
def csC (tl : Int32) (st : Nat → Int32) (men : Int32) (mn : Nat → Int64) (bn rn : Int32) (rr : Nat → Int64) : CS := (tl, (st 0).toInt, nmL mn men.toInt, bn.toInt, nmL rr rn.toInt)
theorem tkC_1st {k a v p : Int32} {nm : Int64} (h : k.toInt = 2) : (tkC k a v nm p).1 = 1 := by rw [tkC_2 h]
theorem tkC_nm {k a v p : Int32} {nm : Int64} (h : k.toInt = 2) : (tkC k a v nm p).2.2.2.1 = nm.toInt := by rw [tkC_2 h]
theorem tkC_at {k a v p : Int32} {nm : Int64} (h : k.toInt = 2) : (tkC k a v nm p).2.2.2.2 = p.toInt := by rw [tkC_2 h]
theorem tkC_v {k a v p : Int32} {nm : Int64} (h : k.toInt = 3) : (tkC k a v nm p).2.2.1 = v.toInt := by rw [tkC_3 h]
theorem tkC_end {k a v p : Int32} {nm : Int64} : (tkC k a v nm p).1 = 0 ↔ k.toInt = 0 := by
  by_cases h0 : k.toInt = 0
  · rw [tkC_0 h0]
    exact ⟨fun _ => h0, fun _ => rfl⟩
  · refine ⟨fun h => ?_, fun h => absurd h h0⟩
    by_cases h1 : k.toInt = 1
    · rw [tkC_1 h1] at h
      exact absurd (show (4 : Int) = 0 from h) (by decide)
    · by_cases h2 : k.toInt = 2
      · rw [tkC_2 h2] at h
        exact absurd (show (1 : Int) = 0 from h) (by decide)
      · by_cases h3 : k.toInt = 3
        · rw [tkC_3 h3] at h
          exact absurd (show (2 : Int) = 0 from h) (by decide)
        · rw [tkC_s h0 h1 h2 h3] at h
          exact absurd (show (3 : Int) = 0 from h) (by decide)
theorem tkC_1n {k a v p : Int32} {nm : Int64} (h : (tkC k a v nm p).1 = 1) : k.toInt = 2 := by
  by_cases h0 : k.toInt = 0
  · rw [tkC_0 h0] at h
    exact absurd (show (0 : Int) = 1 from h) (by decide)
  · by_cases h1 : k.toInt = 1
    · rw [tkC_1 h1] at h
      exact absurd (show (4 : Int) = 1 from h) (by decide)
    · by_cases h2 : k.toInt = 2
      · exact h2
      · by_cases h3 : k.toInt = 3
        · rw [tkC_3 h3] at h
          exact absurd (show (2 : Int) = 1 from h) (by decide)
        · rw [tkC_s h0 h1 h2 h3] at h
          exact absurd (show (3 : Int) = 1 from h) (by decide)
theorem upd_0 {f g : Nat → Int32} {x : Int32} {k : Nat} (e : upd f k x = g) (h : k = 0) : (g 0).toInt = x.toInt := by
  rw [← e, h, pk_us]
theorem upd_n {f g : Nat → Int32} {x : Int32} {k : Nat} (e : upd f k x = g) (h : k ≠ 0) : (g 0).toInt = (f 0).toInt := by
  rw [← e, pk_un (fun q => h q.symm)]
