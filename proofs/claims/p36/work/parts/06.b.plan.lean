/-! what a PLAN's text comes to, by its TOKENS alone -/
theorem wixK_bd {w : Int} : ∀ (l : List Int) (i : Int), 0 ≤ i → wixK l i w = -1 ∨ (i ≤ wixK l i w ∧ wixK l i w < i + l.length) := by
  intro l
  induction l with
  | nil => intro i _; exact Or.inl rfl
  | cons a l ih =>
    intro i hi
    show (if a = w then i else wixK l (i + 1) w) = -1 ∨ (i ≤ (if a = w then i else wixK l (i + 1) w) ∧ (if a = w then i else wixK l (i + 1) w) < i + ((a :: l).length : Nat))
    rw [List.length_cons]
    by_cases h : a = w
    · rw [if_pos h]
      exact Or.inr ⟨Int.le_refl _, by omega⟩
    · rw [if_neg h]
      rcases ih (i + 1) (by omega) with h2 | h2
      · exact Or.inl h2
      · exact Or.inr ⟨by omega, by omega⟩
/-- a NAME that is told, and not among some -/
def nmx (T : Int → Tok) (t : Tok) (ms l : List Int) : Sum Flt (Int × Tok) :=
  if t.1 = 1 ∧ wix t.2.2.2.1 = -1 then (if wixK ms 0 t.2.2.2.1 = -1 ∨ wixK l 0 (wixK ms 0 t.2.2.2.1) ≠ -1 then .inl (3, t.2.1) else .inr (wixK ms 0 t.2.2.2.1, T t.2.2.2.2)) else .inl (1, t.2.1)
theorem nmx_1 {T : Int → Tok} {t t1 : Tok} {ms l : List Int} {m : Int} (h0 : t.1 = 1) (hn : wix t.2.2.2.1 = -1) (hm : m = wixK ms 0 t.2.2.2.1) (h1 : m ≠ -1) (hl : wixK l 0 m = -1) (ht : t1 = T t.2.2.2.2) : nmx T t ms l = .inr (m, t1) := by
  unfold nmx
  rw [if_pos ⟨h0, hn⟩, ← hm, if_neg (fun q => q.elim h1 (fun z => z hl)), ht]
theorem nmx_m {T : Int → Tok} {t : Tok} {ms l : List Int} {m : Int} (h0 : t.1 = 1) (hn : wix t.2.2.2.1 = -1) (hm : m = wixK ms 0 t.2.2.2.1) (h1 : m = -1 ∨ wixK l 0 m ≠ -1) : nmx T t ms l = .inl (3, t.2.1) := by
  unfold nmx
  rw [if_pos ⟨h0, hn⟩, ← hm, if_pos h1]
theorem nmx_n {T : Int → Tok} {t : Tok} {ms l : List Int} (h : ¬ (t.1 = 1 ∧ wix t.2.2.2.1 = -1)) : nmx T t ms l = .inl (1, t.2.1) := if_neg h
theorem nmxC_1 {T : Int → Tok} {k a v p : Int32} {nm : Int64} {ms l : List Int} {m : Int} {t1 : Tok} (hk : k.toInt = 2) (hv : v.toInt = -1) (hw : k.toInt = 2 → v.toInt = wix nm.toInt) (hm : m = wixK ms 0 nm.toInt) (h1 : m ≠ -1) (hl : wixK l 0 m = -1) (ht : t1 = T p.toInt) : nmx T (tkC k a v nm p) ms l = .inr (m, t1) := by
  have hx := hw hk
  refine nmx_1 (tkC_1st hk) ?_ ?_ h1 hl ?_
  · rw [tkC_nm hk, ← hx, hv]
  · rw [tkC_nm hk, hm]
  · rw [tkC_at hk, ht]
theorem nmxC_0 {T : Int → Tok} {k a v p fk fp : Int32} {nm : Int64} {ms l : List Int} {m : Int} (hw : k.toInt = 2 → v.toInt = wix nm.toInt) (h : (¬ (k.toInt = 2 ∧ v.toInt = -1) ∧ fk.toInt = 1 ∧ fp.toInt = a.toInt) ∨ (k.toInt = 2 ∧ v.toInt = -1 ∧ m = wixK ms 0 nm.toInt ∧ (m = -1 ∨ wixK l 0 m ≠ -1) ∧ fk.toInt = 3 ∧ fp.toInt = a.toInt)) : nmx T (tkC k a v nm p) ms l = .inl (fk.toInt, fp.toInt) := by
  rcases h with ⟨hn, h1, h2⟩ | ⟨hk, hv, hm, hl, h1, h2⟩
  · rw [nmx_n, tkC_pl, h1, h2]
    intro q
    have hk := tkC_1n q.1
    have q2 := q.2
    rw [tkC_nm hk, ← hw hk] at q2
    exact hn ⟨hk, q2⟩
  · have hx := hw hk
    rw [nmx_m (m := m) (tkC_1st hk) (by rw [tkC_nm hk, ← hx, hv]) (by rw [tkC_nm hk, hm]) hl, tkC_pl, h1, h2]
theorem nmxM_1 {T : Int → Tok} {t a nu p : Int32} {w : Int64} {ms l : List Int} {m : Int} {t1 : Tok} (ht : t.toInt = 1) (hw : wix (g27 w.toInt) = -1) (hm : m = wixK ms 0 (g27 w.toInt)) (h1 : m ≠ -1) (hl : wixK l 0 m = -1) (h : t1 = T p.toInt) : nmx T (tkM t a nu w p) ms l = .inr (m, t1) := by
  refine nmx_1 (tkM_1st ht) ?_ ?_ h1 hl (atM h ht)
  · rw [tkM_w ht, hw]
  · rw [tkM_w ht, hm]
theorem nmxM_0 {T : Int → Tok} {t a nu p fk fp : Int32} {w : Int64} {ms l : List Int} {m : Int} (h : (¬ (t.toInt = 1 ∧ wix (g27 w.toInt) = -1) ∧ fk.toInt = 1 ∧ fp.toInt = a.toInt) ∨ (t.toInt = 1 ∧ wix (g27 w.toInt) = -1 ∧ m = wixK ms 0 (g27 w.toInt) ∧ (m = -1 ∨ wixK l 0 m ≠ -1) ∧ fk.toInt = 3 ∧ fp.toInt = a.toInt)) : nmx T (tkM t a nu w p) ms l = .inl (fk.toInt, fp.toInt) := by
  rcases h with ⟨hn, h1, h2⟩ | ⟨ht, hv, hm, hl, h1, h2⟩
  · rw [nmx_n, h1, h2]
    · exact rfl
    · intro q
      have q1 : t.toInt = 1 := q.1
      have q2 := q.2
      rw [tkM_w q1] at q2
      exact hn ⟨q1, q2⟩
  · rw [nmx_m (m := m) (tkM_1st ht) (by rw [tkM_w ht, hv]) (by rw [tkM_w ht, hm]) hl, h1, h2]
    exact rfl
/-- k MEN behind one another, unlike -/
def crw (T : Int → Tok) (ms : List Int) : Nat → Tok → List Int → Sum Flt (List Int × Tok)
  | 0, t, l => .inr (l, t)
  | k + 1, t, l => bnd (nmx T t ms l) (fun u => crw T ms k u.2 (l ++ [u.1]))
def CW (T : Int → Tok) (ms : List Int) (t0 t : Tok) (l : List Int) (n : Int) : Prop := crw T ms 4 t0 [] = crw T ms (4 - n).toNat t l
theorem CW.zero {T : Int → Tok} {ms : List Int} {t : Tok} : CW T ms t t [] 0 := rfl
theorem CW.step {T : Int → Tok} {ms l l' : List Int} {t0 t t1 : Tok} {n n' m : Int} (h : CW T ms t0 t l n) (hn : n < 4) (h1 : nmx T t ms l = .inr (m, t1)) (hl : l' = l ++ [m]) (e : n' = n + 1) : CW T ms t0 t1 l' n' := by
  unfold CW at h ⊢
  rw [h, show (4 - n).toNat = (4 - n').toNat + 1 by omega]
  show bnd (nmx T t ms l) _ = _
  rw [bnd_r h1, hl]
theorem CW.bad {T : Int → Tok} {ms l : List Int} {t0 t : Tok} {n : Int} {e : Flt} (h : CW T ms t0 t l n) (hn : n < 4) (h1 : nmx T t ms l = .inl e) : crw T ms 4 t0 [] = .inl e := by
  unfold CW at h
  rw [h, show (4 - n).toNat = (4 - (n + 1)).toNat + 1 by omega]
  show bnd (nmx T t ms l) _ = _
  rw [bnd_l h1]
theorem CW.fin {T : Int → Tok} {ms l : List Int} {t0 t : Tok} {n : Int} (h : CW T ms t0 t l n) (hn : 4 ≤ n) : crw T ms 4 t0 [] = .inr (l, t) := by
  unfold CW at h
  rw [h, show (4 - n).toNat = 0 by omega]
  exact rfl
/-- a row's first n from a place on, as numbers -/
def gJ (f : Nat → Int32) (o i : Nat) : Int := (f (o + i)).toInt
theorem gJ_at {f : Nat → Int32} {v : Int32} {o : Nat} {i : Int} (h : v.toInt = (o : Int) + i) (h0 : 0 ≤ i) : (f v.toNatClampNeg).toInt = gJ f o i.toNat := by
  have hk : v.toNatClampNeg = o + i.toNat := by rw [cl_nat]; omega
  rw [hk]
  exact rfl
def nmJ (f : Nat → Int32) (o : Nat) (n : Int) : List Int := nmG (gJ f o) n.toNat
theorem nmJ_z {f : Nat → Int32} {o : Nat} {n : Int} (h : n ≤ 0) : nmJ f o n = [] := by
  unfold nmJ
  rw [show n.toNat = 0 by omega]
  exact rfl
theorem nmJ_up {f g : Nat → Int32} {i x : Int32} {o : Nat} {n n' m : Int} (e : upd f i.toNatClampNeg x = g) (hi : i.toInt = (o : Int) + n) (h0 : 0 ≤ n) (hn : n' = n + 1) (hm : m = x.toInt) : nmJ g o n' = nmJ f o n ++ [m] := by
  unfold nmJ
  rw [hn, hm, show (n + 1).toNat = n.toNat + 1 by omega, nmG_app, ← e]
  have hk : i.toNatClampNeg = o + n.toNat := by rw [cl_nat, hi]; omega
  rw [hk]
  congr 1
  · refine nmG_eq (fun j hj => ?_)
    show (upd f (o + n.toNat) x (o + j)).toInt = (f (o + j)).toInt
    rw [pk_un (by omega)]
  · show [(upd f (o + n.toNat) x (o + n.toNat)).toInt] = [x.toInt]
    rw [pk_us]
theorem nmJ_un {f g : Nat → Int32} {i x : Int32} {o : Nat} {n : Int} (e : upd f i.toNatClampNeg x = g) (hi : i.toInt < o ∨ (o : Int) + n ≤ i.toInt) (h0 : 0 ≤ i.toInt) : nmJ g o n = nmJ f o n := by
  unfold nmJ
  refine nmG_eq (fun j hj => ?_)
  rw [← e]
  show (upd f i.toNatClampNeg x (o + j)).toInt = (f (o + j)).toInt
  rw [pk_un (by rw [cl_nat]; omega)]
/-- a jump, behind its WORD: c whether there is a crew, cr the crew, ju who was told -/
def pJmp (T : Int → Tok) (ms : List Int) (yd : Int) (t : Tok) (c : Int) (cr : List Int) (ju : Int32) : Sum Flt (Tok × Int32) :=
  bnd (nmx T t ms []) (fun u => if c = 1 ∧ wixK cr 0 u.1 ≠ -1 ∧ tst ju (Int32.ofInt (wixK cr 0 u.1)) = 0 then bnd (num T u.2 0 (yd - 1)) (fun v => .inr (v, ju ||| (1 <<< (Int32.ofInt (wixK cr 0 u.1) &&& 31)))) else .inl (3, t.2.1))
theorem pJmp_n {T : Int → Tok} {ms cr : List Int} {yd c : Int} {t : Tok} {ju : Int32} {e : Flt} (h : nmx T t ms [] = .inl e) : pJmp T ms yd t c cr ju = .inl e := bnd_l h
theorem pJmp_m {T : Int → Tok} {ms cr : List Int} {yd c m : Int} {t t1 : Tok} {ju : Int32} (h : nmx T t ms [] = .inr (m, t1)) (hc : ¬ (c = 1 ∧ wixK cr 0 m ≠ -1 ∧ tst ju (Int32.ofInt (wixK cr 0 m)) = 0)) : pJmp T ms yd t c cr ju = .inl (3, t.2.1) := (bnd_r h).trans (if_neg hc)
theorem pJmp_y {T : Int → Tok} {ms cr : List Int} {yd yd' c m : Int} {t t1 : Tok} {ju r : Int32} {e : Flt} (h : nmx T t ms [] = .inr (m, t1)) (hc : c = 1) (hr : r.toInt = wixK cr 0 m) (h1 : r.toInt ≠ -1) (hj : tst ju r = 0) (hn : num T t1 0 yd' = .inl e) (hy : yd' = yd - 1) : pJmp T ms yd t c cr ju = .inl e := by
  refine (bnd_r h).trans ?_
  show (if c = 1 ∧ wixK cr 0 m ≠ -1 ∧ tst ju (Int32.ofInt (wixK cr 0 m)) = 0 then bnd (num T t1 0 (yd - 1)) _ else _) = _
  rw [ofi hr, if_pos ⟨hc, by rw [← hr]; exact h1, hj⟩, ← hy, bnd_l hn]
theorem pJmp_o {T : Int → Tok} {ms cr : List Int} {yd yd' c m : Int} {t t1 t2 : Tok} {ju ju' r : Int32} (h : nmx T t ms [] = .inr (m, t1)) (hc : c = 1) (hr : r.toInt = wixK cr 0 m) (h1 : r.toInt ≠ -1) (hj : tst ju r = 0) (hn : num T t1 0 yd' = .inr t2) (hy : yd' = yd - 1) (hu : ju' = ju ||| (1 <<< (r &&& 31))) : pJmp T ms yd t c cr ju = .inr (t2, ju') := by
  refine (bnd_r h).trans ?_
  show (if c = 1 ∧ wixK cr 0 m ≠ -1 ∧ tst ju (Int32.ofInt (wixK cr 0 m)) = 0 then bnd (num T t1 0 (yd - 1)) _ else _) = _
  rw [ofi hr, if_pos ⟨hc, by rw [← hr]; exact h1, hj⟩, ← hy, bnd_r hn, hu]
/-- a HEIGHT, behind its WORD: he which BENDS were told -/
def pHgh (T : Int → Tok) (bn : Int) (t : Tok) (he : Int32) : Sum Flt (Tok × Int32) :=
  if t.1 = 2 then
    (if bn ≤ t.2.2.1 then .inl (2, t.2.1)
    else if tst he (Int32.ofInt t.2.2.1) ≠ 0 then .inl (3, t.2.1)
    else bnd (num T (T t.2.2.2.2) 0 9) (fun w => .inr (w, he ||| (1 <<< (Int32.ofInt t.2.2.1 &&& 31)))))
  else .inl (1, t.2.1)
theorem pHgh_1 {T : Int → Tok} {bn : Int} {t : Tok} {he : Int32} (h : t.1 ≠ 2) : pHgh T bn t he = .inl (1, t.2.1) := if_neg h
theorem pHgh_2 {T : Int → Tok} {bn : Int} {t : Tok} {he : Int32} (h : t.1 = 2) (hb : bn ≤ t.2.2.1) : pHgh T bn t he = .inl (2, t.2.1) := by
  unfold pHgh
  rw [if_pos h, if_pos hb]
theorem pHgh_3 {T : Int → Tok} {bn : Int} {t : Tok} {he v : Int32} (h : t.1 = 2) (hv : v.toInt = t.2.2.1) (hb : v.toInt < bn) (hs : tst he v ≠ 0) : pHgh T bn t he = .inl (3, t.2.1) := by
  unfold pHgh
  rw [if_pos h, if_neg (by omega), ofi hv, if_pos hs]
theorem pHgh_4 {T : Int → Tok} {bn : Int} {t t1 : Tok} {he v : Int32} {e : Flt} (h : t.1 = 2) (hv : v.toInt = t.2.2.1) (hb : v.toInt < bn) (hs : tst he v = 0) (h1 : t1 = T t.2.2.2.2) (hn : num T t1 0 9 = .inl e) : pHgh T bn t he = .inl e := by
  unfold pHgh
  rw [if_pos h, if_neg (by omega), ofi hv, if_neg (fun q => q hs), ← h1, bnd_l hn]
theorem pHgh_o {T : Int → Tok} {bn : Int} {t t1 t2 : Tok} {he he' v : Int32} (h : t.1 = 2) (hv : v.toInt = t.2.2.1) (hb : v.toInt < bn) (hs : tst he v = 0) (h1 : t1 = T t.2.2.2.2) (hn : num T t1 0 9 = .inr t2) (hu : he' = he ||| (1 <<< (v &&& 31))) : pHgh T bn t he = .inr (t2, he') := by
  unfold pHgh
  rw [if_pos h, if_neg (by omega), ofi hv, if_neg (fun q => q hs), ← h1, bnd_r hn, hu]
/-- YARDS, MEN, BENDS, RUNNERS of the COURSE; crew, lead, RUNNER, number told, the crew, jumps, HEIGHTS told -/
abbrev PC : Type := Int × List Int × Int × List Int
abbrev PS : Type := Int × Int × Int × Int × List Int × Int32 × Int32
def pLine (T : Int → Tok) (pc : PC) (t : Tok) (s : PS) : Sum Flt (Tok × PS) :=
  if t.1 = 1 then
    (if wix t.2.2.2.1 = 8 then (if s.1 ≠ 0 then .inl (3, t.2.1) else bnd (crw T pc.2.1 4 (T t.2.2.2.2) []) (fun u => .inr (u.2, (1, s.2.1, s.2.2.1, s.2.2.2.1, u.1, s.2.2.2.2.2.1, s.2.2.2.2.2.2))))
    else if wix t.2.2.2.1 = 9 then bnd (pJmp T pc.2.1 pc.1 (T t.2.2.2.2) s.1 s.2.2.2.2.1 s.2.2.2.2.2.1) (fun u => .inr (u.1, (s.1, s.2.1, s.2.2.1, s.2.2.2.1, s.2.2.2.2.1, u.2, s.2.2.2.2.2.2)))
    else if wix t.2.2.2.1 = 10 then (if s.2.1 ≠ 0 then .inl (3, t.2.1) else bnd (num T (T t.2.2.2.2) 0 99) (fun u => .inr (u, (s.1, 1, s.2.2.1, s.2.2.2.1, s.2.2.2.2.1, s.2.2.2.2.2.1, s.2.2.2.2.2.2))))
    else if wix t.2.2.2.1 = 11 then bnd (pHgh T pc.2.2.1 (T t.2.2.2.2) s.2.2.2.2.2.2) (fun u => .inr (u.1, (s.1, s.2.1, s.2.2.1, s.2.2.2.1, s.2.2.2.2.1, s.2.2.2.2.2.1, u.2)))
    else if wix t.2.2.2.1 = 12 then (if s.2.2.1 ≠ 0 then .inl (3, t.2.1) else bnd (nmx T (T t.2.2.2.2) pc.2.2.2 []) (fun u => .inr (u.2, (s.1, s.2.1, 1, s.2.2.2.1, s.2.2.2.2.1, s.2.2.2.2.2.1, s.2.2.2.2.2.2))))
    else if wix t.2.2.2.1 = 13 then (if s.2.2.2.1 ≠ 0 then .inl (3, t.2.1) else bnd (num T (T t.2.2.2.2) 1 60) (fun u => .inr (u, (s.1, s.2.1, s.2.2.1, 1, s.2.2.2.2.1, s.2.2.2.2.2.1, s.2.2.2.2.2.2))))
    else .inl (1, t.2.1))
  else .inl (1, t.2.1)
theorem pl8_t {T : Int → Tok} {pc : PC} {t : Tok} {s : PS} (h : t.1 = 1) (hw : wix t.2.2.2.1 = 8) (hs : s.1 ≠ 0) : pLine T pc t s = .inl (3, t.2.1) := by
  unfold pLine
  rw [if_pos h, if_pos hw, if_pos hs]
theorem pl8_f {T : Int → Tok} {pc : PC} {t t1 : Tok} {s : PS} {e : Flt} (h : t.1 = 1) (hw : wix t.2.2.2.1 = 8) (hs : s.1 = 0) (h1 : t1 = T t.2.2.2.2) (h2 : crw T pc.2.1 4 t1 [] = .inl e) : pLine T pc t s = .inl e := by
  unfold pLine
  rw [if_pos h, if_pos hw, if_neg (fun q => q hs), ← h1, bnd_l h2]
theorem pl8_o {T : Int → Tok} {pc : PC} {t t1 t2 : Tok} {s s2 : PS} {l : List Int} (h : t.1 = 1) (hw : wix t.2.2.2.1 = 8) (hs : s.1 = 0) (h1 : t1 = T t.2.2.2.2) (h2 : crw T pc.2.1 4 t1 [] = .inr (l, t2)) (h3 : s2 = (1, s.2.1, s.2.2.1, s.2.2.2.1, l, s.2.2.2.2.2.1, s.2.2.2.2.2.2)) : pLine T pc t s = .inr (t2, s2) := by
  unfold pLine
  rw [if_pos h, if_pos hw, if_neg (fun q => q hs), ← h1, bnd_r h2, h3]
theorem pl9_f {T : Int → Tok} {pc : PC} {t t1 : Tok} {s : PS} {e : Flt} (h : t.1 = 1) (hw : wix t.2.2.2.1 = 9) (h1 : t1 = T t.2.2.2.2) (h2 : pJmp T pc.2.1 pc.1 t1 s.1 s.2.2.2.2.1 s.2.2.2.2.2.1 = .inl e) : pLine T pc t s = .inl e := by
  unfold pLine
  rw [if_pos h, if_neg (by rw [hw]; decide), if_pos hw, ← h1, bnd_l h2]
theorem pl9_o {T : Int → Tok} {pc : PC} {t t1 t2 : Tok} {s s2 : PS} {j : Int32} (h : t.1 = 1) (hw : wix t.2.2.2.1 = 9) (h1 : t1 = T t.2.2.2.2) (h2 : pJmp T pc.2.1 pc.1 t1 s.1 s.2.2.2.2.1 s.2.2.2.2.2.1 = .inr (t2, j)) (h3 : s2 = (s.1, s.2.1, s.2.2.1, s.2.2.2.1, s.2.2.2.2.1, j, s.2.2.2.2.2.2)) : pLine T pc t s = .inr (t2, s2) := by
  unfold pLine
  rw [if_pos h, if_neg (by rw [hw]; decide), if_pos hw, ← h1, bnd_r h2, h3]
theorem pl10_t {T : Int → Tok} {pc : PC} {t : Tok} {s : PS} (h : t.1 = 1) (hw : wix t.2.2.2.1 = 10) (hs : s.2.1 ≠ 0) : pLine T pc t s = .inl (3, t.2.1) := by
  unfold pLine
  rw [if_pos h, if_neg (by rw [hw]; decide), if_neg (by rw [hw]; decide), if_pos hw, if_pos hs]
theorem pl10_f {T : Int → Tok} {pc : PC} {t t1 : Tok} {s : PS} {e : Flt} (h : t.1 = 1) (hw : wix t.2.2.2.1 = 10) (hs : s.2.1 = 0) (h1 : t1 = T t.2.2.2.2) (h2 : num T t1 0 99 = .inl e) : pLine T pc t s = .inl e := by
  unfold pLine
  rw [if_pos h, if_neg (by rw [hw]; decide), if_neg (by rw [hw]; decide), if_pos hw, if_neg (fun q => q hs), ← h1, bnd_l h2]
theorem pl10_o {T : Int → Tok} {pc : PC} {t t1 t2 : Tok} {s s2 : PS} (h : t.1 = 1) (hw : wix t.2.2.2.1 = 10) (hs : s.2.1 = 0) (h1 : t1 = T t.2.2.2.2) (h2 : num T t1 0 99 = .inr t2) (h3 : s2 = (s.1, 1, s.2.2.1, s.2.2.2.1, s.2.2.2.2.1, s.2.2.2.2.2.1, s.2.2.2.2.2.2)) : pLine T pc t s = .inr (t2, s2) := by
  unfold pLine
  rw [if_pos h, if_neg (by rw [hw]; decide), if_neg (by rw [hw]; decide), if_pos hw, if_neg (fun q => q hs), ← h1, bnd_r h2, h3]
theorem pl11_f {T : Int → Tok} {pc : PC} {t t1 : Tok} {s : PS} {e : Flt} (h : t.1 = 1) (hw : wix t.2.2.2.1 = 11) (h1 : t1 = T t.2.2.2.2) (h2 : pHgh T pc.2.2.1 t1 s.2.2.2.2.2.2 = .inl e) : pLine T pc t s = .inl e := by
  unfold pLine
  rw [if_pos h, if_neg (by rw [hw]; decide), if_neg (by rw [hw]; decide), if_neg (by rw [hw]; decide), if_pos hw, ← h1, bnd_l h2]
theorem pl11_o {T : Int → Tok} {pc : PC} {t t1 t2 : Tok} {s s2 : PS} {j : Int32} (h : t.1 = 1) (hw : wix t.2.2.2.1 = 11) (h1 : t1 = T t.2.2.2.2) (h2 : pHgh T pc.2.2.1 t1 s.2.2.2.2.2.2 = .inr (t2, j)) (h3 : s2 = (s.1, s.2.1, s.2.2.1, s.2.2.2.1, s.2.2.2.2.1, s.2.2.2.2.2.1, j)) : pLine T pc t s = .inr (t2, s2) := by
  unfold pLine
  rw [if_pos h, if_neg (by rw [hw]; decide), if_neg (by rw [hw]; decide), if_neg (by rw [hw]; decide), if_pos hw, ← h1, bnd_r h2, h3]
theorem pl12_t {T : Int → Tok} {pc : PC} {t : Tok} {s : PS} (h : t.1 = 1) (hw : wix t.2.2.2.1 = 12) (hs : s.2.2.1 ≠ 0) : pLine T pc t s = .inl (3, t.2.1) := by
  unfold pLine
  rw [if_pos h, if_neg (by rw [hw]; decide), if_neg (by rw [hw]; decide), if_neg (by rw [hw]; decide), if_neg (by rw [hw]; decide), if_pos hw, if_pos hs]
theorem pl12_f {T : Int → Tok} {pc : PC} {t t1 : Tok} {s : PS} {e : Flt} (h : t.1 = 1) (hw : wix t.2.2.2.1 = 12) (hs : s.2.2.1 = 0) (h1 : t1 = T t.2.2.2.2) (h2 : nmx T t1 pc.2.2.2 [] = .inl e) : pLine T pc t s = .inl e := by
  unfold pLine
  rw [if_pos h, if_neg (by rw [hw]; decide), if_neg (by rw [hw]; decide), if_neg (by rw [hw]; decide), if_neg (by rw [hw]; decide), if_pos hw, if_neg (fun q => q hs), ← h1, bnd_l h2]
theorem pl12_o {T : Int → Tok} {pc : PC} {t t1 t2 : Tok} {s s2 : PS} {m : Int} (h : t.1 = 1) (hw : wix t.2.2.2.1 = 12) (hs : s.2.2.1 = 0) (h1 : t1 = T t.2.2.2.2) (h2 : nmx T t1 pc.2.2.2 [] = .inr (m, t2)) (h3 : s2 = (s.1, s.2.1, 1, s.2.2.2.1, s.2.2.2.2.1, s.2.2.2.2.2.1, s.2.2.2.2.2.2)) : pLine T pc t s = .inr (t2, s2) := by
  unfold pLine
  rw [if_pos h, if_neg (by rw [hw]; decide), if_neg (by rw [hw]; decide), if_neg (by rw [hw]; decide), if_neg (by rw [hw]; decide), if_pos hw, if_neg (fun q => q hs), ← h1, bnd_r h2, h3]
theorem pl13_t {T : Int → Tok} {pc : PC} {t : Tok} {s : PS} (h : t.1 = 1) (hw : wix t.2.2.2.1 = 13) (hs : s.2.2.2.1 ≠ 0) : pLine T pc t s = .inl (3, t.2.1) := by
  unfold pLine
  rw [if_pos h, if_neg (by rw [hw]; decide), if_neg (by rw [hw]; decide), if_neg (by rw [hw]; decide), if_neg (by rw [hw]; decide), if_neg (by rw [hw]; decide), if_pos hw, if_pos hs]
theorem pl13_f {T : Int → Tok} {pc : PC} {t t1 : Tok} {s : PS} {e : Flt} (h : t.1 = 1) (hw : wix t.2.2.2.1 = 13) (hs : s.2.2.2.1 = 0) (h1 : t1 = T t.2.2.2.2) (h2 : num T t1 1 60 = .inl e) : pLine T pc t s = .inl e := by
  unfold pLine
  rw [if_pos h, if_neg (by rw [hw]; decide), if_neg (by rw [hw]; decide), if_neg (by rw [hw]; decide), if_neg (by rw [hw]; decide), if_neg (by rw [hw]; decide), if_pos hw, if_neg (fun q => q hs), ← h1, bnd_l h2]
theorem pl13_o {T : Int → Tok} {pc : PC} {t t1 t2 : Tok} {s s2 : PS} (h : t.1 = 1) (hw : wix t.2.2.2.1 = 13) (hs : s.2.2.2.1 = 0) (h1 : t1 = T t.2.2.2.2) (h2 : num T t1 1 60 = .inr t2) (h3 : s2 = (s.1, s.2.1, s.2.2.1, 1, s.2.2.2.2.1, s.2.2.2.2.2.1, s.2.2.2.2.2.2)) : pLine T pc t s = .inr (t2, s2) := by
  unfold pLine
  rw [if_pos h, if_neg (by rw [hw]; decide), if_neg (by rw [hw]; decide), if_neg (by rw [hw]; decide), if_neg (by rw [hw]; decide), if_neg (by rw [hw]; decide), if_pos hw, if_neg (fun q => q hs), ← h1, bnd_r h2, h3]
theorem pl_n {T : Int → Tok} {pc : PC} {t : Tok} {s : PS} (h : t.1 = 1 → wix t.2.2.2.1 < 8 ∨ 13 < wix t.2.2.2.1) : pLine T pc t s = .inl (1, t.2.1) := by
  by_cases h1 : t.1 = 1
  · have h2 := h h1
    unfold pLine
    rw [if_pos h1, if_neg (by omega), if_neg (by omega), if_neg (by omega), if_neg (by omega), if_neg (by omega), if_neg (by omega)]
  · exact if_neg h1
/-- all LINES, whatever a LINE is -/
def gAll {σ : Type} (T : Int → Tok) (L : Tok → σ → Sum Flt (Tok × σ)) : Nat → Tok → σ → Int → Sum Flt (Int × σ)
  | 0, _, s, n => .inr (n, s)
  | k + 1, t, s, n => if t.1 = 0 then .inr (n, s) else bnd (L t s) (fun u => bnd (sgn T u.1 59) (fun v => gAll T L k v u.2 (n + 1)))
def GA {σ : Type} (T : Int → Tok) (L : Tok → σ → Sum Flt (Tok × σ)) (t0 : Tok) (s0 : σ) (N : Int) (t : Tok) (s : σ) (n : Int) : Prop := gAll T L N.toNat t0 s0 0 = gAll T L (N - n).toNat t s n
theorem GA.zero {σ : Type} {T : Int → Tok} {L : Tok → σ → Sum Flt (Tok × σ)} {t : Tok} {s : σ} {N : Int} : GA T L t s N t s 0 := by
  show gAll T L N.toNat t s 0 = gAll T L (N - 0).toNat t s 0
  rw [Int.sub_zero]
theorem GA.step {σ : Type} {T : Int → Tok} {L : Tok → σ → Sum Flt (Tok × σ)} {t0 t t1 t2 : Tok} {s0 s s1 : σ} {N n n2 : Int} (h : GA T L t0 s0 N t s n) (hn : n < N) (h0 : t.1 ≠ 0) (h1 : L t s = .inr (t1, s1)) (h2 : sgn T t1 59 = .inr t2) (hm : n2 = n + 1) : GA T L t0 s0 N t2 s1 n2 := by
  unfold GA at h ⊢
  rw [h, show (N - n).toNat = (N - n2).toNat + 1 by omega]
  show (if t.1 = 0 then _ else bnd (L t s) _) = _
  rw [if_neg h0, bnd_r h1]
  show bnd (sgn T t1 59) _ = _
  rw [bnd_r h2, hm]
theorem GA.bad1 {σ : Type} {T : Int → Tok} {L : Tok → σ → Sum Flt (Tok × σ)} {t0 t : Tok} {s0 s : σ} {N n : Int} {e : Flt} (h : GA T L t0 s0 N t s n) (hn : n < N) (h0 : t.1 ≠ 0) (h1 : L t s = .inl e) : gAll T L N.toNat t0 s0 0 = .inl e := by
  unfold GA at h
  rw [h, show (N - n).toNat = (N - (n + 1)).toNat + 1 by omega]
  show (if t.1 = 0 then _ else bnd (L t s) _) = _
  rw [if_neg h0, bnd_l h1]
theorem GA.bad2 {σ : Type} {T : Int → Tok} {L : Tok → σ → Sum Flt (Tok × σ)} {t0 t t1 : Tok} {s0 s s1 : σ} {N n : Int} {e : Flt} (h : GA T L t0 s0 N t s n) (hn : n < N) (h0 : t.1 ≠ 0) (h1 : L t s = .inr (t1, s1)) (h2 : sgn T t1 59 = .inl e) : gAll T L N.toNat t0 s0 0 = .inl e := by
  unfold GA at h
  rw [h, show (N - n).toNat = (N - (n + 1)).toNat + 1 by omega]
  show (if t.1 = 0 then _ else bnd (L t s) _) = _
  rw [if_neg h0, bnd_r h1]
  show bnd (sgn T t1 59) _ = _
  rw [bnd_l h2]
theorem GA.fin {σ : Type} {T : Int → Tok} {L : Tok → σ → Sum Flt (Tok × σ)} {t0 t : Tok} {s0 s : σ} {N n : Int} (h : GA T L t0 s0 N t s n) (he : N ≤ n ∨ t.1 = 0) : gAll T L N.toNat t0 s0 0 = .inr (n, s) := by
  unfold GA at h
  rw [h]
  by_cases hn : N ≤ n
  · rw [show (N - n).toNat = 0 by omega]
    exact rfl
  · rw [show (N - n).toNat = (N - (n + 1)).toNat + 1 by omega]
    show (if t.1 = 0 then _ else _) = _
    rw [if_pos (he.resolve_left hn)]
def pTxt (f : Nat → Int32) (n : Int) (pc : PC) : Sum Flt (Int × PS) := gAll (tkA f n 400) (pLine (tkA f n 400) pc) 400 (tkA f n 400 0) (0, 0, 0, 0, [], 0, 0) 0
/-- a call's answer, its FAULT's kind; whether there is a crew then; what is the COURSE then -/
def gAns {σ : Type} (x : Sum Flt (Int × σ)) : Int :=
  match x with
  | .inl e => -1 - e.2
  | .inr u => u.1
def gFlt {σ : Type} (x : Sum Flt σ) : Int :=
  match x with
  | .inl e => e.1
  | .inr _ => 0
def pCrd (x : Sum Flt (Int × PS)) (c : Int) : Int :=
  match x with
  | .inl _ => c
  | .inr u => u.2.1
def cPic (x : Sum Flt (Int × CS)) (c : PC) : PC :=
  match x with
  | .inl _ => c
  | .inr u => u.2.2
/-! the class's PLAN that is read -/
def psC (tl cw : Int32) (fc : Nat → Int32) (ju he : Int32) : PS := (cw.toInt, tst tl 10, tst tl 12, tst tl 13, (if cw.toInt = 1 then nmJ fc 0 4 else []), ju, he)
theorem psC_8 {tl tl' cw cw' ju he : Int32} {f g : Nat → Int32} (e : tl' = tl ||| (1 <<< ((8 : Int32) &&& 31))) (hc : cw'.toInt = 1) : psC tl' cw' g ju he = (1, (psC tl cw f ju he).2.1, (psC tl cw f ju he).2.2.1, (psC tl cw f ju he).2.2.2.1, nmJ g 0 4, (psC tl cw f ju he).2.2.2.2.2.1, (psC tl cw f ju he).2.2.2.2.2.2) := by
  show (cw'.toInt, tst tl' 10, tst tl' 12, tst tl' 13, (if cw'.toInt = 1 then nmJ g 0 4 else []), ju, he) = (1, tst tl 10, tst tl 12, tst tl 13, nmJ g 0 4, ju, he)
  rw [if_pos hc, hc, e, tst_oth (k := 8) (j := 10) (by decide) (by decide) (by decide), tst_oth (k := 8) (j := 12) (by decide) (by decide) (by decide), tst_oth (k := 8) (j := 13) (by decide) (by decide) (by decide)]
theorem psC_10 {tl tl' cw ju he : Int32} {f : Nat → Int32} (e : tl' = tl ||| (1 <<< ((10 : Int32) &&& 31))) : psC tl' cw f ju he = ((psC tl cw f ju he).1, 1, (psC tl cw f ju he).2.2.1, (psC tl cw f ju he).2.2.2.1, (psC tl cw f ju he).2.2.2.2.1, (psC tl cw f ju he).2.2.2.2.2.1, (psC tl cw f ju he).2.2.2.2.2.2) := by
  show (cw.toInt, tst tl' 10, tst tl' 12, tst tl' 13, (if cw.toInt = 1 then nmJ f 0 4 else []), ju, he) = (cw.toInt, 1, tst tl 12, tst tl 13, (if cw.toInt = 1 then nmJ f 0 4 else []), ju, he)
  rw [e, tst_same (k := 10) (by decide), tst_oth (k := 10) (j := 12) (by decide) (by decide) (by decide), tst_oth (k := 10) (j := 13) (by decide) (by decide) (by decide)]
theorem psC_12 {tl tl' cw ju he : Int32} {f : Nat → Int32} (e : tl' = tl ||| (1 <<< ((12 : Int32) &&& 31))) : psC tl' cw f ju he = ((psC tl cw f ju he).1, (psC tl cw f ju he).2.1, 1, (psC tl cw f ju he).2.2.2.1, (psC tl cw f ju he).2.2.2.2.1, (psC tl cw f ju he).2.2.2.2.2.1, (psC tl cw f ju he).2.2.2.2.2.2) := by
  show (cw.toInt, tst tl' 10, tst tl' 12, tst tl' 13, (if cw.toInt = 1 then nmJ f 0 4 else []), ju, he) = (cw.toInt, tst tl 10, 1, tst tl 13, (if cw.toInt = 1 then nmJ f 0 4 else []), ju, he)
  rw [e, tst_same (k := 12) (by decide), tst_oth (k := 12) (j := 10) (by decide) (by decide) (by decide), tst_oth (k := 12) (j := 13) (by decide) (by decide) (by decide)]
theorem psC_13 {tl tl' cw ju he : Int32} {f : Nat → Int32} (e : tl' = tl ||| (1 <<< ((13 : Int32) &&& 31))) : psC tl' cw f ju he = ((psC tl cw f ju he).1, (psC tl cw f ju he).2.1, (psC tl cw f ju he).2.2.1, 1, (psC tl cw f ju he).2.2.2.2.1, (psC tl cw f ju he).2.2.2.2.2.1, (psC tl cw f ju he).2.2.2.2.2.2) := by
  show (cw.toInt, tst tl' 10, tst tl' 12, tst tl' 13, (if cw.toInt = 1 then nmJ f 0 4 else []), ju, he) = (cw.toInt, tst tl 10, tst tl 12, 1, (if cw.toInt = 1 then nmJ f 0 4 else []), ju, he)
  rw [e, tst_same (k := 13) (by decide), tst_oth (k := 13) (j := 10) (by decide) (by decide) (by decide), tst_oth (k := 13) (j := 12) (by decide) (by decide) (by decide)]
/-! the reference's PLAN that is read -/
def psM (on : Int32) (pr : Nat → Int32) (ju he : Int32) : PS := ((pr 0).toInt, tst on 1, tst on 3, tst on 2, (if (pr 0).toInt = 1 then nmJ pr 1 4 else []), ju, he)
theorem psM_un {on ju he i x : Int32} {pr pr' : Nat → Int32} (e : upd pr i.toNatClampNeg x = pr') (hi : 5 ≤ i.toInt) : (if (pr' 0).toInt = 1 then nmJ pr' 1 4 else []) = (if (pr 0).toInt = 1 then nmJ pr 1 4 else []) := by
  rw [nmJ_un (o := 1) (n := 4) e (by omega) (by omega), upd_m (j := 0) e (by rw [cl_nat]; omega)]
theorem psM_unN {k : Nat} {x : Int32} {pr pr' : Nat → Int32} (e : upd pr k x = pr') (hi : 5 ≤ k) : (if (pr' 0).toInt = 1 then nmJ pr' 1 4 else []) = (if (pr 0).toInt = 1 then nmJ pr 1 4 else []) := by
  rw [upd_m (j := 0) e (by omega)]
  have h : nmJ pr' 1 4 = nmJ pr 1 4 := nmG_eq (fun j hj => by
    show (pr' (1 + j)).toInt = (pr (1 + j)).toInt
    have hj4 : j < 4 := hj
    rw [upd_m (j := 1 + j) e (by omega)])
  rw [h]
theorem psM_8 {on on' ju he : Int32} {pr pr' : Nat → Int32} (e : on' = on ||| (1 <<< ((0 : Int32) &&& 31))) (hc : (pr' 0).toInt = 1) {l : List Int} (hl : l = nmJ pr' 1 4) : psM on' pr' ju he = (1, (psM on pr ju he).2.1, (psM on pr ju he).2.2.1, (psM on pr ju he).2.2.2.1, l, (psM on pr ju he).2.2.2.2.2.1, (psM on pr ju he).2.2.2.2.2.2) := by
  show ((pr' 0).toInt, tst on' 1, tst on' 3, tst on' 2, (if (pr' 0).toInt = 1 then nmJ pr' 1 4 else []), ju, he) = (1, tst on 1, tst on 3, tst on 2, l, ju, he)
  rw [hl, if_pos hc, hc, e, tst_oth (k := 0) (j := 1) (by decide) (by decide) (by decide), tst_oth (k := 0) (j := 2) (by decide) (by decide) (by decide), tst_oth (k := 0) (j := 3) (by decide) (by decide) (by decide)]
theorem psM_10 {on on' ju he : Int32} {pr pr' : Nat → Int32} (e : on' = on ||| (1 <<< ((1 : Int32) &&& 31))) (e0 : pr' 0 = pr 0) (ep : (if (pr' 0).toInt = 1 then nmJ pr' 1 4 else []) = (if (pr 0).toInt = 1 then nmJ pr 1 4 else [])) : psM on' pr' ju he = ((psM on pr ju he).1, 1, (psM on pr ju he).2.2.1, (psM on pr ju he).2.2.2.1, (psM on pr ju he).2.2.2.2.1, (psM on pr ju he).2.2.2.2.2.1, (psM on pr ju he).2.2.2.2.2.2) := by
  show ((pr' 0).toInt, tst on' 1, tst on' 3, tst on' 2, (if (pr' 0).toInt = 1 then nmJ pr' 1 4 else []), ju, he) = ((pr 0).toInt, 1, tst on 3, tst on 2, (if (pr 0).toInt = 1 then nmJ pr 1 4 else []), ju, he)
  rw [ep, e0, e, tst_same (k := 1) (by decide), tst_oth (k := 1) (j := 2) (by decide) (by decide) (by decide), tst_oth (k := 1) (j := 3) (by decide) (by decide) (by decide)]
theorem psM_12 {on on' ju he : Int32} {pr pr' : Nat → Int32} (e : on' = on ||| (1 <<< ((3 : Int32) &&& 31))) (e0 : pr' 0 = pr 0) (ep : (if (pr' 0).toInt = 1 then nmJ pr' 1 4 else []) = (if (pr 0).toInt = 1 then nmJ pr 1 4 else [])) : psM on' pr' ju he = ((psM on pr ju he).1, (psM on pr ju he).2.1, 1, (psM on pr ju he).2.2.2.1, (psM on pr ju he).2.2.2.2.1, (psM on pr ju he).2.2.2.2.2.1, (psM on pr ju he).2.2.2.2.2.2) := by
  show ((pr' 0).toInt, tst on' 1, tst on' 3, tst on' 2, (if (pr' 0).toInt = 1 then nmJ pr' 1 4 else []), ju, he) = ((pr 0).toInt, tst on 1, 1, tst on 2, (if (pr 0).toInt = 1 then nmJ pr 1 4 else []), ju, he)
  rw [ep, e0, e, tst_same (k := 3) (by decide), tst_oth (k := 3) (j := 1) (by decide) (by decide) (by decide), tst_oth (k := 3) (j := 2) (by decide) (by decide) (by decide)]
theorem psM_13 {on on' ju he : Int32} {pr pr' : Nat → Int32} (e : on' = on ||| (1 <<< ((2 : Int32) &&& 31))) (e0 : pr' 0 = pr 0) (ep : (if (pr' 0).toInt = 1 then nmJ pr' 1 4 else []) = (if (pr 0).toInt = 1 then nmJ pr 1 4 else [])) : psM on' pr' ju he = ((psM on pr ju he).1, (psM on pr ju he).2.1, (psM on pr ju he).2.2.1, 1, (psM on pr ju he).2.2.2.2.1, (psM on pr ju he).2.2.2.2.2.1, (psM on pr ju he).2.2.2.2.2.2) := by
  show ((pr' 0).toInt, tst on' 1, tst on' 3, tst on' 2, (if (pr' 0).toInt = 1 then nmJ pr' 1 4 else []), ju, he) = ((pr 0).toInt, tst on 1, tst on 3, 1, (if (pr 0).toInt = 1 then nmJ pr 1 4 else []), ju, he)
  rw [ep, e0, e, tst_same (k := 2) (by decide), tst_oth (k := 2) (j := 1) (by decide) (by decide) (by decide), tst_oth (k := 2) (j := 3) (by decide) (by decide) (by decide)]
theorem psM_9 {on ju ju' he : Int32} {pr pr' : Nat → Int32} (e0 : pr' 0 = pr 0) (ep : (if (pr' 0).toInt = 1 then nmJ pr' 1 4 else []) = (if (pr 0).toInt = 1 then nmJ pr 1 4 else [])) : psM on pr' ju' he = ((psM on pr ju he).1, (psM on pr ju he).2.1, (psM on pr ju he).2.2.1, (psM on pr ju he).2.2.2.1, (psM on pr ju he).2.2.2.2.1, ju', (psM on pr ju he).2.2.2.2.2.2) := by
  show ((pr' 0).toInt, tst on 1, tst on 3, tst on 2, (if (pr' 0).toInt = 1 then nmJ pr' 1 4 else []), ju', he) = ((pr 0).toInt, tst on 1, tst on 3, tst on 2, (if (pr 0).toInt = 1 then nmJ pr 1 4 else []), ju', he)
  rw [ep, e0]
theorem psM_11 {on ju he he' : Int32} {pr pr' : Nat → Int32} (e0 : pr' 0 = pr 0) (ep : (if (pr' 0).toInt = 1 then nmJ pr' 1 4 else []) = (if (pr 0).toInt = 1 then nmJ pr 1 4 else [])) : psM on pr' ju he' = ((psM on pr ju he).1, (psM on pr ju he).2.1, (psM on pr ju he).2.2.1, (psM on pr ju he).2.2.2.1, (psM on pr ju he).2.2.2.2.1, (psM on pr ju he).2.2.2.2.2.1, he') := by
  show ((pr' 0).toInt, tst on 1, tst on 3, tst on 2, (if (pr' 0).toInt = 1 then nmJ pr' 1 4 else []), ju, he') = ((pr 0).toInt, tst on 1, tst on 3, tst on 2, (if (pr 0).toInt = 1 then nmJ pr 1 4 else []), ju, he')
  rw [ep, e0]
theorem psM_z {pr : Nat → Int32} (h : (pr 0).toInt = 0) : psM 0 pr 0 0 = (0, 0, 0, 0, [], 0, 0) := by
  unfold psM
  rw [tst_z (k := 1) (by decide), tst_z (k := 3) (by decide), tst_z (k := 2) (by decide), if_neg (by omega), h]
theorem psC_z {cw : Int32} {f : Nat → Int32} (h : cw.toInt = 0) : psC 0 cw f 0 0 = (0, 0, 0, 0, [], 0, 0) := by
  unfold psC
  rw [tst_z (k := 10) (by decide), tst_z (k := 12) (by decide), tst_z (k := 13) (by decide), if_neg (by omega), h]
theorem psC_9 {tl cw ju ju' he : Int32} {f : Nat → Int32} : psC tl cw f ju' he = ((psC tl cw f ju he).1, (psC tl cw f ju he).2.1, (psC tl cw f ju he).2.2.1, (psC tl cw f ju he).2.2.2.1, (psC tl cw f ju he).2.2.2.2.1, ju', (psC tl cw f ju he).2.2.2.2.2.2) := rfl
theorem psC_11 {tl cw ju he he' : Int32} {f : Nat → Int32} : psC tl cw f ju he' = ((psC tl cw f ju he).1, (psC tl cw f ju he).2.1, (psC tl cw f ju he).2.2.1, (psC tl cw f ju he).2.2.2.1, (psC tl cw f ju he).2.2.2.2.1, (psC tl cw f ju he).2.2.2.2.2.1, he') := rfl
/-- HEIGHTS told are of BENDS that there are -/
def HBN (he : Int32) (bn : Int) : Prop := ∀ v : Int32, 0 ≤ v.toInt → v.toInt < 32 → tst he v ≠ 0 → v.toInt < bn
theorem HBN.z {bn : Int} : HBN 0 bn := fun v h0 h1 h2 => absurd (tst_z ⟨h0, h1⟩) h2
theorem HBN.up {he he' v : Int32} {bn : Int} (h : HBN he bn) (e : he' = he ||| (1 <<< (v &&& 31))) (hv : 0 ≤ v.toInt ∧ v.toInt < 32) (hb : v.toInt < bn) : HBN he' bn := by
  intro j h0 h1 h2
  rw [e, tst_or hv ⟨h0, h1⟩] at h2
  by_cases q : j.toInt = v.toInt
  · omega
  · rw [if_neg q] at h2
    exact h j h0 h1 h2
/-- what the flags of the class's LINES are -/
def PLI (tl cw he : Int32) (bn : Int) : Prop := cw.toInt = tst tl 8 ∧ tst tl 9 = 0 ∧ tst tl 11 = 0 ∧ HBN he bn
theorem PLI.z {cw : Int32} {bn : Int} (h : cw.toInt = 0) : PLI 0 cw 0 bn := ⟨by rw [h, tst_z (by decide)], tst_z (by decide), tst_z (by decide), HBN.z⟩
theorem PLI.u8 {tl tl' cw cw' he : Int32} {bn : Int} (h : PLI tl cw he bn) (e : tl' = tl ||| (1 <<< ((8 : Int32) &&& 31))) (hc : cw'.toInt = 1) : PLI tl' cw' he bn := by
  refine ⟨by rw [hc, e, tst_same (by decide)], ?_, ?_, h.2.2.2⟩
  · rw [e, tst_oth (k := 8) (j := 9) (by decide) (by decide) (by decide)]; exact h.2.1
  · rw [e, tst_oth (k := 8) (j := 11) (by decide) (by decide) (by decide)]; exact h.2.2.1
theorem PLI.hb {tl cw he he' : Int32} {bn : Int} (h : PLI tl cw he bn) (h2 : HBN he' bn) : PLI tl cw he' bn := ⟨h.1, h.2.1, h.2.2.1, h2⟩
theorem PLI.u10 {tl tl' cw he : Int32} {bn : Int} (h : PLI tl cw he bn) (e : tl' = tl ||| (1 <<< ((10 : Int32) &&& 31))) : PLI tl' cw he bn := by
  refine ⟨?_, ?_, ?_, h.2.2.2⟩
  · rw [e, tst_oth (k := 10) (j := 8) (by decide) (by decide) (by decide)]; exact h.1
  · rw [e, tst_oth (k := 10) (j := 9) (by decide) (by decide) (by decide)]; exact h.2.1
  · rw [e, tst_oth (k := 10) (j := 11) (by decide) (by decide) (by decide)]; exact h.2.2.1
theorem PLI.u12 {tl tl' cw he : Int32} {bn : Int} (h : PLI tl cw he bn) (e : tl' = tl ||| (1 <<< ((12 : Int32) &&& 31))) : PLI tl' cw he bn := by
  refine ⟨?_, ?_, ?_, h.2.2.2⟩
  · rw [e, tst_oth (k := 12) (j := 8) (by decide) (by decide) (by decide)]; exact h.1
  · rw [e, tst_oth (k := 12) (j := 9) (by decide) (by decide) (by decide)]; exact h.2.1
  · rw [e, tst_oth (k := 12) (j := 11) (by decide) (by decide) (by decide)]; exact h.2.2.1
theorem PLI.u13 {tl tl' cw he : Int32} {bn : Int} (h : PLI tl cw he bn) (e : tl' = tl ||| (1 <<< ((13 : Int32) &&& 31))) : PLI tl' cw he bn := by
  refine ⟨?_, ?_, ?_, h.2.2.2⟩
  · rw [e, tst_oth (k := 13) (j := 8) (by decide) (by decide) (by decide)]; exact h.1
  · rw [e, tst_oth (k := 13) (j := 9) (by decide) (by decide) (by decide)]; exact h.2.1
  · rw [e, tst_oth (k := 13) (j := 11) (by decide) (by decide) (by decide)]; exact h.2.2.1
/-! what the walker's texts name -/
theorem tkA_nn {f : Nat → Int32} {n lim p : Int} : (tkA f n lim p).1 = 2 → 0 ≤ (tkA f n lim p).2.2.1 := by
  unfold tkA tkQ
  intro h
  by_cases c1 : lim < (n.toNat : Int) ∧ lim ≤ (sk f n.toNat p.toNat : Int)
  · rw [if_pos c1] at h
    exact absurd (show (4 : Int) = 2 from h) (by decide)
  · rw [if_neg c1] at h ⊢
    by_cases c2 : n.toNat ≤ sk f n.toNat p.toNat
    · rw [if_pos c2] at h
      exact absurd (show (0 : Int) = 2 from h) (by decide)
    · rw [if_neg c2] at h ⊢
      by_cases c3 : isSg (tb f (sk f n.toNat p.toNat))
      · rw [if_pos c3] at h
        exact absurd (show (3 : Int) = 2 from h) (by decide)
      · rw [if_neg c3] at h ⊢
        by_cases c4 : isSm (tb f (sk f n.toNat p.toNat)) ∨ isDg (tb f (sk f n.toNat p.toNat))
        · rw [if_pos c4] at h ⊢
          unfold tkR at h ⊢
          by_cases c5 : nSm f (sk f n.toNat p.toNat) (ru f n.toNat (sk f n.toNat p.toNat) - sk f n.toNat p.toNat) = ru f n.toNat (sk f n.toNat p.toNat) - sk f n.toNat p.toNat ∧ ru f n.toNat (sk f n.toNat p.toNat) - sk f n.toNat p.toNat ≤ 7
          · rw [if_pos c5] at h
            exact absurd (show (1 : Int) = 2 from h) (by decide)
          · rw [if_neg c5] at h ⊢
            by_cases c6 : nDg f (sk f n.toNat p.toNat) (ru f n.toNat (sk f n.toNat p.toNat) - sk f n.toNat p.toNat) = ru f n.toNat (sk f n.toNat p.toNat) - sk f n.toNat p.toNat ∧ ru f n.toNat (sk f n.toNat p.toNat) - sk f n.toNat p.toNat ≤ 3
            · rw [if_pos c6]
              exact (d10_b _ c6.2 c6.1).1
            · rw [if_neg c6] at h
              exact absurd (show (4 : Int) = 2 from h) (by decide)
        · rw [if_neg c4] at h
          exact absurd (show (4 : Int) = 2 from h) (by decide)
theorem tk_nn {f : Nat → Int32} {n lim p0 : Int} {k a v p : Int32} {nm : Int64} (h : tkC k a v nm p = tkA f n lim p0) (hk : k.toInt = 3) : 0 ≤ v.toInt := by
  rw [tkC_3 hk] at h
  have h1 : (tkA f n lim p0).1 = 2 := by rw [← h]
  have h2 := tkA_nn h1
  rw [← h] at h2
  exact h2
theorem tkC_2nd {k a v p : Int32} {nm : Int64} (h : k.toInt = 3) : (tkC k a v nm p).1 = 2 := by rw [tkC_3 h]
theorem tkC_2n {k a v p : Int32} {nm : Int64} (h : (tkC k a v nm p).1 = 2) : k.toInt = 3 := by
  by_cases h0 : k.toInt = 0
  · rw [tkC_0 h0] at h
    exact absurd (show (0 : Int) = 2 from h) (by decide)
  · by_cases h1 : k.toInt = 1
    · rw [tkC_1 h1] at h
      exact absurd (show (4 : Int) = 2 from h) (by decide)
    · by_cases h2 : k.toInt = 2
      · rw [tkC_2 h2] at h
        exact absurd (show (1 : Int) = 2 from h) (by decide)
      · by_cases h3 : k.toInt = 3
        · exact h3
        · rw [tkC_s h0 h1 h2 h3] at h
          exact absurd (show (3 : Int) = 2 from h) (by decide)
theorem num_r {T : Int → Tok} {t t1 : Tok} {lo hi : Int} (h : num T t lo hi = .inr t1) : t.1 = 2 ∧ (lo ≤ t.2.2.1 ∧ t.2.2.1 ≤ hi) ∧ t1 = T t.2.2.2.2 := by
  unfold num at h
  by_cases q : t.1 = 2
  · rw [if_pos q] at h
    by_cases q2 : lo ≤ t.2.2.1 ∧ t.2.2.1 ≤ hi
    · rw [if_pos q2] at h
      exact ⟨q, q2, (Sum.inr.inj h).symm⟩
    · rw [if_neg q2] at h
      cases h
  · rw [if_neg q] at h
    cases h
theorem num_k {T : Int → Tok} {k a v p : Int32} {nm : Int64} {lo hi : Int} {t : Tok} (h : num T (tkC k a v nm p) lo hi = .inr t) : k.toInt = 3 := tkC_2n (num_r h).1
theorem pHgh_N {T : Int → Tok} {bn m : Int} {t : Tok} {he : Int32} {e : Flt} (h : num T t 0 m = .inl e) (hm : m = bn - 1) (hn : t.1 = 2 → 0 ≤ t.2.2.1) : pHgh T bn t he = .inl e := by
  unfold num at h
  by_cases q : t.1 = 2
  · rw [if_pos q] at h
    have h2 := hn q
    by_cases q2 : 0 ≤ t.2.2.1 ∧ t.2.2.1 ≤ m
    · rw [if_pos q2] at h
      cases h
    · rw [if_neg q2] at h
      rw [pHgh_2 q (by omega)]
      exact congrArg Sum.inl (Sum.inl.inj h)
  · rw [if_neg q] at h
    rw [pHgh_1 q]
    exact congrArg Sum.inl (Sum.inl.inj h)
theorem pHgh_F {T : Int → Tok} {bn m : Int} {t t1 : Tok} {he v : Int32} {e : Flt} (h : num T t 0 m = .inr t1) (hm : m = bn - 1) (hv : v.toInt = t.2.2.1) (hs : tst he v = 0) (h2 : num T t1 0 9 = .inl e) : pHgh T bn t he = .inl e := by
  obtain ⟨a1, a2, a3⟩ := num_r h
  exact pHgh_4 a1 hv (by omega) hs a3 h2
theorem pHgh_O {T : Int → Tok} {bn m : Int} {t t1 t2 : Tok} {he he' v : Int32} (h : num T t 0 m = .inr t1) (hm : m = bn - 1) (hv : v.toInt = t.2.2.1) (hs : tst he v = 0) (h2 : num T t1 0 9 = .inr t2) (hu : he' = he ||| (1 <<< (v &&& 31))) : pHgh T bn t he = .inr (t2, he') := by
  obtain ⟨a1, a2, a3⟩ := num_r h
  exact pHgh_o a1 hv (by omega) hs a3 h2 hu
theorem pJmp_r {T : Int → Tok} {ms cr : List Int} {yd c m : Int} {t t1 : Tok} {ju r : Int32} (h : nmx T t ms [] = .inr (m, t1)) (hr : r.toInt = wixK cr 0 m) (hj : tst ju r ≠ 0) : pJmp T ms yd t c cr ju = .inl (3, t.2.1) := pJmp_m h (fun q => hj (by rw [← ofi hr]; exact q.2.2))
theorem cw_of {cw : Int32} {l : List Int} {r m : Int} (h : r = wixK (if cw.toInt = 1 then l else []) 0 m) (h1 : r ≠ -1) : cw.toInt = 1 := by
  by_cases q : cw.toInt = 1
  · exact q
  · rw [if_neg q] at h
    exact absurd h h1
theorem CW.fin4 {T : Int → Tok} {ms : List Int} {t0 t : Tok} {f : Nat → Int32} {o : Nat} {n : Int} (h : CW T ms t0 t (nmJ f o n) n) (hn : n = 4) : crw T ms 4 t0 [] = .inr (nmJ f o 4, t) := by
  rw [hn] at h
  exact CW.fin h (Int.le_refl _)
theorem tu_x {b x v1 v2 : Int32} (h0 : 0 ≤ x.toInt) (h1 : x.toInt < 32) (e1 : v1 = (b.toUInt32 >>> (x.toUInt32 &&& Int32.toUInt32 31)).toInt32) (e2 : v2 = v1 &&& 1) : tst b x = v2.toInt := by
  rw [e2, e1]
  exact (tst_u h0 h1).symm
theorem nmJ_unN {f g : Nat → Int32} {k : Nat} {x : Int32} {o : Nat} {n : Int} (e : upd f k x = g) (hi : k < o) : nmJ g o n = nmJ f o n := nmG_eq (fun j hj => by
  show (g (o + j)).toInt = (f (o + j)).toInt
  rw [upd_m (j := o + j) e (by omega)])
theorem atM2 {T : Int → Tok} {t a nu p : Int32} {w : Int64} {t1 : Tok} (h : t1 = T p.toInt) (ht : t.toInt = 2) : t1 = T (tkM t a nu w p).2.2.2.2 := by
  rw [tkM_2 ht]
  exact h
theorem pln_0 {f : Nat → Int32} {n : Int} {pc : PC} {t : Tok} {x : Sum Flt (Int × PS)} (h : t = tkA f n 400 0) (ha : gAll (tkA f n 400) (pLine (tkA f n 400) pc) 400 t (0, 0, 0, 0, [], 0, 0) 0 = x) : pTxt f n pc = x := by
  unfold pTxt
  rw [← h]
  exact ha
theorem gAns_r {σ : Type} {x : Sum Flt (Int × σ)} {r : Int} {s : σ} (h : x = .inr (r, s)) : gAns x = r := by
  rw [h]
  exact rfl
theorem gAns_l {σ : Type} {x : Sum Flt (Int × σ)} {c e : Int} (h : x = .inl (c, e)) : gAns x = -1 - e := by
  rw [h]
  exact rfl
theorem gFlt_r {σ : Type} {x : Sum Flt σ} {s : σ} (h : x = .inr s) : gFlt x = 0 := by
  rw [h]
  exact rfl
theorem gFlt_l {σ : Type} {x : Sum Flt σ} {c e : Int} (h : x = .inl (c, e)) : gFlt x = c := by
  rw [h]
  exact rfl
theorem gAns_r2 {σ : Type} {x : Sum Flt (Int × σ)} {r : Int} {s : σ} (h : x = .inr (r, s)) : r = gAns x := by
  rw [h]
  exact rfl
theorem gAns_l2 {σ : Type} {x : Sum Flt (Int × σ)} {r c e : Int} (h : x = .inl (c, e)) (hr : r = -1 - e) : r = gAns x := by
  rw [h, hr]
  exact rfl
