/-! what a COURSE is for PLANS and SENTENCES: YARDS, MEN, BENDS, RUNNERS -/
def PICC (st : Nat → Int32) (mn : Nat → Int64) (men bn : Int32) (rr : Nat → Int64) (rn : Int32) : PC := ((st 0).toInt, nmL mn men.toInt, bn.toInt, nmL rr rn.toInt)
def PICM (s : Nat → Int32) (n : Nat → Int64) : PC := ((s 0).toInt, nmM n 0 (s 5).toInt, (s 6).toInt, nmM n 12 (s 7).toInt)
def PICI (f : Nat → Int32) (o : Nat) (n : Nat → Int64) (q : Nat) : PC := ((f o).toInt, nmM n q (f (o + 5)).toInt, (f (o + 6)).toInt, nmM n (q + 12) (f (o + 7)).toInt)
def AVI (f : Nat → Int32) (o : Nat) (n : Nat → Int64) (q : Nat) : Prop := AV n q (f (o + 5)).toInt ∧ AV n (q + 12) (f (o + 7)).toInt
/-- the numbers of a COURSE stay -/
def US (b f : Nat → Int32) : Prop := f 0 = b 0 ∧ f 5 = b 5 ∧ f 6 = b 6 ∧ f 7 = b 7
theorem US.rf {f : Nat → Int32} : US f f := ⟨rfl, rfl, rfl, rfl⟩
theorem US.upN {b f : Nat → Int32} (h : US b f) {k : Nat} {x : Int32} (hk : k ≠ 0 ∧ k ≠ 5 ∧ k ≠ 6 ∧ k ≠ 7) : US b (upd f k x) := ⟨(pk_un (fun q => hk.1 q.symm)).trans h.1, (pk_un (fun q => hk.2.1 q.symm)).trans h.2.1, (pk_un (fun q => hk.2.2.1 q.symm)).trans h.2.2.1, (pk_un (fun q => hk.2.2.2 q.symm)).trans h.2.2.2⟩
theorem US.up {b f : Nat → Int32} (h : US b f) {i x : Int32} (hi : 8 ≤ i.toInt) : US b (upd f i.toNatClampNeg x) := by
  rw [cl_nat]
  exact h.upN ⟨by omega, by omega, by omega, by omega⟩
/-- the names of a COURSE stay -/
def UN (f g : Nat → Int64) : Prop := ∀ j : Nat, j < 18 → g j = f j
theorem UN.rf {f : Nat → Int64} : UN f f := fun _ _ => rfl
theorem UN.tr {f g h : Nat → Int64} (a : UN f g) (b : UN g h) : UN f h := fun j hj => (b j hj).trans (a j hj)
theorem UN.up {f g : Nat → Int64} {i : Int32} {x : Int64} (e : vp_updL f i.toNatClampNeg x = g) (hi : 18 ≤ i.toInt) : UN f g := fun j hj => by
  rw [← e]
  show (if j = i.toNatClampNeg then x else f j) = f j
  rw [if_neg (by rw [cl_nat]; omega)]
theorem nmM_q {f g : Nat → Int64} {o q : Nat} {n : Int} (h : ∀ j : Nat, (j : Int) < n → g (q + j) = f (o + j)) : nmM g q n = nmM f o n := by
  unfold nmM
  refine congrArg (List.map g27) (nmG_eq (fun j hj => ?_))
  show (g (q + j)).toInt = (f (o + j)).toInt
  rw [h j (by omega)]
theorem AV.q {f g : Nat → Int64} {o q : Nat} {n : Int} (a : AV f o n) (h : ∀ j : Nat, (j : Int) < n → g (q + j) = f (o + j)) : AV g q n := fun j hj => by
  rw [h j hj]
  exact a j hj
theorem PICM.us {b s : Nat → Int32} {n : Nat → Int64} (h : US b s) : PICM s n = PICM b n := by
  unfold PICM
  rw [h.1, h.2.1, h.2.2.1, h.2.2.2]
theorem PICM.un {s : Nat → Int32} {n n' : Nat → Int64} (h : UN n n') (h5 : (s 5).toInt ≤ 12) (h7 : (s 7).toInt ≤ 6) : PICM s n' = PICM s n := by
  unfold PICM
  rw [nmM_q (f := n) (g := n') (o := 0) (q := 0) (fun j hj => h (0 + j) (by omega)), nmM_q (f := n) (g := n') (o := 12) (q := 12) (fun j hj => h (12 + j) (by omega))]
theorem AV.u0 {s b : Nat → Int32} {n : Nat → Int64} (a : AV n 0 (b 5).toInt) (h : US b s) : AV n 0 (s 5).toInt := by
  rw [h.2.1]
  exact a
theorem AV.u12 {s b : Nat → Int32} {n : Nat → Int64} (a : AV n 12 (b 7).toInt) (h : US b s) : AV n 12 (s 7).toInt := by
  rw [h.2.2.2]
  exact a
theorem AV.n0 {n n' : Nat → Int64} {k : Int} (a : AV n 0 k) (h : UN n n') (hk : k ≤ 12) : AV n' 0 k := a.q (fun j hj => h (0 + j) (by omega))
theorem AV.n12 {n n' : Nat → Int64} {k : Int} (a : AV n 12 k) (h : UN n n') (hk : k ≤ 6) : AV n' 12 k := a.q (fun j hj => h (12 + j) (by omega))
/-- a new COURSE: its numbers, its names -/
def CPH (s h : Nat → Int32) (n : Int) : Prop := ∀ j : Nat, (j : Int) < n → j < 104 → s j = h j
theorem CPH.zero {s h : Nat → Int32} {n : Int} (q : n ≤ 0) : CPH s h n := fun j hj => absurd hj (by omega)
theorem CPH.step {s s' h : Nat → Int32} {i x : Int32} {n n' : Int} (a : CPH s h n) (e : upd s i.toNatClampNeg x = s') (hi : i.toInt = n) (h0 : 0 ≤ n) (hn : n' = n + 1) (hx : n < 104 → x = h i.toNatClampNeg) : CPH s' h n' := fun j hj hk => by
  rw [cl_nat] at e hx
  rw [← e]
  by_cases q : (j : Int) = n
  · have ej : j = i.toInt.toNat := by omega
    rw [ej, pk_us]
    exact hx (by omega)
  · rw [pk_un (by omega)]
    exact a j (by omega) hk
theorem CPH.us {s h : Nat → Int32} {n : Int} (a : CPH s h n) (hn : 104 ≤ n) : US h s := ⟨a 0 (by omega) (by omega), a 5 (by omega) (by omega), a 6 (by omega) (by omega), a 7 (by omega) (by omega)⟩
def CPN (n0 g : Nat → Int64) (n : Int) : Prop := (∀ j : Nat, (j : Int) < n → j < 18 → g j = n0 (18 + j)) ∧ (∀ j : Nat, 18 ≤ j → g j = n0 j)
theorem CPN.zero {n0 : Nat → Int64} {n : Int} (q : n ≤ 0) : CPN n0 n0 n := ⟨fun j hj => absurd hj (by omega), fun _ _ => rfl⟩
theorem CPN.step {n0 g g' : Nat → Int64} {i k : Int32} {x : Int64} {n n' : Int} (a : CPN n0 g n) (e : vp_updL g i.toNatClampNeg x = g') (ex : x = g k.toNatClampNeg) (hi : i.toInt = n) (hk : k.toInt = 18 + n) (h0 : 0 ≤ n ∧ n < 18) (hn : n' = n + 1) : CPN n0 g' n' := by
  have ei : i.toNatClampNeg = n.toNat := by rw [cl_nat, hi]
  have ek : k.toNatClampNeg = 18 + n.toNat := by rw [cl_nat]; omega
  rw [ei] at e
  rw [ek] at ex
  refine ⟨fun j hj hj2 => ?_, fun j hj => ?_⟩
  · rw [← e]
    show (if j = n.toNat then x else g j) = n0 (18 + j)
    by_cases q : j = n.toNat
    · rw [if_pos q, ex, q]
      exact a.2 _ (by omega)
    · rw [if_neg q]
      exact a.1 j (by omega) hj2
  · rw [← e]
    show (if j = n.toNat then x else g j) = n0 j
    rw [if_neg (by omega)]
    exact a.2 j hj
theorem picm_new {on : Int32} {s h : Nat → Int32} {n0 g : Nat → Int64} {n : Int} (u : US h s) (c : CPN n0 g n) (hn : 18 ≤ n) (h5 : (h 5).toInt ≤ 12) (h7 : (h 7).toInt ≤ 6) : PICM s g = (csM on h n0).2 := by
  show ((s 0).toInt, nmM g 0 (s 5).toInt, (s 6).toInt, nmM g 12 (s 7).toInt) = ((h 0).toInt, nmM n0 18 (h 5).toInt, (h 6).toInt, nmM n0 30 (h 7).toInt)
  rw [u.1, u.2.1, u.2.2.1, u.2.2.2, nmM_q (f := n0) (g := g) (o := 18) (q := 0) (n := (h 5).toInt) (fun j hj => by rw [Nat.zero_add]; exact c.1 j (by omega) (by omega)), nmM_q (f := n0) (g := g) (o := 30) (q := 12) (n := (h 7).toInt) (fun j hj => by rw [c.1 (12 + j) (by omega) (by omega)]; exact congrArg n0 (by omega))]
theorem av_new0 {s h : Nat → Int32} {n0 g : Nat → Int64} {n : Int} (a : AV n0 18 (h 5).toInt) (u : US h s) (c : CPN n0 g n) (hn : 18 ≤ n) (h5 : (h 5).toInt ≤ 12) : AV g 0 (s 5).toInt := by
  rw [u.2.1]
  exact a.q (fun j hj => by rw [Nat.zero_add]; exact c.1 j (by omega) (by omega))
theorem av_new12 {s h : Nat → Int32} {n0 g : Nat → Int64} {n : Int} (a : AV n0 30 (h 7).toInt) (u : US h s) (c : CPN n0 g n) (hn : 18 ≤ n) (h7 : (h 7).toInt ≤ 6) : AV g 12 (s 7).toInt := by
  rw [u.2.2.2]
  exact a.q (fun j hj => by rw [c.1 (12 + j) (by omega) (by omega)]; exact congrArg n0 (by omega))
theorem cpc_r {x : Sum Flt (Int × CS)} {r : Int} {s : CS} {c : PC} (h : x = .inr (r, s)) : cPic x c = s.2 := by
  rw [h]
  exact rfl
theorem cpc_l {x : Sum Flt (Int × CS)} {e : Flt} {c : PC} (h : x = .inl e) : cPic x c = c := by
  rw [h]
  exact rfl
/-- kept in a place, and back -/
def UO (f g : Nat → Int32) (b : Nat) : Prop := ∀ j : Nat, j < 335 → g (b + j) = f (b + j)
theorem UO.rf {f : Nat → Int32} {b : Nat} : UO f f b := fun _ _ => rfl
theorem UO.up {f g g' : Nat → Int32} {b : Nat} {i x : Int32} (h : UO f g b) (e : upd g i.toNatClampNeg x = g') (hi : i.toInt < b ∨ (b : Int) + 335 ≤ i.toInt) (h0 : 0 ≤ i.toInt) : UO f g' b := fun j hj => by
  rw [← e, pk_un (by rw [cl_nat]; omega)]
  exact h j hj
def UOL (f g : Nat → Int64) (b : Nat) : Prop := ∀ j : Nat, j < 18 → g (b + j) = f (b + j)
theorem UOL.rf {f : Nat → Int64} {b : Nat} : UOL f f b := fun _ _ => rfl
theorem UOL.up {f g g' : Nat → Int64} {b : Nat} {i : Int32} {x : Int64} (h : UOL f g b) (e : vp_updL g i.toNatClampNeg x = g') (hi : i.toInt < b ∨ (b : Int) + 18 ≤ i.toInt) (h0 : 0 ≤ i.toInt) : UOL f g' b := fun j hj => by
  rw [← e]
  show (if b + j = i.toNatClampNeg then x else g (b + j)) = f (b + j)
  rw [if_neg (by rw [cl_nat]; omega)]
  exact h j hj
def CPL (g : Nat → Int64) (og : Nat) (f : Nat → Int64) (of : Nat) (n : Int) : Prop := ∀ j : Nat, (j : Int) < n → g (og + j) = f (of + j)
theorem CPL.zero {g f : Nat → Int64} {og of : Nat} {n : Int} (h : n ≤ 0) : CPL g og f of n := fun j hj => absurd hj (by omega)
theorem CPL.step {g g' f : Nat → Int64} {og of : Nat} {n n' : Int} (h : CPL g og f of n) {i k : Int32} {x : Int64} (e : vp_updL g i.toNatClampNeg x = g') (ex : x = f k.toNatClampNeg) (hi : 0 ≤ n ∧ i.toInt = og + n) (hk : k.toInt = of + n) (hn : n' = n + 1) : CPL g' og f of n' := by
  intro j h3
  rw [← e]
  show (if og + j = i.toNatClampNeg then x else g (og + j)) = f (of + j)
  by_cases ej : (j : Int) = n
  · rw [if_pos (by rw [cl_nat]; omega), ex]
    exact congrArg f (by rw [cl_nat]; omega)
  · rw [if_neg (by rw [cl_nat]; omega)]
    exact h j (by omega)
theorem pici_to {fi s : Nat → Int32} {fk n : Nat → Int64} {o q : Nat} {k l : Int} (a : CPY fi o s 0 k) (b : CPL fk q n 0 l) (hk : 335 ≤ k) (hl : 18 ≤ l) (h5 : (s 5).toInt ≤ 12) (h7 : (s 7).toInt ≤ 6) : PICI fi o fk q = PICM s n := by
  have e0 : fi o = s 0 := a 0 (by omega)
  have e5 : fi (o + 5) = s 5 := a 5 (by omega)
  have e6 : fi (o + 6) = s 6 := a 6 (by omega)
  have e7 : fi (o + 7) = s 7 := a 7 (by omega)
  unfold PICI PICM
  rw [e0, e5, e6, e7, nmM_q (f := n) (g := fk) (o := 0) (q := q) (fun j hj => b j (by omega)), nmM_q (f := n) (g := fk) (o := 12) (q := q + 12) (fun j hj => by rw [show q + 12 + j = q + (12 + j) by omega, b (12 + j) (by omega)]; exact congrArg n (by omega))]
theorem avi_to {fi s : Nat → Int32} {fk n : Nat → Int64} {o q : Nat} {k l : Int} (a : CPY fi o s 0 k) (b : CPL fk q n 0 l) (hk : 335 ≤ k) (hl : 18 ≤ l) (h5 : (s 5).toInt ≤ 12) (h7 : (s 7).toInt ≤ 6) (a0 : AV n 0 (s 5).toInt) (a12 : AV n 12 (s 7).toInt) : AVI fi o fk q := by
  have e5 : fi (o + 5) = s 5 := a 5 (by omega)
  have e7 : fi (o + 7) = s 7 := a 7 (by omega)
  unfold AVI
  rw [e5, e7]
  exact ⟨a0.q (fun j hj => b j (by omega)), a12.q (fun j hj => by rw [show q + 12 + j = q + (12 + j) by omega, b (12 + j) (by omega)]; exact congrArg n (by omega))⟩
theorem pici_of {fi s : Nat → Int32} {fk n : Nat → Int64} {o q : Nat} {k l : Int} (a : CPY s 0 fi o k) (b : CPL n 0 fk q l) (hk : 335 ≤ k) (hl : 18 ≤ l) (h5 : (s 5).toInt ≤ 12) (h7 : (s 7).toInt ≤ 6) : PICM s n = PICI fi o fk q := by
  have e0 : s 0 = fi o := a 0 (by omega)
  have e5 : s 5 = fi (o + 5) := a 5 (by omega)
  have e6 : s 6 = fi (o + 6) := a 6 (by omega)
  have e7 : s 7 = fi (o + 7) := a 7 (by omega)
  unfold PICI PICM
  rw [← e0, ← e5, ← e6, ← e7, nmM_q (f := fk) (g := n) (o := q) (q := 0) (fun j hj => b j (by omega)), nmM_q (f := fk) (g := n) (o := q + 12) (q := 12) (fun j hj => by rw [show q + 12 + j = q + (12 + j) by omega, ← b (12 + j) (by omega)]; exact congrArg n (by omega))]
theorem avi_of {fi s : Nat → Int32} {fk n : Nat → Int64} {o q : Nat} {k l : Int} (a : CPY s 0 fi o k) (b : CPL n 0 fk q l) (hk : 335 ≤ k) (hl : 18 ≤ l) (h5 : (s 5).toInt ≤ 12) (h7 : (s 7).toInt ≤ 6) (v : AVI fi o fk q) : AV n 0 (s 5).toInt ∧ AV n 12 (s 7).toInt := by
  have e5 : s 5 = fi (o + 5) := a 5 (by omega)
  have e7 : s 7 = fi (o + 7) := a 7 (by omega)
  refine ⟨?_, ?_⟩
  · have v1 := v.1
    rw [← e5] at v1
    exact v1.q (fun j hj => b j (by omega))
  · have v2 := v.2
    rw [← e7] at v2
    exact v2.q (fun j hj => by rw [show q + 12 + j = q + (12 + j) by omega, ← b (12 + j) (by omega)]; exact congrArg n (by omega))
theorem pici_u {f g : Nat → Int32} {n n' : Nat → Int64} {o q : Nat} (a : UO f g o) (b : UOL n n' q) (h5 : (f (o + 5)).toInt ≤ 12) (h7 : (f (o + 7)).toInt ≤ 6) : PICI g o n' q = PICI f o n q := by
  have e0 : g o = f o := a 0 (by omega)
  unfold PICI
  rw [e0, a 5 (by omega), a 6 (by omega), a 7 (by omega), nmM_q (f := n) (g := n') (o := q) (q := q) (fun j hj => b j (by omega)), nmM_q (f := n) (g := n') (o := q + 12) (q := q + 12) (fun j hj => by rw [show q + 12 + j = q + (12 + j) by omega]; exact b (12 + j) (by omega))]
theorem avi_u {f g : Nat → Int32} {n n' : Nat → Int64} {o q : Nat} (a : UO f g o) (b : UOL n n' q) (h5 : (f (o + 5)).toInt ≤ 12) (h7 : (f (o + 7)).toInt ≤ 6) (v : AVI f o n q) : AVI g o n' q := by
  unfold AVI
  rw [a 5 (by omega), a 7 (by omega)]
  exact ⟨v.1.q (fun j hj => b j (by omega)), v.2.q (fun j hj => by rw [show q + 12 + j = q + (12 + j) by omega]; exact b (12 + j) (by omega))⟩
theorem CPL.mn {g f : Nat → Int64} {og of : Nat} {n n' : Int} (h : CPL g og f of n) (hn : n' ≤ n) : CPL g og f of n' := fun j hj => h j (by omega)
