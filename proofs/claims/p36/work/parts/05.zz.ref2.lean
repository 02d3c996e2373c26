/-! what the reference's texts name -/
theorem tkM_1st {t a nu p : Int32} {w : Int64} (h : t.toInt = 1) : (tkM t a nu w p).1 = 1 := h
theorem tkM_1n {t a nu p : Int32} {w : Int64} (h : (tkM t a nu w p).1 = 1) : t.toInt = 1 := h
theorem tkM_end {t a nu p : Int32} {w : Int64} : (tkM t a nu w p).1 = 0 ↔ t.toInt = 0 := Iff.rfl
theorem tkM_w {t a nu p : Int32} {w : Int64} (h : t.toInt = 1) : (tkM t a nu w p).2.2.2.1 = g27 w.toInt := by rw [tkM_1 h]
theorem tkM_nu {t a nu p : Int32} {w : Int64} (h : t.toInt = 2) : (tkM t a nu w p).2.2.1 = nu.toInt := by rw [tkM_2 h]
theorem atM {T : Int → Tok} {t a nu p : Int32} {w : Int64} {t1 : Tok} (h : t1 = T p.toInt) (ht : t.toInt = 1) : t1 = T (tkM t a nu w p).2.2.2.2 := by
  rw [tkM_1 ht]
  exact h
theorem lnwM {t a nu p : Int32} {w : Int64} {c : Int} (ht : t.toInt = 1) (hw : wix (g27 w.toInt) = c) : wix (tkM t a nu w p).2.2.2.1 = c := by
  rw [tkM_w ht]
  exact hw
theorem numM_1 {T : Int → Tok} {t a nu p : Int32} {w : Int64} {lo hi : Int} {t1 : Tok} (ht : t.toInt = 2) (hl : lo ≤ nu.toInt ∧ nu.toInt ≤ hi) (h : t1 = T p.toInt) : num T (tkM t a nu w p) lo hi = .inr t1 := by
  rw [tkM_2 ht, h]
  unfold num
  rw [if_pos rfl, if_pos hl]
theorem numM_0 {T : Int → Tok} {t a nu p fk fp : Int32} {w : Int64} {lo hi : Int} (h : (t.toInt ≠ 2 ∧ fk.toInt = 1 ∧ fp.toInt = a.toInt) ∨ (t.toInt = 2 ∧ (nu.toInt < lo ∨ hi < nu.toInt) ∧ fk.toInt = 2 ∧ fp.toInt = a.toInt)) : num T (tkM t a nu w p) lo hi = .inl (fk.toInt, fp.toInt) := by
  rcases h with ⟨ht, h1, h2⟩ | ⟨ht, hv, h1, h2⟩
  · unfold num
    rw [if_neg (show ¬ (tkM t a nu w p).1 = 2 from ht), h1, h2]
    exact rfl
  · rw [tkM_2 ht]
    unfold num
    rw [if_pos rfl, if_neg (fun q => by have q1 : lo ≤ nu.toInt := q.1; have q2 : nu.toInt ≤ hi := q.2; omega), h1, h2]
theorem sgnM_1 {T : Int → Tok} {t a nu p : Int32} {w : Int64} {c : Int} {t1 : Tok} (ht : t.toInt = 3) (hn : nu.toInt = c) (h : t1 = T p.toInt) : sgn T (tkM t a nu w p) c = .inr t1 := by
  rw [tkM_3 ht, h]
  unfold sgn
  rw [if_pos ⟨rfl, hn⟩]
theorem sgnM_0 {T : Int → Tok} {t a nu p fk fp : Int32} {w : Int64} {c : Int} (h : ¬ (t.toInt = 3 ∧ nu.toInt = c)) (h1 : fk.toInt = 1) (h2 : fp.toInt = a.toInt) : sgn T (tkM t a nu w p) c = .inl (fk.toInt, fp.toInt) := by
  have h3 : ¬ ((tkM t a nu w p).1 = 3 ∧ (tkM t a nu w p).2.2.1 = c) := by
    intro q
    have q1 : t.toInt = 3 := q.1
    have q2 := q.2
    rw [tkM_3 q1] at q2
    exact h ⟨q1, q2⟩
  unfold sgn
  rw [if_neg h3, h1, h2]
  exact rfl
theorem namM_1 {T : Int → Tok} {t a nu p : Int32} {w : Int64} {ms rs : List Int} {t1 : Tok} (ht : t.toInt = 1) (hw : wix (g27 w.toInt) = -1) (h1 : wixK ms 0 (g27 w.toInt) = -1) (h2 : wixK rs 0 (g27 w.toInt) = -1) (h : t1 = T p.toInt) : nam T (tkM t a nu w p) ms rs = .inr t1 := by
  rw [tkM_1 ht, h]
  unfold nam
  rw [if_pos ⟨rfl, hw⟩, if_neg (by rw [h1, h2]; exact fun q => q.elim (fun z => z rfl) (fun z => z rfl))]
theorem namM_0 {T : Int → Tok} {t a nu p fk fp : Int32} {w : Int64} {ms rs : List Int} (h : (¬ (t.toInt = 1 ∧ wix (g27 w.toInt) = -1) ∧ fk.toInt = 1 ∧ fp.toInt = a.toInt) ∨ (t.toInt = 1 ∧ wix (g27 w.toInt) = -1 ∧ (wixK ms 0 (g27 w.toInt) ≠ -1 ∨ wixK rs 0 (g27 w.toInt) ≠ -1) ∧ fk.toInt = 3 ∧ fp.toInt = a.toInt)) : nam T (tkM t a nu w p) ms rs = .inl (fk.toInt, fp.toInt) := by
  rcases h with ⟨hn, h1, h2⟩ | ⟨ht, hw, hm, h1, h2⟩
  · have h3 : ¬ ((tkM t a nu w p).1 = 1 ∧ wix (tkM t a nu w p).2.2.2.1 = -1) := by
      intro q
      have q1 : t.toInt = 1 := q.1
      have q2 := q.2
      rw [tkM_w q1] at q2
      exact hn ⟨q1, q2⟩
    unfold nam
    rw [if_neg h3, h1, h2]
    exact rfl
  · rw [tkM_1 ht]
    unfold nam
    rw [if_pos ⟨rfl, hw⟩, if_pos hm, h1, h2]
theorem fin_r {x : Sum Flt (Tok × CS)} {t : Tok} {s s' : CS} (h : x = .inr (t, s)) (hs : s = s') : x = .inr (t, s') := by rw [h, hs]
def csM (on : Int32) (h : Nat → Int32) (nm : Nat → Int64) : CS := (on, (h 0).toInt, nmM nm 18 (h 5).toInt, (h 6).toInt, nmM nm 30 (h 7).toInt)
theorem upd_m {f g : Nat → Int32} {x : Int32} {k j : Nat} (e : upd f k x = g) (h : j ≠ k) : g j = f j := by rw [← e, pk_un h]
/-- the counts and YARDS stay -/
def HU (f g : Nat → Int32) : Prop := g 0 = f 0 ∧ g 5 = f 5 ∧ g 6 = f 6 ∧ g 7 = f 7
theorem HU.rf {f : Nat → Int32} : HU f f := ⟨rfl, rfl, rfl, rfl⟩
theorem HU.up {f g g' : Nat → Int32} {i x : Int32} (h : HU f g) (e : upd g i.toNatClampNeg x = g') (hi : 8 ≤ i.toInt) : HU f g' := by
  have hk : i.toNatClampNeg = i.toInt.toNat := cl_nat
  exact ⟨(upd_m e (by omega)).trans h.1, (upd_m e (by omega)).trans h.2.1, (upd_m e (by omega)).trans h.2.2.1, (upd_m e (by omega)).trans h.2.2.2⟩
theorem HU.a0 {f g : Nat → Int32} (h : HU f g) : g 0 = f 0 := h.1
theorem HU.a5 {f g : Nat → Int32} (h : HU f g) : g 5 = f 5 := h.2.1
theorem HU.a6 {f g : Nat → Int32} (h : HU f g) : g 6 = f 6 := h.2.2.1
theorem HU.a7 {f g : Nat → Int32} (h : HU f g) : g 7 = f 7 := h.2.2.2
theorem csM_s {on on' x : Int32} {h h' : Nat → Int32} {nm : Nat → Int64} {k : Nat} (e : upd h k x = h') (hk : k < 5) : (on', (h' 0).toInt, (csM on h nm).2.2) = csM on' h' nm := by
  show (on', (h' 0).toInt, nmM nm 18 (h 5).toInt, (h 6).toInt, nmM nm 30 (h 7).toInt) = (on', (h' 0).toInt, nmM nm 18 (h' 5).toInt, (h' 6).toInt, nmM nm 30 (h' 7).toInt)
  rw [upd_m (j := 5) e (by omega), upd_m (j := 6) e (by omega), upd_m (j := 7) e (by omega)]
theorem csM_b {on x : Int32} {h h1 h2 : Nat → Int32} {nm : Nat → Int64} (hu : HU h h1) (e : upd h1 6 x = h2) : ((csM on h nm).1, (csM on h nm).2.1, (csM on h nm).2.2.1, (h2 6).toInt, (csM on h nm).2.2.2.2) = csM on h2 nm := by
  show (on, (h 0).toInt, nmM nm 18 (h 5).toInt, (h2 6).toInt, nmM nm 30 (h 7).toInt) = (on, (h2 0).toInt, nmM nm 18 (h2 5).toInt, (h2 6).toInt, nmM nm 30 (h2 7).toInt)
  rw [upd_m (j := 0) e (by decide), upd_m (j := 5) e (by decide), upd_m (j := 7) e (by decide), hu.a0, hu.a5, hu.a7]
theorem csM_m {on x i : Int32} {w : Int64} {h h1 h2 : Nat → Int32} {nm nm2 : Nat → Int64} (hu : HU h h1) (e : upd h1 5 x = h2) (en : vp_updL nm i.toNatClampNeg w = nm2) (hi : 18 ≤ i.toInt ∧ i.toInt < 30) : ((csM on h nm).1, (csM on h nm).2.1, nmM nm2 18 (h2 5).toInt, (csM on h nm).2.2.2.1, (csM on h nm).2.2.2.2) = csM on h2 nm2 := by
  show (on, (h 0).toInt, nmM nm2 18 (h2 5).toInt, (h 6).toInt, nmM nm 30 (h 7).toInt) = (on, (h2 0).toInt, nmM nm2 18 (h2 5).toInt, (h2 6).toInt, nmM nm2 30 (h2 7).toInt)
  rw [upd_m (j := 0) e (by decide), upd_m (j := 6) e (by decide), upd_m (j := 7) e (by decide), hu.a0, hu.a6, hu.a7, nmM_un (o := 30) en (by omega) (by omega)]
theorem csM_r {on x i : Int32} {w : Int64} {h h1 h2 : Nat → Int32} {nm nm2 : Nat → Int64} (hu : HU h h1) (e : upd h1 7 x = h2) (en : vp_updL nm i.toNatClampNeg w = nm2) (hi : 30 ≤ i.toInt) (h5 : (h 5).toInt ≤ 12) : ((csM on h nm).1, (csM on h nm).2.1, (csM on h nm).2.2.1, (csM on h nm).2.2.2.1, nmM nm2 30 (h2 7).toInt) = csM on h2 nm2 := by
  show (on, (h 0).toInt, nmM nm 18 (h 5).toInt, (h 6).toInt, nmM nm2 30 (h2 7).toInt) = (on, (h2 0).toInt, nmM nm2 18 (h2 5).toInt, (h2 6).toInt, nmM nm2 30 (h2 7).toInt)
  rw [upd_m (j := 0) e (by decide), upd_m (j := 5) e (by decide), upd_m (j := 6) e (by decide), hu.a0, hu.a5, hu.a6, nmM_un (o := 18) en (by omega) (by omega)]
theorem AV.h {f : Nat → Int64} {o : Nat} {a b : Int32} (h : AV f o a.toInt) (e : b = a) : AV f o b.toInt := by
  rw [e]
  exact h
theorem AV.none {f : Nat → Int64} {o : Nat} {n : Int} (h : n ≤ 0) : AV f o n := fun i hi => absurd hi (by omega)
theorem csM_0 {h : Nat → Int32} {nm : Nat → Int64} (e : (h 0).toInt = 40 ∧ (h 5).toInt = 0 ∧ (h 6).toInt = 0 ∧ (h 7).toInt = 0) : csM 0 h nm = (0, 40, [], 0, []) := by
  unfold csM
  rw [e.1, e.2.1, e.2.2.1, e.2.2.2]
  exact rfl
theorem cAns_r2 {x : Sum Flt (Int × CS)} {r : Int} {s : CS} (h : x = .inr (r, s)) : r = cAns x := (cAns_r h).symm
theorem cAns_l2 {x : Sum Flt (Int × CS)} {r c e : Int} (h : x = .inl (c, e)) (hr : r = -1 - e) : r = cAns x := hr.trans (cAns_l h).symm
theorem gO_at {f : Nat → Int64} {v : Int32} {a b : Int} (h : v.toInt = a + b) (h0 : 0 ≤ a ∧ 0 ≤ b) : (f v.toNatClampNeg).toInt = gO f a.toNat b.toNat := by
  have hk : v.toNatClampNeg = a.toNat + b.toNat := by rw [cl_nat]; omega
  rw [hk]
  exact rfl
