/-! the reference's next(): each look is told at once by what stands there, under names that arithmetic doesn't open -/
def HFS (f : Nat → Int32) (q sm : Int) : Prop := (97 ≤ tb f q.toNat ∧ tb f q.toNat ≤ 122 ∧ sm = 1) ∨ (48 ≤ tb f q.toNat ∧ tb f q.toNat ≤ 57 ∧ sm = 0)
def LDS (f : Nat → Int32) (k : Nat) : Prop := (97 ≤ tb f k ∧ tb f k ≤ 122) ∨ (48 ≤ tb f k ∧ tb f k ≤ 57)
def RXF (f : Nat → Int32) (n p : Int) : Prop := ¬ (p < n ∧ (isSm (tb f p.toNat) ∨ isDg (tb f p.toNat)))
def ALF (f : Nat → Int32) (k : Nat) (sm al al' : Int) : Prop := (al' = 1 ∧ al = 1 ∧ ((97 ≤ tb f k ∧ tb f k ≤ 122 ∧ sm = 1) ∨ (48 ≤ tb f k ∧ tb f k ≤ 57 ∧ sm = 0))) ∨ (al' = 0 ∧ (al = 0 ∨ (al = 1 ∧ ((97 ≤ tb f k ∧ tb f k ≤ 122 ∧ sm = 0) ∨ (48 ≤ tb f k ∧ tb f k ≤ 57 ∧ sm = 1)))))
def WDF (sp w w' c : Int) : Prop := sp < 7 → 0 ≤ w → w ≤ 281474976710656 → w' = w * 256 + c
def NUF (sp nu nu' c : Int) : Prop := sp < 3 → 0 ≤ nu → nu ≤ 1000 → nu' = nu * 10 + (c - 48)
def FINF (f : Nat → Int32) (n q p sm al sp w nu : Int) : Prop :=
  (al = 1 → sm = 1 → sp ≤ 7 → tkP f n q = (1, q, 0, g27 w, p) ∧ WVd w) ∧ (al = 1 → sm = 0 → sp ≤ 3 → tkP f n q = (2, q, nu, 0, p)) ∧ ((al = 0 ∨ (sm = 1 ∧ 7 < sp) ∨ (sm = 0 ∧ 3 < sp)) → (al = 0 ∨ al = 1) → tkP f n q = (4, q, 0, 0, 0))
theorem look_nn {p n r c : Int} (h : (p < n ∧ r = c) ∨ (n ≤ p ∧ r = -1)) (h0 : 0 ≤ r) : p < n ∧ r = c := by omega
theorem look_in {p n r c : Int} (h : (p < n ∧ r = c) ∨ (n ≤ p ∧ r = -1)) (h0 : p < n) : r = c := by omega
theorem chi_s {p n r c b : Int} (h : (p < n ∧ r = c) ∨ (n ≤ p ∧ r = -1)) (g : (b = 1 ∧ 97 ≤ r ∧ r ≤ 122) ∨ (b = 0 ∧ (r < 97 ∨ 122 < r))) (hb : b ≠ 0) : p < n ∧ 97 ≤ c ∧ c ≤ 122 := by omega
theorem chi_d {p n r c b : Int} (h : (p < n ∧ r = c) ∨ (n ≤ p ∧ r = -1)) (g : (b = 1 ∧ 48 ≤ r ∧ r ≤ 57) ∨ (b = 0 ∧ (r < 48 ∨ 57 < r))) (hb : b ≠ 0) : p < n ∧ 48 ≤ c ∧ c ≤ 57 := by omega
theorem lds_s {f : Nat → Int32} {k : Nat} (h : 97 ≤ tb f k ∧ tb f k ≤ 122) : LDS f k := Or.inl h
theorem lds_d {f : Nat → Int32} {k : Nat} (h : 48 ≤ tb f k ∧ tb f k ≤ 57) : LDS f k := Or.inr h
theorem hfs_of {f : Nat → Int32} {q r sm : Int} (h : (48 ≤ r ∧ r ≤ 57 ∧ sm = 0) ∨ (97 ≤ r ∧ r ≤ 122 ∧ sm = 1)) (e : r = tb f q.toNat) : HFS f q sm := by
  rw [e] at h
  exact h.symm
theorem rx_of {f : Nat → Int32} {p n r1 r2 b1 b2 : Int} (h1 : (p < n ∧ r1 = tb f p.toNat) ∨ (n ≤ p ∧ r1 = -1)) (g1 : (b1 = 1 ∧ 97 ≤ r1 ∧ r1 ≤ 122) ∨ (b1 = 0 ∧ (r1 < 97 ∨ 122 < r1))) (e1 : b1 = 0)
    (h2 : (p < n ∧ r2 = tb f p.toNat) ∨ (n ≤ p ∧ r2 = -1)) (g2 : (b2 = 1 ∧ 48 ≤ r2 ∧ r2 ≤ 57) ∨ (b2 = 0 ∧ (r2 < 48 ∨ 57 < r2))) (e2 : b2 = 0) : RXF f n p := by
  intro q
  have q0 := q.1
  have a1 := look_in h1 q0
  have a2 := look_in h2 q0
  clear h1 h2
  rcases q.2 with ⟨c1, c2⟩ | ⟨c1, c2⟩
  · clear g2 q
    omega
  · clear g1 q
    omega
theorem sp1_of {f : Nat → Int32} {q p n sm sp : Int} (hf : HFS f q sm) (hq : q < n) (he : q + sp = p) (h0 : 0 ≤ sp) (hx : RXF f n p) : 1 ≤ sp := by
  by_cases h : 1 ≤ sp
  · exact h
  · have e : p = q := by clear hf hx; omega
    refine absurd ?_ hx
    rw [e]
    refine ⟨hq, ?_⟩
    exact hf.elim (fun h => Or.inl ⟨h.1, h.2.1⟩) (fun h => Or.inr ⟨h.1, h.2.1⟩)
theorem ALF.o {f : Nat → Int32} {k : Nat} {sm al al' : Int} (h : al = 0) (h' : al' = 0) : ALF f k sm al al' := Or.inr ⟨h', Or.inl h⟩
theorem ALF.ne {f : Nat → Int32} {k : Nat} {sm al al' r b : Int} (h : al = 1) (hl : LDS f k) (e : r = tb f k) (g : (b = 1 ∧ 97 ≤ r ∧ r ≤ 122) ∨ (b = 0 ∧ (r < 97 ∨ 122 < r))) (hb : b ≠ sm) (hs : sm = 0 ∨ sm = 1) (h' : al' = 0) : ALF f k sm al al' := by
  refine Or.inr ⟨h', Or.inr ⟨h, ?_⟩⟩
  rcases hl with ⟨c1, c2⟩ | ⟨c1, c2⟩
  · exact Or.inl ⟨c1, c2, by omega⟩
  · exact Or.inr ⟨c1, c2, by omega⟩
theorem ALF.eq {f : Nat → Int32} {k : Nat} {sm al al' r b : Int} (h : al = 1) (hl : LDS f k) (e : r = tb f k) (g : (b = 1 ∧ 97 ≤ r ∧ r ≤ 122) ∨ (b = 0 ∧ (r < 97 ∨ 122 < r))) (hb : b = sm) (h' : al' = 1) : ALF f k sm al al' := by
  refine Or.inl ⟨h', h, ?_⟩
  rcases hl with ⟨c1, c2⟩ | ⟨c1, c2⟩
  · exact Or.inl ⟨c1, c2, by omega⟩
  · exact Or.inr ⟨c1, c2, by omega⟩
theorem NUF.st {sp nu v1 v2 v3 r c : Int} (b1 : -1000000 ≤ nu → nu ≤ 1000000 → v1 = 10 * nu) (b2 : -1000000 ≤ v1 → v1 ≤ 1000000 → v2 = v1 + r) (b3 : -1000000 ≤ v2 → v2 ≤ 1000000 → v3 = v2 - 48) (e : r = c) (hc : 0 ≤ c ∧ c ≤ 255) : NUF sp nu v3 c := by
  intro _ h0 h1
  have a1 := b1 (by clear b1 b2 b3; omega) (by clear b1 b2 b3; omega)
  clear b1
  have a2 := b2 (by clear b2 b3; omega) (by clear b2 b3; omega)
  clear b2
  have a3 := b3 (by clear b3; omega) (by clear b3; omega)
  clear b3
  omega
theorem WDF.no {sp w w' c : Int} (h : 7 ≤ sp) : WDF sp w w' c := fun q => by omega
theorem NUF.no {sp nu nu' c : Int} (h : 3 ≤ sp) : NUF sp nu nu' c := fun q => by omega
theorem WDF.st {sp c : Int} {w w' : Int64} {r : Int32} (e : w' = (w <<< ((8 : Int32).toInt64 &&& 63)) ||| r.toInt64) (er : r.toInt = c) (hc : 0 ≤ c ∧ c ≤ 255) : WDF sp w.toInt w'.toInt c := by
  intro _ h0 h1
  rw [e, wd_st h0 h1 (by rw [er]; exact hc), er]
theorem RRM.fin2 {f : Nat → Int32} {n q p sm al sp w nu : Int} (h : RRM f n q p sm al sp w nu) (h1 : 1 ≤ sp) (he : RXF f n p) (hf : HFS f q sm) : FINF f n q p sm al sp w nu := RRM.fin h h1 he hf
theorem p10_3 : ∀ k : Nat, k < 4 → p10 k ≤ 1000 := by decide +kernel
theorem RRM.num {f : Nat → Int32} {n q p sm al sp w nu : Int} (h : RRM f n q p sm al sp w nu) (a1 : al = 1) (a2 : sm = 0) (a3 : sp ≤ 3) : 0 ≤ nu ∧ nu ≤ 999 := by
  obtain ⟨h0, g1, g2, g3, g4, g5, g6, g7, g8, g9⟩ := h
  have hk : sp.toNat ≤ 3 := by clear g3 g4 g5 g6 g7 g8 g9; omega
  have hb := d10_b (f := f) (q := q.toNat) sp.toNat hk (g5 a1 a2)
  have hv := g9 a1 a2 a3
  have hp := p10_3 sp.toNat (by clear g3 g4 g5 g6 g7 g8 g9 hb hv; omega)
  clear g3 g4 g5 g6 g7 g8 g9
  omega
theorem RRM.step2 {f : Nat → Int32} {n q p sm al sp w nu p' al' sp' w' nu' : Int} (h : RRM f n q p sm al sp w nu) (hp : p < n) (hc : LDS f p.toNat) (hs : sm = 0 ∨ sm = 1) (ha : ALF f p.toNat sm al al')
    (hw : WDF sp w w' (tb f p.toNat)) (hn : NUF sp nu nu' (tb f p.toNat)) (ep : p' = p + 1) (es : sp' = sp + 1) : RRM f n q p' sm al' sp' w' nu' := RRM.step h hp hc hs ha hw hn ep es
theorem tb_255 (f : Nat → Int32) (i : Nat) : 0 ≤ tb f i ∧ tb f i ≤ 255 := tb_nn f i
def LIMF (n lim u : Int) : Prop := ¬ (lim < n ∧ lim ≤ u)
theorem lim_1 {n lim u : Int} (h : n ≤ lim) : LIMF n lim u := fun q => by have q1 := q.1; omega
theorem lim_2 {n lim u : Int} (h : u < lim) : LIMF n lim u := fun q => by have q1 := q.2; omega
theorem hfs_sg {f : Nat → Int32} {q sm : Int} (h : HFS f q sm) : ¬ isSg (tb f q.toNat) := by
  intro g
  rcases h with ⟨h1, h2, _⟩ | ⟨h1, h2, _⟩
  · rcases g with g | g | ⟨g1, g2⟩ <;> omega
  · rcases g with g | g | ⟨g1, g2⟩ <;> omega
theorem look_ng {p n r c : Int} (h : (p < n ∧ r = c) ∨ (n ≤ p ∧ r = -1)) (h0 : r < 0) (hc : 0 ≤ c) : n ≤ p := by omega
theorem bit_0 {t : Int} (h : ((0 : Int32).toInt = 1 ∧ t = 1) ∨ ((0 : Int32).toInt = 0 ∧ t = 0)) : t = 0 := h.elim (fun q => absurd q.1 (by decide)) (fun q => q.2)
theorem bit_1 {t : Int} (h : ((1 : Int32).toInt = 1 ∧ t = 1) ∨ ((1 : Int32).toInt = 0 ∧ t = 0)) : t ≠ 0 := h.elim (fun q e => by have q2 := q.2; omega) (fun q => absurd q.1 (by decide))
/-! what a look at the TOKEN leaves, under names -/
def VWF (t w : Int) : Prop := t = 1 → WVd w
def ISWF (r t w k : Int) : Prop := (r = 1 ∧ t = 1 ∧ w = k) ∨ (r = 0 ∧ ¬ (t = 1 ∧ w = k))
theorem ISWF.mk {r t w k : Int} (h : (r = 1 ∧ t = 1 ∧ w = k) ∨ (r = 0 ∧ ¬ (t = 1 ∧ w = k))) : ISWF r t w k := h
theorem ISWF.t {r t w k : Int} (h : ISWF r t w k) (hr : r ≠ 0) : t = 1 ∧ w = k := h.elim (fun q => q.2) (fun q => absurd q.1 hr)
theorem ISWF.f {r t w k : Int} (h : ISWF r t w k) (hr : r = 0) : ¬ (t = 1 ∧ w = k) := h.elim (fun q => absurd (q.1.symm.trans hr) (by decide)) (fun q => q.2)
theorem ISWF.ne {r t w k : Int} (h : ISWF r t w k) (hr : r = 0) (ht : t = 1) : w ≠ k := fun q => ISWF.f h hr ⟨ht, q⟩
def ONCF (r t w : Int) : Prop := (0 ≤ r ∧ r ≤ 4 ∧ t = 1 ∧ w = r) ∨ (r = -1 ∧ ¬ (t = 1 ∧ 0 ≤ w ∧ w ≤ 4))
theorem ONCF.mk {r t w : Int} (h : (0 ≤ r ∧ r ≤ 4 ∧ t = 1 ∧ w = r) ∨ (r = -1 ∧ ¬ (t = 1 ∧ 0 ≤ w ∧ w ≤ 4))) : ONCF r t w := h
theorem ONCF.t {r t w k : Int} (h : ONCF r t w) (hr : r = k) (hk : 0 ≤ k) : t = 1 ∧ w = k := by
  rcases h with ⟨_, _, h1, h2⟩ | ⟨h1, _⟩
  · exact ⟨h1, h2.trans hr⟩
  · omega
theorem ONCF.f {r t w : Int} (h : ONCF r t w) (hr : r < 0) : ¬ (t = 1 ∧ 0 ≤ w ∧ w ≤ 4) := by
  rcases h with ⟨h1, _⟩ | ⟨_, h2⟩
  · omega
  · exact h2
def ISGF (r t n k : Int) : Prop := (r = 1 ∧ t = 3 ∧ n = k) ∨ (r = 0 ∧ ¬ (t = 3 ∧ n = k))
theorem ISGF.mk {r t n k : Int} (h : (r = 1 ∧ t = 3 ∧ n = k) ∨ (r = 0 ∧ ¬ (t = 3 ∧ n = k))) : ISGF r t n k := h
theorem ISGF.t {r t n k : Int} (h : ISGF r t n k) (hr : r ≠ 0) : t = 3 ∧ n = k := h.elim (fun q => q.2) (fun q => absurd q.1 hr)
theorem ISGF.f {r t n k : Int} (h : ISGF r t n k) (hr : r = 0) : ¬ (t = 3 ∧ n = k) := h.elim (fun q => absurd (q.1.symm.trans hr) (by decide)) (fun q => q.2)
def LEFF (r t w : Int) : Prop := (0 ≤ r ∧ r ≤ 6 ∧ t = 1 ∧ ((r = 0 ∧ w = 8) ∨ (1 ≤ r ∧ w = 16 + r))) ∨ (r = -1 ∧ ¬ (t = 1 ∧ (w = 8 ∨ (17 ≤ w ∧ w ≤ 22))))
theorem LEFF.mk {r t w : Int} (h : (0 ≤ r ∧ r ≤ 6 ∧ t = 1 ∧ ((r = 0 ∧ w = 8) ∨ (1 ≤ r ∧ w = 16 + r))) ∨ (r = -1 ∧ ¬ (t = 1 ∧ (w = 8 ∨ (17 ≤ w ∧ w ≤ 22))))) : LEFF r t w := h
theorem LEFF.y {r t w : Int} (h : LEFF r t w) (hr : 0 ≤ r) : t = 1 ∧ ((r = 0 ∧ w = 8) ∨ (1 ≤ r ∧ w = 16 + r)) := by
  rcases h with ⟨_, _, h1, h2⟩ | ⟨h1, _⟩
  · exact ⟨h1, h2⟩
  · omega
theorem LEFF.t {r t w : Int} (h : LEFF r t w) (hr : 0 ≤ r) : t = 1 := (LEFF.y h hr).1
theorem LEFF.b {r t w : Int} (h : LEFF r t w) (hr : 0 ≤ r) : w = 8 ∨ 16 ≤ w := by
  have h2 := (LEFF.y h hr).2
  omega
theorem LEFF.w {r t w : Int} (h : LEFF r t w) (hr : 0 ≤ r) : w = 8 ∨ 17 ≤ w := by
  have h2 := (LEFF.y h hr).2
  omega
theorem LEFF.lt {r t w : Int} (h : LEFF r t w) (hr : 0 ≤ r) (h1 : r < 2) : w < 18 := by
  have h2 := (LEFF.y h hr).2
  omega
theorem LEFF.eq {r t w : Int} (h : LEFF r t w) (hr : r = 2) : w = 18 := by
  have h2 := (LEFF.y h (by omega)).2
  omega
theorem LEFF.ge {r t w : Int} (h : LEFF r t w) (hr : 3 ≤ r) : 19 ≤ w := by
  have h2 := (LEFF.y h (by omega)).2
  omega
theorem LEFF.f {r t w : Int} (h : LEFF r t w) (hr : r < 0) (ht : t = 1) : ¬ (w = 8 ∨ (17 ≤ w ∧ w ≤ 22)) := by
  rcases h with ⟨h1, _⟩ | ⟨_, h2⟩
  · omega
  · exact fun q => h2 ⟨ht, q⟩
