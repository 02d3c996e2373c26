/-! the reference's next() -/
theorem lc1 {x y : Int64} : (lg_cmp x y).toInt = 0 ↔ x.toInt = y.toInt := by
  rw [lc0]
  exact ⟨fun h => by rw [h], fun h => Int64.toInt_inj.mp h⟩
/-- a row of letters and digits, under way: sm its first is a letter, al all are alike -/
def RRM (f : Nat → Int32) (n q p sm al sp w nu : Int) : Prop :=
  0 ≤ q ∧ q + sp = p ∧ 0 ≤ sp ∧ ru f n.toNat q.toNat = ru f n.toNat p.toNat ∧
  (al = 1 → sm = 1 → nSm f q.toNat sp.toNat = sp.toNat) ∧ (al = 1 → sm = 0 → nDg f q.toNat sp.toNat = sp.toNat) ∧
  (al = 0 → sm = 1 → nSm f q.toNat sp.toNat < sp.toNat) ∧ (al = 0 → sm = 0 → nDg f q.toNat sp.toNat < sp.toNat) ∧
  (al = 1 → sm = 1 → sp ≤ 7 → w = w256 f q.toNat sp.toNat) ∧ (al = 1 → sm = 0 → sp ≤ 3 → nu = d10 f q.toNat sp.toNat)
theorem RRM.zero {f : Nat → Int32} {n q sm : Int} (h : 0 ≤ q) : RRM f n q q sm 1 0 0 0 := by
  refine ⟨h, by omega, by omega, rfl, fun _ _ => rfl, fun _ _ => rfl, fun g => absurd g (by decide), fun g => absurd g (by decide), fun _ _ _ => rfl, fun _ _ _ => rfl⟩
theorem RRM.step {f : Nat → Int32} {n q p sm al sp w nu p' al' sp' w' nu' : Int} (h : RRM f n q p sm al sp w nu) (hp : p < n)
    (hc : (97 ≤ tb f p.toNat ∧ tb f p.toNat ≤ 122) ∨ (48 ≤ tb f p.toNat ∧ tb f p.toNat ≤ 57))
    (hs : sm = 0 ∨ sm = 1)
    (ha : (al' = 1 ∧ al = 1 ∧ ((97 ≤ tb f p.toNat ∧ tb f p.toNat ≤ 122 ∧ sm = 1) ∨ (48 ≤ tb f p.toNat ∧ tb f p.toNat ≤ 57 ∧ sm = 0))) ∨ (al' = 0 ∧ (al = 0 ∨ (al = 1 ∧ ((97 ≤ tb f p.toNat ∧ tb f p.toNat ≤ 122 ∧ sm = 0) ∨ (48 ≤ tb f p.toNat ∧ tb f p.toNat ≤ 57 ∧ sm = 1))))))
    (hw : sp < 7 → 0 ≤ w → w ≤ 281474976710656 → w' = w * 256 + tb f p.toNat) (hn : sp < 3 → 0 ≤ nu → nu ≤ 1000 → nu' = nu * 10 + (tb f p.toNat - 48)) (ep : p' = p + 1) (es : sp' = sp + 1) : RRM f n q p' sm al' sp' w' nu' := by
  obtain ⟨h0, h1, h2, h3, h4, h5, h6, h7, h8, h9⟩ := h
  have cS : al' = 1 → sm = 1 → al = 1 ∧ isSm (tb f p.toNat) := by
    clear hw hn hc hs h0 h1 h2 h3 h4 h5 h6 h7 h8 h9 hp ep es
    intro a b
    rcases ha with ⟨c, d, ⟨e1, e2, e3⟩ | ⟨e1, e2, e3⟩⟩ | ⟨c, d⟩
    · exact ⟨d, e1, e2⟩
    · omega
    · exact absurd (c.symm.trans a) (by decide)
  have cD : al' = 1 → sm = 0 → al = 1 ∧ isDg (tb f p.toNat) := by
    clear hw hn hc hs h0 h1 h2 h3 h4 h5 h6 h7 h8 h9 hp ep es
    intro a b
    rcases ha with ⟨c, d, ⟨e1, e2, e3⟩ | ⟨e1, e2, e3⟩⟩ | ⟨c, d⟩
    · omega
    · exact ⟨d, e1, e2⟩
    · exact absurd (c.symm.trans a) (by decide)
  have cS0 : al' = 0 → sm = 1 → al = 0 ∨ ¬ isSm (tb f p.toNat) := by
    clear hw hn hc hs h0 h1 h2 h3 h4 h5 h6 h7 h8 h9 hp ep es
    intro a b
    rcases ha with ⟨c, d⟩ | ⟨c, d | ⟨d, ⟨e1, e2, e3⟩ | ⟨e1, e2, e3⟩⟩⟩
    · exact absurd (c.symm.trans a) (by decide)
    · exact Or.inl d
    · omega
    · exact Or.inr (fun g => by have g1 : 97 ≤ tb f p.toNat := g.1; omega)
  have cD0 : al' = 0 → sm = 0 → al = 0 ∨ ¬ isDg (tb f p.toNat) := by
    clear hw hn hc hs h0 h1 h2 h3 h4 h5 h6 h7 h8 h9 hp ep es
    intro a b
    rcases ha with ⟨c, d⟩ | ⟨c, d | ⟨d, ⟨e1, e2, e3⟩ | ⟨e1, e2, e3⟩⟩⟩
    · exact absurd (c.symm.trans a) (by decide)
    · exact Or.inl d
    · exact Or.inr (fun g => by have g1 : tb f p.toNat ≤ 57 := g.2; omega)
    · omega
  have hx := nSD (f := f) (q := q.toNat) sp.toNat
  clear ha hs
  have ek : sp'.toNat = sp.toNat + 1 := by clear hw hn hc h3 h4 h5 h6 h7 h8 h9 cS cD cS0 cD0 hx; omega
  have eq : q.toNat + sp.toNat = p.toNat := by clear hw hn hc h3 h4 h5 h6 h7 h8 h9 cS cD cS0 cD0 hx; omega
  have ep' : p'.toNat = p.toNat + 1 := by clear hw hn hc h3 h4 h5 h6 h7 h8 h9 cS cD cS0 cD0 hx; omega
  have epn : p.toNat < n.toNat := by clear hw hn hc h3 h4 h5 h6 h7 h8 h9 cS cD cS0 cD0 hx; omega
  have en : q + sp' = p' := by clear hw hn hc h3 h4 h5 h6 h7 h8 h9 cS cD cS0 cD0 hx; omega
  have es0 : 0 ≤ sp' := by clear hw hn hc h3 h4 h5 h6 h7 h8 h9 cS cD cS0 cD0 hx; omega
  refine ⟨h0, en, es0, ?_, ?_, ?_, ?_, ?_, ?_, ?_⟩
  · rw [h3, ep']
    exact ru_step epn hc
  · intro g1 g2
    have q1 := cS g1 g2
    rw [ek, nSm_y (show isSm (tb f (q.toNat + sp.toNat)) by rw [eq]; exact q1.2), h4 q1.1 g2]
  · intro g1 g2
    have q1 := cD g1 g2
    rw [ek, nDg_y (show isDg (tb f (q.toNat + sp.toNat)) by rw [eq]; exact q1.2), h5 q1.1 g2]
  · intro g1 g2
    have q1 := cS0 g1 g2
    rw [ek]
    by_cases hm : isSm (tb f (q.toNat + sp.toNat))
    · rw [nSm_y hm]
      rw [eq] at hm
      have := h6 (q1.elim id (fun z => absurd hm z)) g2
      clear hw hn hc h3 h4 h5 h6 h7 h8 h9 cS cD cS0 cD0 q1 hm
      omega
    · rw [nSm_n hm]
      clear hw hn hc h3 h4 h5 h6 h7 h8 h9 cS cD cS0 cD0 q1 hm
      omega
  · intro g1 g2
    have q1 := cD0 g1 g2
    rw [ek]
    by_cases hm : isDg (tb f (q.toNat + sp.toNat))
    · rw [nDg_y hm]
      rw [eq] at hm
      have := h7 (q1.elim id (fun z => absurd hm z)) g2
      clear hw hn hc h3 h4 h5 h6 h7 h8 h9 cS cD cS0 cD0 q1 hm
      omega
    · rw [nDg_n hm]
      clear hw hn hc h3 h4 h5 h6 h7 h8 h9 cS cD cS0 cD0 q1 hm
      omega
  · intro g1 g2 g3
    have q1 := cS g1 g2
    clear hn hc h3 h4 h5 h6 h7 h9 cS cD cS0 cD0 hx
    have hb := w256_b (f := f) (q := q.toNat) sp.toNat
    have hk := p256_6 sp.toNat (by clear hw h8 q1 hb; omega)
    have hv := h8 q1.1 g2 (by clear hw h8 q1 hb hk; omega)
    clear h8 q1
    rw [ek, hw (by clear hw hb hk hv; omega) (by clear hw; omega) (by clear hw; omega), hv]
    show _ = w256 f q.toNat sp.toNat * 256 + tb f (q.toNat + sp.toNat)
    rw [eq]
  · intro g1 g2 g3
    have q1 := cD g1 g2
    have hb := d10_b (f := f) (q := q.toNat) sp.toNat (by clear hw hn hc h3 h4 h5 h6 h7 h8 h9 cS cD cS0 cD0 hx q1; omega) (h5 q1.1 g2)
    clear hw hc h3 h4 h5 h6 h7 h8 cS cD cS0 cD0 hx
    have hk := p10_2 sp.toNat (by clear hn h9 q1 hb; omega)
    have hv := h9 q1.1 g2 (by clear hn h9 q1 hb hk; omega)
    clear h9 q1
    rw [ek, hn (by clear hn hb hk hv; omega) (by clear hn; omega) (by clear hn; omega), hv]
    show _ = d10 f q.toNat sp.toNat * 10 + (tb f (q.toNat + sp.toNat) - 48)
    rw [eq]
theorem nSm_1 {f : Nat → Int32} {q : Nat} (h : isSm (tb f q)) : ∀ k : Nat, 1 ≤ nSm f q (k + 1) := by
  intro k
  induction k with
  | zero =>
    rw [nSm_y (show isSm (tb f (q + 0)) from h)]
    omega
  | succ k ih =>
    by_cases g : isSm (tb f (q + (k + 1)))
    · rw [nSm_y g]
      omega
    · rw [nSm_n g]
      exact ih
theorem nDg_1 {f : Nat → Int32} {q : Nat} (h : isDg (tb f q)) : ∀ k : Nat, 1 ≤ nDg f q (k + 1) := by
  intro k
  induction k with
  | zero =>
    rw [nDg_y (show isDg (tb f (q + 0)) from h)]
    omega
  | succ k ih =>
    by_cases g : isDg (tb f (q + (k + 1)))
    · rw [nDg_y g]
      omega
    · rw [nDg_n g]
      exact ih
theorem RRM.fin {f : Nat → Int32} {n q p sm al sp w nu : Int} (h : RRM f n q p sm al sp w nu) (h1 : 1 ≤ sp) (he : ¬ (p < n ∧ (isSm (tb f p.toNat) ∨ isDg (tb f p.toNat))))
    (hf : (97 ≤ tb f q.toNat ∧ tb f q.toNat ≤ 122 ∧ sm = 1) ∨ (48 ≤ tb f q.toNat ∧ tb f q.toNat ≤ 57 ∧ sm = 0)) :
    (al = 1 → sm = 1 → sp ≤ 7 → tkP f n q = (1, q, 0, g27 w, p) ∧ WVd w) ∧ (al = 1 → sm = 0 → sp ≤ 3 → tkP f n q = (2, q, nu, 0, p)) ∧ ((al = 0 ∨ (sm = 1 ∧ 7 < sp) ∨ (sm = 0 ∧ 3 < sp)) → (al = 0 ∨ al = 1) → tkP f n q = (4, q, 0, 0, 0)) := by
  obtain ⟨h0, g1, g2, g3, g4, g5, g6, g7, g8, g9⟩ := h
  have e8 : ru f n.toNat p.toNat = p.toNat := ru_stop (fun g => he ⟨by have := g.1; clear g4 g5 g6 g7 g8 g9 hf he g3 g; omega, g.2⟩)
  rw [e8] at g3
  have ek : ru f n.toNat q.toNat - q.toNat = sp.toNat := by clear g4 g5 g6 g7 g8 g9 hf he; omega
  have hqe : ((q.toNat : Nat) : Int) = q := by clear g4 g5 g6 g7 g8 g9 hf he g3 e8; omega
  have hae : (q : Int) + (sp.toNat : Nat) = p := by clear g4 g5 g6 g7 g8 g9 hf he g3 e8; omega
  have hal : isSm (tb f q.toNat) ∨ isDg (tb f q.toNat) := hf.elim (fun h => Or.inl ⟨h.1, h.2.1⟩) (fun h => Or.inr ⟨h.1, h.2.1⟩)
  have hx := nSD (f := f) (q := q.toNat) sp.toNat
  have hs1 : 1 ≤ sp.toNat := by clear g4 g5 g6 g7 g8 g9 hf he g3 e8; omega
  have e1 : sp.toNat = (sp.toNat - 1) + 1 := by clear g4 g5 g6 g7 g8 g9 hf he g3 e8; omega
  have e2 : tkP f n q = tkR f q.toNat sp.toNat := by
    unfold tkP
    rw [if_pos hal, ek]
  have l7 : sp ≤ 7 → sp.toNat ≤ 7 := by clear g4 g5 g6 g7 g8 g9 hf he g3 e8; intro a; omega
  have l3 : sp ≤ 3 → sp.toNat ≤ 3 := by clear g4 g5 g6 g7 g8 g9 hf he g3 e8; intro a; omega
  have m7 : 7 < sp → ¬ sp.toNat ≤ 7 := by clear g4 g5 g6 g7 g8 g9 hf he g3 e8; intro a; omega
  have m3 : 3 < sp → ¬ sp.toNat ≤ 3 := by clear g4 g5 g6 g7 g8 g9 hf he g3 e8; intro a; omega
  rw [e2]
  clear he g3 e8 ek hal e2 g1
  refine ⟨fun a1 a2 a3 => ?_, fun a1 a2 a3 => ?_, fun a1 a2 => ?_⟩
  · have h7 := g4 a1 a2
    have h8 := g8 a1 a2 a3
    rw [tkR_w h7 (l7 a3), hqe, hae, h8]
    refine ⟨?_, VW_w (l7 a3) h7⟩
    unfold g27
    rw [g27_w sp.toNat 7 (l7 a3) (nSm_all sp.toNat h7)]
  · rw [tkR_d (g5 a1 a2) (l3 a3) hs1, hqe, hae, g9 a1 a2 a3]
  · have hn : ¬ (nSm f q.toNat sp.toNat = sp.toNat ∧ sp.toNat ≤ 7) ∧ ¬ (nDg f q.toNat sp.toNat = sp.toNat ∧ sp.toNat ≤ 3) := by
      rcases hf with ⟨b1, b2, b3⟩ | ⟨b1, b2, b3⟩
      · have c1 := nSm_1 (f := f) (q := q.toNat) ⟨b1, b2⟩ (sp.toNat - 1)
        rw [← e1] at c1
        have c2 : al = 0 ∨ 7 < sp := by
          rcases a1 with a | ⟨_, a⟩ | ⟨a, _⟩
          · exact Or.inl a
          · exact Or.inr a
          · exact absurd (a.symm.trans b3) (by decide)
        rcases c2 with c2 | c2
        · have := g6 c2 b3
          clear g4 g5 g6 g7 g8 g9 a1 a2 l7 l3 m7 m3
          omega
        · have := m7 c2
          clear g4 g5 g6 g7 g8 g9 a1 a2 l7 l3 m7 m3
          omega
      · have c1 := nDg_1 (f := f) (q := q.toNat) ⟨b1, b2⟩ (sp.toNat - 1)
        rw [← e1] at c1
        have c2 : al = 0 ∨ 3 < sp := by
          rcases a1 with a | ⟨a, _⟩ | ⟨_, a⟩
          · exact Or.inl a
          · exact absurd (a.symm.trans b3) (by decide)
          · exact Or.inr a
        rcases c2 with c2 | c2
        · have := g7 c2 b3
          clear g4 g5 g6 g7 g8 g9 a1 a2 l7 l3 m7 m3
          omega
        · have := m3 c2
          clear g4 g5 g6 g7 g8 g9 a1 a2 l7 l3 m7 m3
          omega
    rw [tkR_n hn.1 hn.2, hqe]
/-- one letter more -/
theorem wd_st {w : Int64} {c : Int32} (h0 : 0 ≤ w.toInt) (h1 : w.toInt ≤ 281474976710656) (hc : 0 ≤ c.toInt ∧ c.toInt ≤ 255) : ((w <<< ((8 : Int32).toInt64 &&& 63)) ||| c.toInt64).toInt = w.toInt * 256 + c.toInt := by
  have e8 : ((8 : Int32).toInt64 &&& 63) = (8 : Int64) := by decide
  have hw := i64n w
  have hwl := w.toBitVec.isLt
  have h2 : c.toInt64.toInt = c.toInt := Int32.toInt_toInt64 c
  have h3 := i64n c.toInt64
  have hcl := c.toInt64.toBitVec.isLt
  have hcn : c.toInt64.toBitVec.toNat = c.toInt.toNat := by omega
  have hs : (w <<< (8 : Int64)).toBitVec.toNat = w.toBitVec.toNat * 2 ^ 8 := by
    have e : (w <<< (8 : Int64)).toBitVec = w.toBitVec <<< (8 : Nat) := by
      show w.toBitVec <<< ((8 : Int64).toBitVec.smod 64) = _
      rw [show ((8 : Int64).toBitVec.smod 64) = (8#64) by decide]
      exact BitVec.shiftLeft_eq'
    rw [e, BitVec.toNat_shiftLeft, Nat.shiftLeft_eq]
    exact Nat.mod_eq_of_lt (by omega)
  have h9 : (w.toBitVec.toNat <<< 8) + c.toInt.toNat = (w.toBitVec.toNat <<< 8) ||| c.toInt.toNat := Nat.shiftLeft_add_eq_or_of_lt (by omega) _
  rw [Nat.shiftLeft_eq] at h9
  have ho : ((w <<< (8 : Int64)) ||| c.toInt64).toBitVec.toNat = w.toBitVec.toNat * 2 ^ 8 + c.toInt.toNat := by
    rw [Int64.toBitVec_or, BitVec.toNat_or, hs, hcn]
    exact h9.symm
  have h10 := i64n ((w <<< (8 : Int64)) ||| c.toInt64)
  rw [e8]
  rw [ho] at h10
  have h11 : (((w <<< (8 : Int64)) ||| c.toInt64).toBitVec.toInt) = (((w <<< (8 : Int64)) ||| c.toInt64).toBitVec.toNat : Int) := BitVec.toInt_eq_toNat_of_lt (by rw [ho]; omega)
  have h12 : ((w <<< (8 : Int64)) ||| c.toInt64).toInt = (((w <<< (8 : Int64)) ||| c.toInt64).toBitVec.toInt) := rfl
  rw [h12, h11, ho]
  omega
theorem nx_lim {f : Nat → Int32} {n lim p0 u : Int} {t a nu p : Int32} {w : Int64} (h1 : sk f n.toNat p0.toNat = sk f n.toNat u.toNat) (h2 : sk f n.toNat u.toNat = u.toNat) (h3 : 0 ≤ u) (hn : 0 ≤ n) (ht : t.toInt = 4) (ha : a.toInt = lim) (hl : lim < n) (hu : lim ≤ u) : tkM t a nu w p = tkA f n lim p0 := by
  rw [tkM_4 ht, tkA_lim hn (tkA_u (lim := lim) h1 h2 h3) hl hu, ha]
theorem nx_stop {f : Nat → Int32} {n lim p0 u : Int} {t a nu p : Int32} {w : Int64} (h1 : sk f n.toNat p0.toNat = sk f n.toNat u.toNat) (h2 : sk f n.toNat u.toNat = u.toNat) (h3 : 0 ≤ u) (hn : 0 ≤ n) (ht : t.toInt = 0) (ha : a.toInt = u) (hp : p.toInt = u) (h0 : ¬ (lim < n ∧ lim ≤ u)) (hu : n ≤ u) : tkM t a nu w p = tkA f n lim p0 := by
  rw [tkM_0 ht, tkA_stop hn (tkA_u (lim := lim) h1 h2 h3) h0 hu, ha, hp]
theorem nx_sign {f : Nat → Int32} {n lim p0 u : Int} {t a nu p : Int32} {w : Int64} (h1 : sk f n.toNat p0.toNat = sk f n.toNat u.toNat) (h2 : sk f n.toNat u.toNat = u.toNat) (h3 : 0 ≤ u) (hn : 0 ≤ n) (ht : t.toInt = 3) (hk : nu.toInt = 40 ∨ nu.toInt = 41 ∨ (59 ≤ nu.toInt ∧ nu.toInt ≤ 62)) (hb : tb f u.toNat = nu.toInt) (ha : a.toInt = u) (hp : p.toInt = u + 1) (h0 : ¬ (lim < n ∧ lim ≤ u)) (hu : u < n) : tkM t a nu w p = tkA f n lim p0 := by
  rw [tkM_3 ht, tkA_sign hn (tkA_u (lim := lim) h1 h2 h3) h0 hu (by rw [hb]; exact hk), hb, ha, hp]
theorem nx_no {f : Nat → Int32} {n lim p0 u : Int} {t a nu p : Int32} {w : Int64} (h1 : sk f n.toNat p0.toNat = sk f n.toNat u.toNat) (h2 : sk f n.toNat u.toNat = u.toNat) (h3 : 0 ≤ u) (hn : 0 ≤ n) (ht : t.toInt = 4) (ha : a.toInt = u) (h0 : ¬ (lim < n ∧ lim ≤ u)) (hu : u < n) (hs : ¬ isSg (tb f u.toNat)) (hr : ¬ (isSm (tb f u.toNat) ∨ isDg (tb f u.toNat))) : tkM t a nu w p = tkA f n lim p0 := by
  rw [tkM_4 ht, tkA_no hn (tkA_u (lim := lim) h1 h2 h3) h0 hu hs hr, ha]
theorem nx_run {f : Nat → Int32} {n lim p0 u : Int} {t a nu p : Int32} {w : Int64} (h1 : sk f n.toNat p0.toNat = sk f n.toNat u.toNat) (h2 : sk f n.toNat u.toNat = u.toNat) (h3 : 0 ≤ u) (hn : 0 ≤ n) (ha : a.toInt = u) (h0 : ¬ (lim < n ∧ lim ≤ u)) (hu : u < n) (hs : ¬ isSg (tb f u.toNat))
    (hr : (t.toInt = 1 ∧ tkP f n u = (1, u, 0, g27 w.toInt, p.toInt)) ∨ (t.toInt = 2 ∧ tkP f n u = (2, u, nu.toInt, 0, p.toInt)) ∨ (t.toInt = 4 ∧ tkP f n u = (4, u, 0, 0, 0))) : tkM t a nu w p = tkA f n lim p0 := by
  rw [tkA_P hn (tkA_u (lim := lim) h1 h2 h3) h0 hu hs]
  rcases hr with ⟨hk, e⟩ | ⟨hk, e⟩ | ⟨hk, e⟩
  · rw [tkM_1 hk, e, ha]
  · rw [tkM_2 hk, e, ha]
  · rw [tkM_4 hk, e, ha]
/-! WORDS by 256 and by 27 -/
theorem wixK_27 {w : Int} (hw : WVd w) : ∀ (l : List Int) (i : Int), (∀ a ∈ l, WVd a) → wixK l i w = wixK (l.map g27) i (g27 w) := by
  intro l
  induction l with
  | nil => intro i _; exact rfl
  | cons a l ih =>
    intro i h
    show (if a = w then i else wixK l (i + 1) w) = (if g27 a = g27 w then i else wixK (l.map g27) (i + 1) (g27 w))
    rw [ih (i + 1) (fun b hb => h b (List.mem_cons_of_mem _ hb))]
    by_cases e : a = w
    · rw [if_pos e, if_pos (by rw [e])]
    · rw [if_neg e, if_neg (fun q => e (WVd.inj (h a List.mem_cons_self) hw q))]
theorem wixK_get {w : Int} : ∀ (l : List Int) (i j : Int), wixK l i w = j → 0 ≤ i → 0 ≤ j → i ≤ j ∧ l.getD (j - i).toNat 0 = w := by
  intro l
  induction l with
  | nil =>
    intro i j h _ hj
    have h2 : (-1 : Int) = j := h
    omega
  | cons a l ih =>
    intro i j h hi hj
    have h2 : (if a = w then i else wixK l (i + 1) w) = j := h
    by_cases e : a = w
    · rw [if_pos e] at h2
      refine ⟨by omega, ?_⟩
      rw [show (j - i).toNat = 0 by omega]
      exact e
    · rw [if_neg e] at h2
      obtain ⟨h3, h4⟩ := ih (i + 1) j h2 (by omega) hj
      refine ⟨by omega, ?_⟩
      rw [show (j - i).toNat = (j - (i + 1)).toNat + 1 by omega]
      exact h4
def rw256 : List Int := rw27.map (h256K 7)
theorem rw256_v : ∀ a ∈ rw256, h256K 7 (g27 a) = a := by decide +kernel
theorem rw256_27 : rw256.map g27 = rw27 := by decide +kernel
def KRN (f : Nat → Int64) : Prop := nmG (gL f) 23 = rw256
theorem KRN.wix {f : Nat → Int64} (h : KRN f) {w : Int} (hw : WVd w) : wixK (nmG (gL f) 23) 0 w = wix (g27 w) := by
  rw [show nmG (gL f) 23 = rw256 from h, wixK_27 hw rw256 0 rw256_v, rw256_27]
  exact rfl
theorem isw {r t k a : Int} {w c : Int64} (hv : t = 1 → WVd w.toInt) (h : (r = 1 ∧ t = 1 ∧ w.toInt = c.toInt) ∨ (r = 0 ∧ ¬ (t = 1 ∧ w.toInt = c.toInt))) (hk : 0 ≤ k) (h1 : c.toInt = h256K 7 a) (h2 : g27 (h256K 7 a) = a) (h3 : wix a = k) (h4 : rw27.getD k.toNat 0 = a) : (r = 1 ∧ t = 1 ∧ wix (g27 w.toInt) = k) ∨ (r = 0 ∧ ¬ (t = 1 ∧ wix (g27 w.toInt) = k)) := by
  rcases h with ⟨e1, e2, e3⟩ | ⟨e1, e2⟩
  · refine Or.inl ⟨e1, e2, ?_⟩
    rw [e3, h1, h2, h3]
  · refine Or.inr ⟨e1, fun q => e2 ⟨q.1, ?_⟩⟩
    have e4 := (wixK_get rw27 0 k q.2 (by omega) hk).2
    rw [show (k - 0).toNat = k.toNat by omega, h4] at e4
    have e5 : h256K 7 (g27 w.toInt) = w.toInt := hv q.1
    rw [← e5, ← e4, h1]
/-- is it a NAME: so far -/
def ISN (f : Nat → Int64) (t w b k : Int) : Prop := (b = 1 ∧ t = 1 ∧ FI (gL f) w 23 k) ∨ (b = 0 ∧ ¬ (t = 1 ∧ wixK (nmG (gL f) 23) 0 w = -1))
theorem ISN.zero {f : Nat → Int64} {t w b : Int} (h : (b = 1 ∧ t = 1) ∨ (b = 0 ∧ t ≠ 1)) : ISN f t w b 0 := by
  rcases h with ⟨h1, h2⟩ | ⟨h1, h2⟩
  · exact Or.inl ⟨h1, h2, FI.zero⟩
  · exact Or.inr ⟨h1, fun q => h2 q.1⟩
theorem ISN.no {f : Nat → Int64} {t w b k k' : Int} (h : ISN f t w b k) (hb : b = 0) (b' : Int) (hb' : b' = 0) : ISN f t w b' k' := by
  rcases h with ⟨h1, _⟩ | ⟨_, h2⟩
  · omega
  · exact Or.inr ⟨hb', h2⟩
theorem ISN.hit {f : Nat → Int64} {t w b k k' b' : Int} (h : ISN f t w b k) (h0 : 0 ≤ k) (h1 : k < 23) (he : gL f k.toNat = w) (hb' : b' = 0) : ISN f t w b' k' := by
  rcases h with ⟨_, _, h2⟩ | ⟨_, h2⟩
  · have h3 := FI.hit h2 h0 h1 he
    refine Or.inr ⟨hb', fun q => ?_⟩
    have h4 : wixK (nmG (gL f) 23) 0 w = k := h3.symm
    omega
  · exact Or.inr ⟨hb', h2⟩
theorem ISN.go {f : Nat → Int64} {t w b k k' b' : Int} (h : ISN f t w b k) (h0 : 0 ≤ k) (h1 : k < 23) (hne : gL f k.toNat ≠ w) (hk : k' = k + 1) (hb : b' = b) : ISN f t w b' k' := by
  rw [hb]
  rcases h with ⟨e1, e2, h2⟩ | ⟨e1, h2⟩
  · exact Or.inl ⟨e1, e2, FI.step h2 h0 h1 hne hk⟩
  · exact Or.inr ⟨e1, h2⟩
theorem ISN.fin {f : Nat → Int64} {t w b k : Int} (h : ISN f t w b k) (hk : 23 ≤ k) (hf : KRN f) (hw : t = 1 → WVd w) : (b = 1 ∧ t = 1 ∧ wix (g27 w) = -1) ∨ (b = 0 ∧ ¬ (t = 1 ∧ wix (g27 w) = -1)) := by
  rcases h with ⟨e1, e2, h2⟩ | ⟨e1, h2⟩
  · have h3 : -1 = wixK (nmG (gL f) 23) 0 w := FI.none h2 hk
    exact Or.inl ⟨e1, e2, by rw [← hf.wix (hw e2), ← h3]⟩
  · refine Or.inr ⟨e1, fun q => h2 ⟨q.1, ?_⟩⟩
    rw [hf.wix (hw q.1)]
    exact q.2
/-! names of a row from a place on -/
def gO (f : Nat → Int64) (o i : Nat) : Int := (f (o + i)).toInt
def nmM (f : Nat → Int64) (o : Nat) (n : Int) : List Int := (nmG (gO f o) n.toNat).map g27
def AV (f : Nat → Int64) (o : Nat) (n : Int) : Prop := ∀ i : Nat, (i : Int) < n → WVd (f (o + i)).toInt
theorem find27 {f : Nat → Int64} {o : Nat} {n w r : Int} (hr : r = wixK (nmG (gO f o) n.toNat) 0 w) (hv : WVd w) (ha : AV f o n) : r = wixK (nmM f o n) 0 (g27 w) := by
  rw [hr]
  unfold nmM
  refine wixK_27 hv _ 0 (fun a h => ?_)
  obtain ⟨i, hi, e⟩ := List.mem_map.mp h
  have h2 := List.mem_range'_1.mp hi
  rw [← e]
  exact ha i (by omega)
theorem nmM_len {f : Nat → Int64} {o : Nat} {n : Int} : (nmM f o n).length = n.toNat := by
  unfold nmM
  rw [List.length_map]
  exact nmG_len
theorem nmM_ap {f g : Nat → Int64} {o : Nat} {i : Int32} {x : Int64} {n n' t : Int} (e : vp_updL f i.toNatClampNeg x = g) (hi : i.toInt = (o : Int) + n) (h0 : 0 ≤ n) (hn : n' = n + 1) (ht : t = g27 x.toInt) : nmM g o n' = nmM f o n ++ [t] := by
  unfold nmM
  rw [hn, show (n + 1).toNat = n.toNat + 1 by omega, nmG_app, List.map_append, ← e]
  have hk : i.toNatClampNeg = o + n.toNat := by rw [cl_nat, hi]; omega
  rw [hk, ht]
  congr 1
  · refine congrArg (List.map g27) (nmG_eq (fun j hj => ?_))
    show (if o + j = o + n.toNat then x else f (o + j)).toInt = (f (o + j)).toInt
    rw [if_neg (by omega)]
  · show [g27 (if o + n.toNat = o + n.toNat then x else f (o + n.toNat)).toInt] = [g27 x.toInt]
    rw [if_pos rfl]
theorem nmM_un {f g : Nat → Int64} {o : Nat} {i : Int32} {x : Int64} {n : Int} (e : vp_updL f i.toNatClampNeg x = g) (hi : i.toInt < o ∨ (o : Int) + n ≤ i.toInt) (h0 : 0 ≤ i.toInt) : nmM g o n = nmM f o n := by
  unfold nmM
  refine congrArg (List.map g27) (nmG_eq (fun j hj => ?_))
  rw [← e]
  show (if o + j = i.toNatClampNeg then x else f (o + j)).toInt = (f (o + j)).toInt
  rw [if_neg (by rw [cl_nat]; omega)]
theorem AV.ap {f g : Nat → Int64} {o : Nat} {i : Int32} {x : Int64} {n n' : Int} (h : AV f o n) (e : vp_updL f i.toNatClampNeg x = g) (hi : i.toInt = (o : Int) + n) (hn : n' = n + 1) (hx : WVd x.toInt) (h0 : 0 ≤ n) : AV g o n' := by
  intro j hj
  rw [← e]
  show WVd (if o + j = i.toNatClampNeg then x else f (o + j)).toInt
  by_cases q : o + j = i.toNatClampNeg
  · rw [if_pos q]
    exact hx
  · rw [if_neg q]
    rw [cl_nat] at q
    exact h j (by omega)
theorem AV.un {f g : Nat → Int64} {o : Nat} {i : Int32} {x : Int64} {n : Int} (h : AV f o n) (e : vp_updL f i.toNatClampNeg x = g) (hi : i.toInt < o ∨ (o : Int) + n ≤ i.toInt) (h0 : 0 ≤ i.toInt) : AV g o n := by
  intro j hj
  rw [← e]
  show WVd (if o + j = i.toNatClampNeg then x else f (o + j)).toInt
  rw [if_neg (by rw [cl_nat]; omega)]
  exact h j hj
