/-! bytes as they are read; the class's advance() -/
theorem i32n (v : Int32) : v.toInt = (v.toBitVec.toNat : Int) ∨ v.toInt = (v.toBitVec.toNat : Int) - 4294967296 := by
  have e : v.toInt = v.toBitVec.toInt := rfl
  have h := BitVec.toInt_eq_toNat_cond v.toBitVec
  split at h <;> omega
theorem i64n (v : Int64) : v.toInt = (v.toBitVec.toNat : Int) ∨ v.toInt = (v.toBitVec.toNat : Int) - 18446744073709551616 := by
  have e : v.toInt = v.toBitVec.toInt := rfl
  have h := BitVec.toInt_eq_toNat_cond v.toBitVec
  split at h <;> omega
theorem and255 (v : Int32) : (v &&& 255).toInt = v.toInt % 256 := by
  have h1 : (v &&& 255).toBitVec.toNat = v.toBitVec.toNat % 256 := by
    rw [Int32.toBitVec_and, BitVec.toNat_and]
    exact Nat.and_two_pow_sub_one_eq_mod _ 8
  have h2 := i32n (v &&& 255)
  have h3 := i32n v
  have h4 := (and_i v (m := 255) 8 (by decide)).1
  omega
theorem tb_of {f : Nat → Int32} {i v : Int32} (e : v = f i.toNatClampNeg) (h : -128 ≤ v.toInt ∧ v.toInt ≤ 127) : (0 ≤ v.toInt ∧ tb f i.toInt.toNat = v.toInt) ∨ (v.toInt < 0 ∧ tb f i.toInt.toNat = v.toInt + 256) := by
  have h1 : tb f i.toInt.toNat = v.toInt % 256 := by
    rw [e]
    exact and255 _
  omega
theorem lc0 {x y : Int64} : (lg_cmp x y).toInt = 0 ↔ x = y := by
  unfold lg_cmp
  by_cases h1 : x > y
  · rw [if_pos h1]
    refine ⟨fun h => absurd h (by decide), fun h => ?_⟩
    rw [h] at h1
    exact absurd h1 (Int64.lt_irrefl)
  · rw [if_neg h1]
    by_cases h2 : x = y
    · rw [if_pos h2]
      exact ⟨fun _ => h2, fun _ => by decide⟩
    · rw [if_neg h2]
      exact ⟨fun h => absurd h (by decide), fun h => absurd h h2⟩
theorem nar_b (x : Int32) : -128 ≤ (vp_nar .byte x).toInt ∧ (vp_nar .byte x).toInt ≤ 127 := by
  rw [vp_nar_byte, Int8.toInt_toInt32]
  have h1 := Int8.le_toInt x.toInt8
  have h2 := Int8.toInt_lt x.toInt8
  exact ⟨by omega, by omega⟩
theorem SG.upB {a b : Nat} {f : Nat → Int32} (h : SG a b (-128) 127 f) {k : Nat} {x : Int32} : SG a b (-128) 127 (upd f k (vp_nar .byte x)) := h.upN (Or.inr (Or.inr (nar_b x)))
/-- one letter more, one digit more -/
theorem nm_st {nm : Int64} {v : Int32} (h0 : 0 ≤ nm.toInt) (h1 : nm.toInt ≤ 1000000000) (hv : 0 ≤ v.toInt ∧ v.toInt ≤ 127) : (nm * 27 + v.toInt64 - 97 + 1).toInt = nm.toInt * 27 + (v.toInt - 96) := by
  have e27 : (27 : Int64).toInt = 27 := by decide
  have e97 : (97 : Int64).toInt = 97 := by decide
  have e1 : (1 : Int64).toInt = 1 := by decide
  have a1 : (nm * 27).toInt = nm.toInt * 27 := by
    rw [Int64.toInt_mul, e27]
    exact Int.bmod_eq_of_le (by omega) (by omega)
  have a2 : (nm * 27 + v.toInt64).toInt = nm.toInt * 27 + v.toInt := by
    rw [Int64.toInt_add, a1, Int32.toInt_toInt64]
    exact Int.bmod_eq_of_le (by omega) (by omega)
  have a3 : (nm * 27 + v.toInt64 - 97).toInt = nm.toInt * 27 + v.toInt - 97 := by
    rw [Int64.toInt_sub, a2, e97]
    exact Int.bmod_eq_of_le (by omega) (by omega)
  rw [Int64.toInt_add, a3, e1, Int.bmod_eq_of_le (by omega) (by omega)]
  omega
theorem vl_st {val v : Int32} (h0 : 0 ≤ val.toInt) (h1 : val.toInt ≤ 1000) (hv : 0 ≤ v.toInt ∧ v.toInt ≤ 127) : (val * 10 + v - 48).toInt = val.toInt * 10 + (v.toInt - 48) := by
  have e10 : (10 : Int32).toInt = 10 := by decide
  have e48 : (48 : Int32).toInt = 48 := by decide
  have a1 : (val * 10).toInt = val.toInt * 10 := mul_i (a := val.toInt) (b := 10) rfl e10 (by omega) (by omega)
  have a2 : (val * 10 + v).toInt = val.toInt * 10 + v.toInt := add_i a1 rfl (by omega) (by omega)
  rw [sub_i a2 (b := 48) e48 (by omega) (by omega)]
  omega
/-- what stands behind the blanks at u -/
theorem tkA_u {f : Nat → Int32} {n lim p0 u : Int} (h1 : sk f n.toNat p0.toNat = sk f n.toNat u.toNat) (h2 : sk f n.toNat u.toNat = u.toNat) (h3 : 0 ≤ u) : (sk f n.toNat p0.toNat : Int) = u := by
  rw [h1, h2]
  omega
theorem adv_lim {f : Nat → Int32} {n lim p0 u : Int} {k a v p : Int32} {nm : Int64} (h1 : sk f n.toNat p0.toNat = sk f n.toNat u.toNat) (h2 : sk f n.toNat u.toNat = u.toNat) (h3 : 0 ≤ u) (hn : 0 ≤ n) (hk : k.toInt = 1) (ha : a.toInt = lim) (hl : lim < n) (hu : lim ≤ u) : tkC k a v nm p = tkA f n lim p0 := by
  rw [tkC_1 hk, tkA_lim hn (tkA_u (lim := lim) h1 h2 h3) hl hu, ha]
theorem adv_stop {f : Nat → Int32} {n lim p0 u : Int} {k a v p : Int32} {nm : Int64} (h1 : sk f n.toNat p0.toNat = sk f n.toNat u.toNat) (h2 : sk f n.toNat u.toNat = u.toNat) (h3 : 0 ≤ u) (hn : 0 ≤ n) (hk : k.toInt = 0) (ha : a.toInt = u) (hp : p.toInt = u) (h0 : ¬ (lim < n ∧ lim ≤ u)) (hu : n ≤ u) : tkC k a v nm p = tkA f n lim p0 := by
  rw [tkC_0 hk, tkA_stop hn (tkA_u (lim := lim) h1 h2 h3) h0 hu, ha, hp]
theorem adv_sign {f : Nat → Int32} {n lim p0 u : Int} {k a v p : Int32} {nm : Int64} (h1 : sk f n.toNat p0.toNat = sk f n.toNat u.toNat) (h2 : sk f n.toNat u.toNat = u.toNat) (h3 : 0 ≤ u) (hn : 0 ≤ n) (hk : k.toInt = 40 ∨ k.toInt = 41 ∨ (59 ≤ k.toInt ∧ k.toInt ≤ 62)) (ht : tb f u.toNat = k.toInt) (ha : a.toInt = u) (hp : p.toInt = u + 1) (h0 : ¬ (lim < n ∧ lim ≤ u)) (hu : u < n) : tkC k a v nm p = tkA f n lim p0 := by
  rw [tkC_s (by omega) (by omega) (by omega) (by omega), tkA_sign hn (tkA_u (lim := lim) h1 h2 h3) h0 hu (by rw [ht]; exact hk), ht, ha, hp]
theorem tkA_P {f : Nat → Int32} {n lim p q : Int} (hn : 0 ≤ n) (hq : (sk f n.toNat p.toNat : Int) = q) (h0 : ¬ (lim < n ∧ lim ≤ q)) (h : q < n) (hs : ¬ isSg (tb f q.toNat)) : tkA f n lim p = tkP f n q := by
  have e : sk f n.toNat p.toNat = q.toNat := by omega
  unfold tkA tkQ tkP
  rw [if_neg (by omega), if_neg (by omega), e, if_neg hs, Int.toNat_of_nonneg (by omega)]
theorem adv_row {f : Nat → Int32} {n lim p0 u : Int} {k a v v' p : Int32} {nm : Int64} (h1 : sk f n.toNat p0.toNat = sk f n.toNat u.toNat) (h2 : sk f n.toNat u.toNat = u.toNat) (h3 : 0 ≤ u) (hn : 0 ≤ n) (ha : a.toInt = u) (h0 : ¬ (lim < n ∧ lim ≤ u)) (hu : u < n) (hs : ¬ isSg (tb f u.toNat))
    (hr : (k.toInt = 2 ∧ tkP f n u = (1, u, 0, nm.toInt, p.toInt)) ∨ (k.toInt = 3 ∧ tkP f n u = (2, u, v.toInt, 0, p.toInt)) ∨ (k.toInt = 1 ∧ tkP f n u = (4, u, 0, 0, 0))) (hv : k.toInt = 2 ∨ v' = v) : tkC k a v' nm p = tkA f n lim p0 := by
  rw [tkA_P hn (tkA_u (lim := lim) h1 h2 h3) h0 hu hs]
  rcases hr with ⟨hk, e⟩ | ⟨hk, e⟩ | ⟨hk, e⟩
  · rw [tkC_2 hk, e, ha]
  · rw [tkC_3 hk, e, ha, hv.resolve_left (by omega)]
  · rw [tkC_1 hk, e, ha]
/-! what is taken of TOKENS -/
abbrev Flt : Type := Int × Int
def bnd {β γ : Type} (x : Sum Flt β) (k : β → Sum Flt γ) : Sum Flt γ :=
  match x with
  | .inl e => .inl e
  | .inr b => k b
theorem bnd_l {β γ : Type} {x : Sum Flt β} {e : Flt} {k : β → Sum Flt γ} (h : x = .inl e) : bnd x k = .inl e := by rw [h]; exact rfl
theorem bnd_r {β γ : Type} {x : Sum Flt β} {b : β} {k : β → Sum Flt γ} (h : x = .inr b) : bnd x k = k b := by rw [h]; exact rfl
/-- a NUMBER between lo and hi, then the next TOKEN -/
def num (T : Int → Tok) (t : Tok) (lo hi : Int) : Sum Flt Tok :=
  if t.1 = 2 then (if lo ≤ t.2.2.1 ∧ t.2.2.1 ≤ hi then .inr (T t.2.2.2.2) else .inl (2, t.2.1)) else .inl (1, t.2.1)
def sgn (T : Int → Tok) (t : Tok) (c : Int) : Sum Flt Tok :=
  if t.1 = 3 ∧ t.2.2.1 = c then .inr (T t.2.2.2.2) else .inl (1, t.2.1)
/-- a NAME that nobody has yet -/
def nam (T : Int → Tok) (t : Tok) (ms rs : List Int) : Sum Flt Tok :=
  if t.1 = 1 ∧ wix t.2.2.2.1 = -1 then (if wixK ms 0 t.2.2.2.1 ≠ -1 ∨ wixK rs 0 t.2.2.2.1 ≠ -1 then .inl (3, t.2.1) else .inr (T t.2.2.2.2)) else .inl (1, t.2.1)
theorem tkC_pl {k a v p : Int32} {nm : Int64} : (tkC k a v nm p).2.1 = a.toInt := by
  unfold tkC
  split
  · rfl
  · split
    · rfl
    · split
      · rfl
      · split <;> rfl
theorem num_1 {T : Int → Tok} {k a v p : Int32} {nm : Int64} {lo hi : Int} {t : Tok} (hk : k.toInt = 3) (hl : lo ≤ v.toInt ∧ v.toInt ≤ hi) (ht : t = T p.toInt) : num T (tkC k a v nm p) lo hi = .inr t := by
  rw [tkC_3 hk, ht]
  unfold num
  rw [if_pos rfl, if_pos hl]
theorem num_0 {T : Int → Tok} {k a v p fk fp : Int32} {nm : Int64} {lo hi : Int} (h : (k.toInt ≠ 3 ∧ fk.toInt = 1 ∧ fp.toInt = a.toInt) ∨ (k.toInt = 3 ∧ (v.toInt < lo ∨ hi < v.toInt) ∧ fk.toInt = 2 ∧ fp.toInt = a.toInt)) : num T (tkC k a v nm p) lo hi = .inl (fk.toInt, fp.toInt) := by
  rcases h with ⟨hk, h1, h2⟩ | ⟨hk, hv, h1, h2⟩
  · have h3 : (tkC k a v nm p).1 ≠ 2 := by
      unfold tkC
      split
      · exact (show (0 : Int) ≠ 2 by decide)
      · split
        · exact (show (4 : Int) ≠ 2 by decide)
        · split
          · exact (show (1 : Int) ≠ 2 by decide)
          · first
              | exact (show (3 : Int) ≠ 2 by decide)
              | (split
                 · omega
                 · exact (show (3 : Int) ≠ 2 by decide))
    unfold num
    rw [if_neg h3, tkC_pl, h1, h2]
  · rw [tkC_3 hk]
    unfold num
    rw [if_pos rfl, if_neg (fun q => by have q1 : lo ≤ v.toInt := q.1; have q2 : v.toInt ≤ hi := q.2; omega), h1, h2]
theorem sgn_1 {T : Int → Tok} {k a v p : Int32} {nm : Int64} {c : Int} {t : Tok} (hk : k.toInt = c) (hc : 4 ≤ c) (ht : t = T p.toInt) : sgn T (tkC k a v nm p) c = .inr t := by
  rw [tkC_s (by omega) (by omega) (by omega) (by omega), ht]
  unfold sgn
  rw [if_pos ⟨rfl, hk⟩]
theorem sgn_0 {T : Int → Tok} {k a v p fk fp : Int32} {nm : Int64} {c : Int} (hk : k.toInt ≠ c) (h1 : fk.toInt = 1) (h2 : fp.toInt = a.toInt) : sgn T (tkC k a v nm p) c = .inl (fk.toInt, fp.toInt) := by
  have h3 : ¬ ((tkC k a v nm p).1 = 3 ∧ (tkC k a v nm p).2.2.1 = c) := by
    unfold tkC
    split
    · exact fun h => absurd (show (0 : Int) = 3 from h.1) (by decide)
    · split
      · exact fun h => absurd (show (4 : Int) = 3 from h.1) (by decide)
      · split
        · exact fun h => absurd (show (1 : Int) = 3 from h.1) (by decide)
        · split
          · exact fun h => absurd (show (2 : Int) = 3 from h.1) (by decide)
          · exact fun h => hk h.2
  unfold sgn
  rw [if_neg h3, tkC_pl, h1, h2]
theorem nam_1 {T : Int → Tok} {k a v p : Int32} {nm : Int64} {ms rs : List Int} {t : Tok} (hk : k.toInt = 2) (hv : v.toInt = -1) (hw : k.toInt = 2 → v.toInt = wix nm.toInt) (h1 : wixK ms 0 nm.toInt = -1) (h2 : wixK rs 0 nm.toInt = -1) (ht : t = T p.toInt) : nam T (tkC k a v nm p) ms rs = .inr t := by
  have hx := hw hk
  rw [tkC_2 hk, ht]
  unfold nam
  rw [if_pos ⟨rfl, by rw [← hx, hv]⟩, if_neg (by rw [h1, h2]; exact fun h => h.elim (fun q => q rfl) (fun q => q rfl))]
theorem nam_0 {T : Int → Tok} {k a v p fk fp : Int32} {nm : Int64} {ms rs : List Int} (hw : k.toInt = 2 → v.toInt = wix nm.toInt) (h : (¬ (k.toInt = 2 ∧ v.toInt = -1) ∧ fk.toInt = 1 ∧ fp.toInt = a.toInt) ∨ (k.toInt = 2 ∧ v.toInt = -1 ∧ (wixK ms 0 nm.toInt ≠ -1 ∨ wixK rs 0 nm.toInt ≠ -1) ∧ fk.toInt = 3 ∧ fp.toInt = a.toInt)) : nam T (tkC k a v nm p) ms rs = .inl (fk.toInt, fp.toInt) := by
  rcases h with ⟨hk, h1, h2⟩ | ⟨hk, hv, hm, h1, h2⟩
  · by_cases hk2 : k.toInt = 2
    · have hx := hw hk2
      rw [tkC_2 hk2]
      unfold nam
      rw [if_neg (fun q => hk ⟨hk2, by rw [hx]; exact q.2⟩), h1, h2]
    · have h3 : (tkC k a v nm p).1 ≠ 1 := by
        unfold tkC
        split
        · exact (show (0 : Int) ≠ 1 by decide)
        · split
          · exact (show (4 : Int) ≠ 1 by decide)
          · split
            · exact (show (2 : Int) ≠ 1 by decide)
            · exact (show (3 : Int) ≠ 1 by decide)
      unfold nam
      rw [if_neg (fun q => h3 q.1), tkC_pl, h1, h2]
  · have hx := hw hk
    rw [tkC_2 hk]
    unfold nam
    rw [if_pos ⟨rfl, by rw [← hx, hv]⟩, if_pos hm, h1, h2]
