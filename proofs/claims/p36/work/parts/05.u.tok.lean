/-! the text as both readers see it: blanks, rows of letters and digits, TOKENS -/
def tb (f : Nat → Int32) (i : Nat) : Int := (f i &&& 255).toInt
abbrev isSm (c : Int) : Prop := 97 ≤ c ∧ c ≤ 122
abbrev isDg (c : Int) : Prop := 48 ≤ c ∧ c ≤ 57
abbrev isSg (c : Int) : Prop := c = 40 ∨ c = 41 ∨ (59 ≤ c ∧ c ≤ 62)
abbrev isBl (c : Int) : Prop := c = 32 ∨ c = 10
/-- behind the blanks -/
def skK (f : Nat → Int32) (n : Nat) : Nat → Nat → Nat
  | 0, p => p
  | k + 1, p => if p < n ∧ isBl (tb f p) then skK f n k (p + 1) else p
def sk (f : Nat → Int32) (n p : Nat) : Nat := skK f n (n - p) p
theorem sk_stop {f : Nat → Int32} {n p : Nat} (h : ¬ (p < n ∧ isBl (tb f p))) : sk f n p = p := by
  unfold sk
  cases n - p with
  | zero => rfl
  | succ k => exact if_neg h
theorem sk_step {f : Nat → Int32} {n p : Nat} (h : p < n) (hb : isBl (tb f p)) : sk f n p = sk f n (p + 1) := by
  unfold sk
  rw [show n - p = (n - (p + 1)) + 1 by omega]
  exact if_pos ⟨h, hb⟩
/-- behind a row of letters and digits -/
def ruK (f : Nat → Int32) (n : Nat) : Nat → Nat → Nat
  | 0, p => p
  | k + 1, p => if p < n ∧ (isSm (tb f p) ∨ isDg (tb f p)) then ruK f n k (p + 1) else p
def ru (f : Nat → Int32) (n p : Nat) : Nat := ruK f n (n - p) p
theorem ru_stop {f : Nat → Int32} {n p : Nat} (h : ¬ (p < n ∧ (isSm (tb f p) ∨ isDg (tb f p)))) : ru f n p = p := by
  unfold ru
  cases n - p with
  | zero => rfl
  | succ k => exact if_neg h
theorem ru_step {f : Nat → Int32} {n p : Nat} (h : p < n) (hb : isSm (tb f p) ∨ isDg (tb f p)) : ru f n p = ru f n (p + 1) := by
  unfold ru
  rw [show n - p = (n - (p + 1)) + 1 by omega]
  exact if_pos ⟨h, hb⟩
/-- letters, digits among k signs from q; what they add up to -/
def nSm (f : Nat → Int32) (q : Nat) : Nat → Nat
  | 0 => 0
  | k + 1 => nSm f q k + (if isSm (tb f (q + k)) then 1 else 0)
def nDg (f : Nat → Int32) (q : Nat) : Nat → Nat
  | 0 => 0
  | k + 1 => nDg f q k + (if isDg (tb f (q + k)) then 1 else 0)
def w27 (f : Nat → Int32) (q : Nat) : Nat → Int
  | 0 => 0
  | k + 1 => w27 f q k * 27 + (tb f (q + k) - 96)
def w256 (f : Nat → Int32) (q : Nat) : Nat → Int
  | 0 => 0
  | k + 1 => w256 f q k * 256 + tb f (q + k)
def d10 (f : Nat → Int32) (q : Nat) : Nat → Int
  | 0 => 0
  | k + 1 => d10 f q k * 10 + (tb f (q + k) - 48)
def p27 : Nat → Int
  | 0 => 1
  | k + 1 => p27 k * 27
def p256 : Nat → Int
  | 0 => 1
  | k + 1 => p256 k * 256
def p10 : Nat → Int
  | 0 => 1
  | k + 1 => p10 k * 10
theorem p27_6 : ∀ k : Nat, k < 7 → p27 k ≤ 387420489 := by decide +kernel
theorem p256_6 : ∀ k : Nat, k < 7 → p256 k ≤ 281474976710656 := by decide +kernel
theorem p10_2 : ∀ k : Nat, k < 3 → p10 k ≤ 100 := by decide +kernel
/-- a TOKEN: kind (0 none left, 1 WORD, 2 NUMBER, 3 sign, 4 none), place, number or sign, letters, where the next begins -/
abbrev Tok : Type := Int × Int × Int × Int × Int
def tkR (f : Nat → Int32) (q k : Nat) : Tok :=
  if nSm f q k = k ∧ k ≤ 7 then (1, (q : Int), 0, w27 f q k, (q : Int) + k)
  else if nDg f q k = k ∧ k ≤ 3 then (2, (q : Int), d10 f q k, 0, (q : Int) + k)
  else (4, (q : Int), 0, 0, 0)
def tkQ (f : Nat → Int32) (n : Nat) (lim : Int) (q : Nat) : Tok :=
  if lim < n ∧ lim ≤ q then (4, lim, 0, 0, 0)
  else if n ≤ q then (0, (q : Int), 0, 0, (q : Int))
  else if isSg (tb f q) then (3, (q : Int), tb f q, 0, (q : Int) + 1)
  else if isSm (tb f q) ∨ isDg (tb f q) then tkR f q (ru f n q - q)
  else (4, (q : Int), 0, 0, 0)
def tkA (f : Nat → Int32) (n lim p : Int) : Tok := tkQ f n.toNat lim (sk f n.toNat p.toNat)
theorem nSm_y {f : Nat → Int32} {q k : Nat} (h : isSm (tb f (q + k))) : nSm f q (k + 1) = nSm f q k + 1 := by
  show nSm f q k + _ = _
  rw [if_pos h]
theorem nSm_n {f : Nat → Int32} {q k : Nat} (h : ¬ isSm (tb f (q + k))) : nSm f q (k + 1) = nSm f q k := by
  show nSm f q k + _ = _
  rw [if_neg h]; exact Nat.add_zero _
theorem nDg_y {f : Nat → Int32} {q k : Nat} (h : isDg (tb f (q + k))) : nDg f q (k + 1) = nDg f q k + 1 := by
  show nDg f q k + _ = _
  rw [if_pos h]
theorem nDg_n {f : Nat → Int32} {q k : Nat} (h : ¬ isDg (tb f (q + k))) : nDg f q (k + 1) = nDg f q k := by
  show nDg f q k + _ = _
  rw [if_neg h]; exact Nat.add_zero _
theorem nSD {f : Nat → Int32} {q : Nat} : ∀ k : Nat, nSm f q k + nDg f q k ≤ k := by
  intro k
  induction k with
  | zero => exact Nat.le_refl _
  | succ k ih =>
    by_cases h : isSm (tb f (q + k))
    · rw [nSm_y h, nDg_n (fun g => by omega)]
      omega
    · rw [nSm_n h]
      by_cases g : isDg (tb f (q + k))
      · rw [nDg_y g]
        omega
      · rw [nDg_n g]
        omega
theorem nSm_all {f : Nat → Int32} {q : Nat} : ∀ k : Nat, nSm f q k = k → ∀ j : Nat, j < k → isSm (tb f (q + j)) := by
  intro k
  induction k with
  | zero => intro _ j hj; omega
  | succ k ih =>
    intro h j hj
    have h3 := nSD (f := f) (q := q) k
    by_cases g : isSm (tb f (q + k))
    · rw [nSm_y g] at h
      by_cases e : j = k
      · rw [e]; exact g
      · exact ih (by omega) j (by omega)
    · rw [nSm_n g] at h
      omega
theorem tb_nn (f : Nat → Int32) (i : Nat) : 0 ≤ tb f i ∧ tb f i ≤ 255 := and_i (f i) (m := 255) 8 (by decide)
/-- letters by 256 and by 27 -/
def g27K : Nat → Int → Int
  | 0, _ => 0
  | j + 1, x => if x = 0 then 0 else g27K j (x / 256) * 27 + (x % 256 - 96)
def h256K : Nat → Int → Int
  | 0, _ => 0
  | j + 1, y => if y = 0 then 0 else h256K j (y / 27) * 256 + (y % 27 + 96)
def g27 (x : Int) : Int := g27K 7 x
def WVd (x : Int) : Prop := h256K 7 (g27 x) = x
theorem WVd.inj {a b : Int} (ha : WVd a) (hb : WVd b) (h : g27 a = g27 b) : a = b := by
  rw [← ha, ← hb, h]
theorem w27_b {f : Nat → Int32} {q : Nat} : ∀ k : Nat, (∀ j : Nat, j < k → isSm (tb f (q + j))) → 0 ≤ w27 f q k ∧ w27 f q k < p27 k ∧ (0 < k → 0 < w27 f q k) := by
  intro k
  induction k with
  | zero => intro _; exact ⟨Int.le_refl _, (show (0 : Int) < 1 by decide), fun h => absurd h (by omega)⟩
  | succ k ih =>
    intro h
    have h1 := ih (fun j hj => h j (by omega))
    have h2 := h k (by omega)
    show 0 ≤ w27 f q k * 27 + (tb f (q + k) - 96) ∧ w27 f q k * 27 + (tb f (q + k) - 96) < p27 k * 27 ∧ _
    refine ⟨by omega, by omega, fun _ => ?_⟩
    show 0 < w27 f q k * 27 + (tb f (q + k) - 96)
    omega
theorem w256_b {f : Nat → Int32} {q : Nat} : ∀ k : Nat, 0 ≤ w256 f q k ∧ w256 f q k < p256 k := by
  intro k
  induction k with
  | zero => exact ⟨Int.le_refl _, (show (0 : Int) < 1 by decide)⟩
  | succ k ih =>
    have h2 := tb_nn f (q + k)
    show 0 ≤ w256 f q k * 256 + tb f (q + k) ∧ w256 f q k * 256 + tb f (q + k) < p256 k * 256
    omega
theorem g27_w {f : Nat → Int32} {q : Nat} : ∀ (k j : Nat), k ≤ j → (∀ i : Nat, i < k → isSm (tb f (q + i))) → g27K j (w256 f q k) = w27 f q k := by
  intro k
  induction k with
  | zero =>
    intro j _ _
    cases j with
    | zero => rfl
    | succ j => exact if_pos rfl
  | succ k ih =>
    intro j hj h
    obtain ⟨i, rfl⟩ : ∃ i, j = i + 1 := ⟨j - 1, by omega⟩
    have h1 := ih i (by omega) (fun i hi => h i (by omega))
    have h2 := h k (by omega)
    have h3 := w256_b (f := f) (q := q) k
    show (if w256 f q k * 256 + tb f (q + k) = 0 then 0 else g27K i ((w256 f q k * 256 + tb f (q + k)) / 256) * 27 + ((w256 f q k * 256 + tb f (q + k)) % 256 - 96)) = w27 f q k * 27 + (tb f (q + k) - 96)
    rw [if_neg (by omega), show (w256 f q k * 256 + tb f (q + k)) / 256 = w256 f q k by omega, show (w256 f q k * 256 + tb f (q + k)) % 256 = tb f (q + k) by omega, h1]
theorem h256_w {f : Nat → Int32} {q : Nat} : ∀ (k j : Nat), k ≤ j → (∀ i : Nat, i < k → isSm (tb f (q + i))) → h256K j (w27 f q k) = w256 f q k := by
  intro k
  induction k with
  | zero =>
    intro j _ _
    cases j with
    | zero => rfl
    | succ j => exact if_pos rfl
  | succ k ih =>
    intro j hj h
    obtain ⟨i, rfl⟩ : ∃ i, j = i + 1 := ⟨j - 1, by omega⟩
    have h1 := ih i (by omega) (fun i hi => h i (by omega))
    have h2 := h k (by omega)
    have h3 := w27_b (f := f) (q := q) k (fun i hi => h i (by omega))
    show (if w27 f q k * 27 + (tb f (q + k) - 96) = 0 then 0 else h256K i ((w27 f q k * 27 + (tb f (q + k) - 96)) / 27) * 256 + ((w27 f q k * 27 + (tb f (q + k) - 96)) % 27 + 96)) = w256 f q k * 256 + tb f (q + k)
    rw [if_neg (by omega), show (w27 f q k * 27 + (tb f (q + k) - 96)) / 27 = w27 f q k by omega, show (w27 f q k * 27 + (tb f (q + k) - 96)) % 27 = tb f (q + k) - 96 by omega, h1]
    omega
theorem VW_w {f : Nat → Int32} {q k : Nat} (hk : k ≤ 7) (h : nSm f q k = k) : WVd (w256 f q k) := by
  unfold WVd g27
  rw [g27_w k 7 hk (nSm_all k h), h256_w k 7 hk (nSm_all k h)]
/-- a TOKEN as the reference holds it, as the class holds it -/
def tkM (t a nu : Int32) (w : Int64) (p : Int32) : Tok :=
  (t.toInt, a.toInt, if t.toInt = 2 ∨ t.toInt = 3 then nu.toInt else 0, if t.toInt = 1 then g27 w.toInt else 0, if t.toInt = 4 then 0 else p.toInt)
def tkC (k a v : Int32) (nm : Int64) (p : Int32) : Tok :=
  if k.toInt = 0 then (0, a.toInt, 0, 0, p.toInt)
  else if k.toInt = 1 then (4, a.toInt, 0, 0, 0)
  else if k.toInt = 2 then (1, a.toInt, 0, nm.toInt, p.toInt)
  else if k.toInt = 3 then (2, a.toInt, v.toInt, 0, p.toInt)
  else (3, a.toInt, k.toInt, 0, p.toInt)
theorem tkA_lim {f : Nat → Int32} {n lim p q : Int} (hn : 0 ≤ n) (hq : (sk f n.toNat p.toNat : Int) = q) (h1 : lim < n) (h2 : lim ≤ q) : tkA f n lim p = (4, lim, 0, 0, 0) := by
  unfold tkA tkQ
  rw [if_pos ⟨by omega, by omega⟩]
theorem tkA_stop {f : Nat → Int32} {n lim p q : Int} (hn : 0 ≤ n) (hq : (sk f n.toNat p.toNat : Int) = q) (h0 : ¬ (lim < n ∧ lim ≤ q)) (h : n ≤ q) : tkA f n lim p = (0, q, 0, 0, q) := by
  unfold tkA tkQ
  rw [if_neg (by omega), if_pos (by omega), hq]
theorem tkA_sign {f : Nat → Int32} {n lim p q : Int} (hn : 0 ≤ n) (hq : (sk f n.toNat p.toNat : Int) = q) (h0 : ¬ (lim < n ∧ lim ≤ q)) (h : q < n) (hs : isSg (tb f q.toNat)) : tkA f n lim p = (3, q, tb f q.toNat, 0, q + 1) := by
  have e : sk f n.toNat p.toNat = q.toNat := by omega
  unfold tkA tkQ
  rw [if_neg (by omega), if_neg (by omega), e, if_pos hs, Int.toNat_of_nonneg (by omega)]
theorem tkA_no {f : Nat → Int32} {n lim p q : Int} (hn : 0 ≤ n) (hq : (sk f n.toNat p.toNat : Int) = q) (h0 : ¬ (lim < n ∧ lim ≤ q)) (h : q < n) (hs : ¬ isSg (tb f q.toNat)) (ha : ¬ (isSm (tb f q.toNat) ∨ isDg (tb f q.toNat))) : tkA f n lim p = (4, q, 0, 0, 0) := by
  have e : sk f n.toNat p.toNat = q.toNat := by omega
  unfold tkA tkQ
  rw [if_neg (by omega), if_neg (by omega), e, if_neg hs, if_neg ha, Int.toNat_of_nonneg (by omega)]
theorem tkA_run {f : Nat → Int32} {n lim p q : Int} {k : Nat} (hn : 0 ≤ n) (hq : (sk f n.toNat p.toNat : Int) = q) (h0 : ¬ (lim < n ∧ lim ≤ q)) (h : q < n) (ha : isSm (tb f q.toNat) ∨ isDg (tb f q.toNat)) (he : ru f n.toNat q.toNat = q.toNat + k) : tkA f n lim p = tkR f q.toNat k := by
  have e : sk f n.toNat p.toNat = q.toNat := by omega
  unfold tkA tkQ
  rw [if_neg (by omega), if_neg (by omega), e, if_neg (by omega), if_pos ha, he, Nat.add_sub_cancel_left]
theorem tkR_w {f : Nat → Int32} {q k : Nat} (h : nSm f q k = k) (hk : k ≤ 7) : tkR f q k = (1, (q : Int), 0, w27 f q k, (q : Int) + k) := if_pos ⟨h, hk⟩
theorem tkR_d {f : Nat → Int32} {q k : Nat} (h : nDg f q k = k) (hk : k ≤ 3) (h1 : 1 ≤ k) : tkR f q k = (2, (q : Int), d10 f q k, 0, (q : Int) + k) := by
  have h2 := nSD (f := f) (q := q) k
  unfold tkR
  rw [if_neg (by omega), if_pos ⟨h, hk⟩]
theorem tkR_n {f : Nat → Int32} {q k : Nat} (h1 : ¬ (nSm f q k = k ∧ k ≤ 7)) (h2 : ¬ (nDg f q k = k ∧ k ≤ 3)) : tkR f q k = (4, (q : Int), 0, 0, 0) := by
  unfold tkR
  rw [if_neg h1, if_neg h2]
theorem tkM_0 {t a nu p : Int32} {w : Int64} (h : t.toInt = 0) : tkM t a nu w p = (0, a.toInt, 0, 0, p.toInt) := by
  unfold tkM
  rw [if_neg (by omega), if_neg (by omega), if_neg (by omega), h]
theorem tkM_1 {t a nu p : Int32} {w : Int64} (h : t.toInt = 1) : tkM t a nu w p = (1, a.toInt, 0, g27 w.toInt, p.toInt) := by
  unfold tkM
  rw [if_neg (by omega), if_pos h, if_neg (by omega), h]
theorem tkM_2 {t a nu p : Int32} {w : Int64} (h : t.toInt = 2) : tkM t a nu w p = (2, a.toInt, nu.toInt, 0, p.toInt) := by
  unfold tkM
  rw [if_pos (Or.inl h), if_neg (by omega), if_neg (by omega), h]
theorem tkM_3 {t a nu p : Int32} {w : Int64} (h : t.toInt = 3) : tkM t a nu w p = (3, a.toInt, nu.toInt, 0, p.toInt) := by
  unfold tkM
  rw [if_pos (Or.inr h), if_neg (by omega), if_neg (by omega), h]
theorem tkM_4 {t a nu p : Int32} {w : Int64} (h : t.toInt = 4) : tkM t a nu w p = (4, a.toInt, 0, 0, 0) := by
  unfold tkM
  rw [if_neg (by omega), if_neg (by omega), if_pos h, h]
theorem tkC_0 {k a v p : Int32} {nm : Int64} (h : k.toInt = 0) : tkC k a v nm p = (0, a.toInt, 0, 0, p.toInt) := if_pos h
theorem tkC_1 {k a v p : Int32} {nm : Int64} (h : k.toInt = 1) : tkC k a v nm p = (4, a.toInt, 0, 0, 0) := by
  unfold tkC
  rw [if_neg (by omega), if_pos h]
theorem tkC_2 {k a v p : Int32} {nm : Int64} (h : k.toInt = 2) : tkC k a v nm p = (1, a.toInt, 0, nm.toInt, p.toInt) := by
  unfold tkC
  rw [if_neg (by omega), if_neg (by omega), if_pos h]
theorem tkC_3 {k a v p : Int32} {nm : Int64} (h : k.toInt = 3) : tkC k a v nm p = (2, a.toInt, v.toInt, 0, p.toInt) := by
  unfold tkC
  rw [if_neg (by omega), if_neg (by omega), if_neg (by omega), if_pos h]
theorem tkC_s {k a v p : Int32} {nm : Int64} (h0 : k.toInt ≠ 0) (h1 : k.toInt ≠ 1) (h2 : k.toInt ≠ 2) (h3 : k.toInt ≠ 3) : tkC k a v nm p = (3, a.toInt, k.toInt, 0, p.toInt) := by
  unfold tkC
  rw [if_neg h0, if_neg h1, if_neg h2, if_neg h3]
/-- the class's reading of a row of letters and digits, under way -/
def RRI (f : Nat → Int32) (n q a l d v nm : Int) : Prop :=
  0 ≤ q ∧ q ≤ a ∧ ru f n.toNat q.toNat = ru f n.toNat a.toNat ∧ l = nSm f q.toNat (a - q).toNat ∧ d = nDg f q.toNat (a - q).toNat ∧ l + d = a - q ∧
  (d = 0 → a - q ≤ 7 → nm = w27 f q.toNat (a - q).toNat) ∧ (l = 0 → a - q ≤ 3 → v = d10 f q.toNat (a - q).toNat)
theorem RRI.zero {f : Nat → Int32} {n q : Int} (h : 0 ≤ q) : RRI f n q q 0 0 0 0 := by
  have e : (q - q).toNat = 0 := by omega
  refine ⟨h, Int.le_refl _, rfl, ?_, ?_, by omega, ?_, ?_⟩ <;> rw [e]
  · rfl
  · rfl
  · exact fun _ _ => rfl
  · exact fun _ _ => rfl
theorem d10_b {f : Nat → Int32} {q : Nat} : ∀ k : Nat, k ≤ 3 → nDg f q k = k → 0 ≤ d10 f q k ∧ d10 f q k < p10 k := by
  intro k
  induction k with
  | zero => intro _ _; exact ⟨Int.le_refl _, (show (0 : Int) < 1 by decide)⟩
  | succ k ih =>
    intro hk h
    have h3 := nSD (f := f) (q := q) k
    have h2 : isDg (tb f (q + k)) := by
      by_cases g : isDg (tb f (q + k))
      · exact g
      · rw [nDg_n g] at h
        omega
    rw [nDg_y h2] at h
    have h1 := ih (by omega) (by omega)
    show 0 ≤ d10 f q k * 10 + (tb f (q + k) - 48) ∧ d10 f q k * 10 + (tb f (q + k) - 48) < p10 k * 10
    omega
theorem RRI.sm {f : Nat → Int32} {n q a l d v nm a' l' nm' : Int} (h : RRI f n q a l d v nm) (hn : a < n) (hc : isSm (tb f a.toNat)) (ea : a' = a + 1) (el : l' = l + 1)
    (en : 0 ≤ nm → nm ≤ 1000000000 → nm' = nm * 27 + (tb f a.toNat - 96)) : RRI f n q a' l' d v nm' := by
  obtain ⟨h0, h1, h2, h3, h4, h5, h6, h7⟩ := h
  have ek : (a' - q).toNat = (a - q).toNat + 1 := by omega
  have eq : q.toNat + (a - q).toNat = a.toNat := by omega
  have hc' : isSm (tb f (q.toNat + (a - q).toNat)) := by rw [eq]; exact hc
  refine ⟨h0, by omega, ?_, ?_, ?_, by omega, ?_, ?_⟩
  · rw [h2, show a'.toNat = a.toNat + 1 by omega]
    exact ru_step (by omega) (Or.inl hc)
  · rw [ek, nSm_y hc']
    omega
  · rw [ek, nDg_n (fun g => by omega)]
    exact h4
  · intro hd hk
    have hx := h6 hd (by omega)
    have hall := nSm_all (f := f) (q := q.toNat) (a - q).toNat (by omega)
    have hb := w27_b (f := f) (q := q.toNat) (a - q).toNat hall
    have hp := p27_6 (a - q).toNat (by omega)
    rw [ek, en (by omega) (by omega), hx]
    show _ = w27 f q.toNat (a - q).toNat * 27 + (tb f (q.toNat + (a - q).toNat) - 96)
    rw [eq]
  · intro hl
    have h8 := nSD (f := f) (q := q.toNat) (a - q).toNat
    omega
theorem RRI.dg {f : Nat → Int32} {n q a l d v nm a' d' v' : Int} (h : RRI f n q a l d v nm) (hn : a < n) (hc : isDg (tb f a.toNat)) (ea : a' = a + 1) (ed : d' = d + 1)
    (ev : 0 ≤ v → v ≤ 1000 → v' = v * 10 + (tb f a.toNat - 48)) : RRI f n q a' l d' v' nm := by
  obtain ⟨h0, h1, h2, h3, h4, h5, h6, h7⟩ := h
  have ek : (a' - q).toNat = (a - q).toNat + 1 := by omega
  have eq : q.toNat + (a - q).toNat = a.toNat := by omega
  have hc' : isDg (tb f (q.toNat + (a - q).toNat)) := by rw [eq]; exact hc
  refine ⟨h0, by omega, ?_, ?_, ?_, by omega, ?_, ?_⟩
  · rw [h2, show a'.toNat = a.toNat + 1 by omega]
    exact ru_step (by omega) (Or.inr hc)
  · rw [ek, nSm_n (fun g => by omega)]
    exact h3
  · rw [ek, nDg_y hc']
    omega
  · intro hd
    omega
  · intro hl hk
    have hx := h7 hl (by omega)
    have hb := d10_b (f := f) (q := q.toNat) (a - q).toNat (by omega) (by omega)
    have hp := p10_2 (a - q).toNat (by omega)
    rw [ek, ev (by omega) (by omega), hx]
    show _ = d10 f q.toNat (a - q).toNat * 10 + (tb f (q.toNat + (a - q).toNat) - 48)
    rw [eq]
/-- what stands at q, no sign there -/
def tkP (f : Nat → Int32) (n q : Int) : Tok := if isSm (tb f q.toNat) ∨ isDg (tb f q.toNat) then tkR f q.toNat (ru f n.toNat q.toNat - q.toNat) else (4, q, 0, 0, 0)
theorem RRI.fin {f : Nat → Int32} {n q a l d v nm : Int} (h : RRI f n q a l d v nm) (hq : q < n) (he : ¬ (a < n ∧ (isSm (tb f a.toNat) ∨ isDg (tb f a.toNat)))) :
    (d = 0 → 0 < l → l ≤ 7 → tkP f n q = (1, q, 0, nm, a)) ∧ (l = 0 → 0 < d → d ≤ 3 → tkP f n q = (2, q, v, 0, a)) ∧ (¬ (d = 0 ∧ 0 < l ∧ l ≤ 7) → ¬ (l = 0 ∧ 0 < d ∧ d ≤ 3) → tkP f n q = (4, q, 0, 0, 0)) := by
  obtain ⟨h0, h1, h2, h3, h4, h5, h6, h7⟩ := h
  have h8 : ru f n.toNat a.toNat = a.toNat := ru_stop (fun g => he ⟨by omega, g.2⟩)
  rw [h8] at h2
  have ek : ru f n.toNat q.toNat - q.toNat = (a - q).toNat := by omega
  have hqe : ((q.toNat : Nat) : Int) = q := by omega
  have hae : (q : Int) + ((a - q).toNat : Nat) = a := by omega
  have hal : l + d ≠ 0 → isSm (tb f q.toNat) ∨ isDg (tb f q.toNat) := by
    intro g
    by_cases hg : isSm (tb f q.toNat) ∨ isDg (tb f q.toNat)
    · exact hg
    · have h9 : ru f n.toNat q.toNat = q.toNat := ru_stop (fun g2 => hg g2.2)
      omega
  refine ⟨fun g1 g2 g3 => ?_, fun g1 g2 g3 => ?_, fun g1 g2 => ?_⟩
  · unfold tkP
    rw [if_pos (hal (by omega)), ek, tkR_w (by omega) (by omega), hqe, hae, h6 g1 (by omega)]
  · unfold tkP
    rw [if_pos (hal (by omega)), ek, tkR_d (by omega) (by omega) (by omega), hqe, hae, h7 g1 (by omega)]
  · unfold tkP
    by_cases g : isSm (tb f q.toNat) ∨ isDg (tb f q.toNat)
    · have h9 : ru f n.toNat q.toNat = ru f n.toNat (q.toNat + 1) := ru_step (by omega) g
      have h10 : q ≠ a := by
        intro e
        rw [← e] at he
        exact he ⟨hq, g⟩
      rw [if_pos g, ek, tkR_n (by omega) (by omega), hqe]
    · rw [if_neg g]
