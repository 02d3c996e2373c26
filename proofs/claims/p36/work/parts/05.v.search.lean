/-! what is sought in a row of numbers: its place, -1 if it isn't there -/
def wixK : List Int → Int → Int → Int
  | [], _, _ => -1
  | a :: l, i, w => if a = w then i else wixK l (i + 1) w
def fnd (g : Nat → Int) (w : Int) : Nat → Nat → Int
  | 0, _ => -1
  | k + 1, i => if g i = w then (i : Int) else fnd g w k (i + 1)
theorem fnd_l {g : Nat → Int} {w : Int} : ∀ k i : Nat, fnd g w k i = wixK ((List.range' i k).map g) (i : Int) w := by
  intro k
  induction k with
  | zero => intro i; rfl
  | succ k ih =>
    intro i
    rw [List.range'_succ, List.map_cons]
    show (if g i = w then (i : Int) else fnd g w k (i + 1)) = (if g i = w then (i : Int) else wixK ((List.range' (i + 1) k).map g) ((i + 1 : Nat) : Int) w)
    rw [ih (i + 1)]
/-- the first n of a row, by what they come to -/
def nmG (g : Nat → Int) (n : Nat) : List Int := (List.range' 0 n).map g
theorem fnd_g {g : Nat → Int} {w : Int} {n : Nat} : fnd g w n 0 = wixK (nmG g n) 0 w := fnd_l n 0
theorem nmG_len {g : Nat → Int} {n : Nat} : (nmG g n).length = n := by
  unfold nmG
  rw [List.length_map, List.length_range']
theorem nmG_eq {g h : Nat → Int} {n : Nat} (e : ∀ i : Nat, i < n → g i = h i) : nmG g n = nmG h n := by
  unfold nmG
  refine List.map_congr_left (fun i hi => e i ?_)
  have := List.mem_range'_1.mp hi
  omega
theorem nmG_app {g : Nat → Int} {n : Nat} : nmG g (n + 1) = nmG g n ++ [g n] := by
  unfold nmG
  rw [List.range'_1_concat, List.map_append, List.map_cons, List.map_nil, Nat.zero_add]
/-- under way: the first i are others -/
def FI (g : Nat → Int) (w : Int) (n i : Int) : Prop := fnd g w n.toNat 0 = fnd g w (n - i).toNat i.toNat
theorem FI.zero {g : Nat → Int} {w n : Int} : FI g w n 0 := by
  show fnd g w n.toNat 0 = fnd g w (n - 0).toNat 0
  rw [Int.sub_zero]
theorem FI.step {g : Nat → Int} {w n i j : Int} (h : FI g w n i) (h0 : 0 ≤ i) (h1 : i < n) (hne : g i.toNat ≠ w) (hj : j = i + 1) : FI g w n j := by
  unfold FI at h ⊢
  rw [h, show (n - i).toNat = (n - j).toNat + 1 by omega, show j.toNat = i.toNat + 1 by omega]
  exact if_neg hne
theorem FI.hit {g : Nat → Int} {w n i : Int} (h : FI g w n i) (h0 : 0 ≤ i) (h1 : i < n) (he : g i.toNat = w) : i = wixK (nmG g n.toNat) 0 w := by
  rw [← fnd_g]
  unfold FI at h
  rw [h, show (n - i).toNat = (n - (i + 1)).toNat + 1 by omega]
  show i = if g i.toNat = w then (i.toNat : Int) else _
  rw [if_pos he]
  omega
theorem FI.none {g : Nat → Int} {w n i : Int} (h : FI g w n i) (h1 : n ≤ i) : -1 = wixK (nmG g n.toNat) 0 w := by
  rw [← fnd_g]
  unfold FI at h
  rw [h, show (n - i).toNat = 0 by omega]
  exact rfl
theorem wixK_lo {w : Int} : ∀ (l : List Int) (i : Int), 0 ≤ i → wixK l i w = -1 ∨ i ≤ wixK l i w := by
  intro l
  induction l with
  | nil => intro i _; exact Or.inl rfl
  | cons a l ih =>
    intro i hi
    show (if a = w then i else wixK l (i + 1) w) = -1 ∨ i ≤ (if a = w then i else wixK l (i + 1) w)
    by_cases h : a = w
    · rw [if_pos h]
      exact Or.inr (Int.le_refl _)
    · rw [if_neg h]
      rcases ih (i + 1) (by omega) with h2 | h2
      · exact Or.inl h2
      · exact Or.inr (by omega)
/-- the document's words, letters by 27 -/
def rw27 : List Int := [13318957, 279108050, 267347, 6647, 453937, 9518, 43393, 269726508, 72329, 212506, 239872, 164222, 419, 10492274, 423, 1111, 10631, 141985, 692581, 330758, 121898, 332864552, 212302449]
/-- the number of a WORD among the document's words, -1: a NAME -/
def wix (w : Int) : Int := wixK rw27 0 w
/-- the class's row of them -/
def gL (f : Nat → Int64) (i : Nat) : Int := (f i).toInt
def KWN (f : Nat → Int64) : Prop := nmG (gL f) 23 = rw27
/-- how many and which names of a row -/
def nmL (f : Nat → Int64) (n : Int) : List Int := nmG (gL f) n.toNat
theorem nmL_up {f g : Nat → Int64} {i : Int32} {x : Int64} {n : Int} (e : vp_updL f i.toNatClampNeg x = g) (hi : i.toInt = n) (h0 : 0 ≤ n) : nmL g (n + 1) = nmL f n ++ [x.toInt] := by
  unfold nmL
  rw [show (n + 1).toNat = n.toNat + 1 by omega, nmG_app, ← e]
  have hk : i.toNatClampNeg = n.toNat := by rw [cl_nat, hi]
  rw [hk]
  congr 1
  · refine nmG_eq (fun j hj => ?_)
    show (if j = n.toNat then x else f j).toInt = (f j).toInt
    rw [if_neg (by omega)]
  · show [(if n.toNat = n.toNat then x else f n.toNat).toInt] = [x.toInt]
    rw [if_pos rfl]
