def fillB (f v : Nat → Int32) (b n : Nat) : Nat → Int32 := fun j => if b ≤ j ∧ j < b + n then v (j - b) else f j
def fillL (f v : Nat → Int64) (b n : Nat) : Nat → Int64 := fun j => if b ≤ j ∧ j < b + n then v (j - b) else f j
theorem fillB_0 {f v : Nat → Int32} {b : Nat} : fillB f v b 0 = f := by funext j; exact if_neg (by omega)
theorem fillL_0 {f v : Nat → Int64} {b : Nat} : fillL f v b 0 = f := by funext j; exact if_neg (by omega)
theorem fillL_ge {f v : Nat → Int64} {b n j : Nat} (h : b + n ≤ j) : fillL f v b n j = f j := if_neg (by omega)
theorem fillB_s {f v : Nat → Int32} {b i k : Nat} {x : Int32} (hk : k = b + i) (hx : x = v i) : upd (fillB f v b i) k x = fillB f v b (i + 1) := by
  subst hk; subst hx
  funext j
  by_cases h : j = b + i
  · subst h
    rw [pk_us]
    show v i = fillB f v b (i + 1) (b + i)
    rw [fillB, if_pos (by omega), show b + i - b = i by omega]
  · rw [pk_un h]
    by_cases h2 : b ≤ j ∧ j < b + i
    · rw [fillB, if_pos h2, fillB, if_pos (by omega)]
    · rw [fillB, if_neg h2, fillB, if_neg (by omega)]
theorem fillL_s {f v : Nat → Int64} {b i k : Nat} {x : Int64} (hk : k = b + i) (hx : x = v i) : vp_updL (fillL f v b i) k x = fillL f v b (i + 1) := by
  subst hk; subst hx
  funext j
  by_cases h : j = b + i
  · subst h
    rw [pk_uLs]
    show v i = fillL f v b (i + 1) (b + i)
    rw [fillL, if_pos (by omega), show b + i - b = i by omega]
  · rw [pk_uLn h]
    by_cases h2 : b ≤ j ∧ j < b + i
    · rw [fillL, if_pos h2, fillL, if_pos (by omega)]
    · rw [fillL, if_neg h2, fillL, if_neg (by omega)]
theorem cloop {N nL : Nat} {D : va_G} {A : Nat → Prop} {H0 : Heap} {Wd : Nat → va_W} {Lc : Nat → List (Nat × Value)} {P : Heap → List Loc → Array Slot → Prop}
    (hz : ∀ (H : Heap) (locs : List Loc) (ls : Array Slot), va_P D vwCl (Wd N) H → va_D A (Wd N) → va_S A H0 H locs → lv_has ls nL (Lc N) → P H locs ls)
    (hs : ∀ i : Nat, i < N → (∀ (H : Heap) (locs : List Loc) (ls : Array Slot), va_P D vwCl (Wd (i + 1)) H → va_D A (Wd (i + 1)) → va_S A H0 H locs → lv_has ls nL (Lc (i + 1)) → P H locs ls) → ∀ (H : Heap) (locs : List Loc) (ls : Array Slot), va_P D vwCl (Wd i) H → va_D A (Wd i) → va_S A H0 H locs → lv_has ls nL (Lc i) → P H locs ls) :
    ∀ (H : Heap) (locs : List Loc) (ls : Array Slot), va_P D vwCl (Wd 0) H → va_D A (Wd 0) → va_S A H0 H locs → lv_has ls nL (Lc 0) → P H locs ls := by
  have key : ∀ n i : Nat, i + n = N → ∀ (H : Heap) (locs : List Loc) (ls : Array Slot), va_P D vwCl (Wd i) H → va_D A (Wd i) → va_S A H0 H locs → lv_has ls nL (Lc i) → P H locs ls := by
    intro n
    induction n with
    | zero =>
      intro i hi
      have e : i = N := by omega
      subst e
      exact hz
    | succ n ih =>
      intro i hi
      exact hs i (by omega) (ih (i + 1) (by omega))
  exact key N 0 (by omega)
theorem xloop {α : Type} {N nL : Nat} {D : va_G} {A : Nat → Prop} {H0 : Heap} {Wd : α → va_W} {Lc : Nat → List (Nat × Value)} {P : Heap → List Loc → Array Slot → Prop}
    (hz : ∀ (g : α) (H : Heap) (locs : List Loc) (ls : Array Slot), va_P D vwCl (Wd g) H → va_D A (Wd g) → va_S A H0 H locs → lv_has ls nL (Lc N) → P H locs ls)
    (hs : ∀ i : Nat, i < N → (∀ (g : α) (H : Heap) (locs : List Loc) (ls : Array Slot), va_P D vwCl (Wd g) H → va_D A (Wd g) → va_S A H0 H locs → lv_has ls nL (Lc (i + 1)) → P H locs ls) → ∀ (g : α) (H : Heap) (locs : List Loc) (ls : Array Slot), va_P D vwCl (Wd g) H → va_D A (Wd g) → va_S A H0 H locs → lv_has ls nL (Lc i) → P H locs ls) :
    ∀ (g : α) (H : Heap) (locs : List Loc) (ls : Array Slot), va_P D vwCl (Wd g) H → va_D A (Wd g) → va_S A H0 H locs → lv_has ls nL (Lc 0) → P H locs ls := by
  have key : ∀ n i : Nat, i + n = N → ∀ (g : α) (H : Heap) (locs : List Loc) (ls : Array Slot), va_P D vwCl (Wd g) H → va_D A (Wd g) → va_S A H0 H locs → lv_has ls nL (Lc i) → P H locs ls := by
    intro n
    induction n with
    | zero =>
      intro i hi
      have e : i = N := by omega
      subst e
      exact hz
    | succ n ih =>
      intro i hi
      exact hs i (by omega) (ih (i + 1) (by omega))
  exact key N 0 (by omega)
