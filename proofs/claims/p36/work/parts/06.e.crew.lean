/-! whether there is a crew, in the PLANS that can be undone -/
def PV (n c a0 a1 a2 a3 a4 a5 a6 a7 w : Int32) : Prop := ((n.toInt + 7) % 8 < c.toInt → a0 = w) ∧ ((n.toInt + 6) % 8 < c.toInt → a1 = w) ∧ ((n.toInt + 5) % 8 < c.toInt → a2 = w) ∧ ((n.toInt + 4) % 8 < c.toInt → a3 = w) ∧ ((n.toInt + 3) % 8 < c.toInt → a4 = w) ∧ ((n.toInt + 2) % 8 < c.toInt → a5 = w) ∧ ((n.toInt + 1) % 8 < c.toInt → a6 = w) ∧ ((n.toInt + 0) % 8 < c.toInt → a7 = w)
theorem PV.z {n c a0 a1 a2 a3 a4 a5 a6 a7 w : Int32} (h : c.toInt ≤ 0) (hn : 0 ≤ n.toInt) : PV n c a0 a1 a2 a3 a4 a5 a6 a7 w := ⟨fun q => absurd q (by omega), fun q => absurd q (by omega), fun q => absurd q (by omega), fun q => absurd q (by omega), fun q => absurd q (by omega), fun q => absurd q (by omega), fun q => absurd q (by omega), fun q => absurd q (by omega)⟩
theorem PV.r0 {n c n' c' a0 a1 a2 a3 a4 a5 a6 a7 w : Int32} (h : PV n c a0 a1 a2 a3 a4 a5 a6 a7 w) (hn : n.toInt = 0) (hc : 0 ≤ c.toInt) (en : n'.toInt = 1) (ec : c'.toInt ≤ c.toInt + 1) : PV n' c' w a1 a2 a3 a4 a5 a6 a7 w := ⟨fun _ => rfl, fun q => h.2.1 (by omega), fun q => h.2.2.1 (by omega), fun q => h.2.2.2.1 (by omega), fun q => h.2.2.2.2.1 (by omega), fun q => h.2.2.2.2.2.1 (by omega), fun q => h.2.2.2.2.2.2.1 (by omega), fun q => h.2.2.2.2.2.2.2 (by omega)⟩
theorem PV.u0 {n c n' c' a0 a1 a2 a3 a4 a5 a6 a7 w : Int32} (h : PV n c a0 a1 a2 a3 a4 a5 a6 a7 w) (hn : (n.toInt + 7) % 8 = 0) (h0 : 0 ≤ n.toInt ∧ n.toInt ≤ 7) (hc : 1 ≤ c.toInt) (en : n'.toInt = 0) (ec : c'.toInt = c.toInt - 1) : PV n' c' a0 a1 a2 a3 a4 a5 a6 a7 a0 ∧ a0 = w := by
  have e : a0 = w := h.1 (by omega)
  exact ⟨⟨fun q => (h.1 (by omega)).trans e.symm, fun q => (h.2.1 (by omega)).trans e.symm, fun q => (h.2.2.1 (by omega)).trans e.symm, fun q => (h.2.2.2.1 (by omega)).trans e.symm, fun q => (h.2.2.2.2.1 (by omega)).trans e.symm, fun q => (h.2.2.2.2.2.1 (by omega)).trans e.symm, fun q => (h.2.2.2.2.2.2.1 (by omega)).trans e.symm, fun q => (h.2.2.2.2.2.2.2 (by omega)).trans e.symm⟩, e⟩
theorem PV.r1 {n c n' c' a0 a1 a2 a3 a4 a5 a6 a7 w : Int32} (h : PV n c a0 a1 a2 a3 a4 a5 a6 a7 w) (hn : n.toInt = 1) (hc : 0 ≤ c.toInt) (en : n'.toInt = 2) (ec : c'.toInt ≤ c.toInt + 1) : PV n' c' a0 w a2 a3 a4 a5 a6 a7 w := ⟨fun q => h.1 (by omega), fun _ => rfl, fun q => h.2.2.1 (by omega), fun q => h.2.2.2.1 (by omega), fun q => h.2.2.2.2.1 (by omega), fun q => h.2.2.2.2.2.1 (by omega), fun q => h.2.2.2.2.2.2.1 (by omega), fun q => h.2.2.2.2.2.2.2 (by omega)⟩
theorem PV.u1 {n c n' c' a0 a1 a2 a3 a4 a5 a6 a7 w : Int32} (h : PV n c a0 a1 a2 a3 a4 a5 a6 a7 w) (hn : (n.toInt + 7) % 8 = 1) (h0 : 0 ≤ n.toInt ∧ n.toInt ≤ 7) (hc : 1 ≤ c.toInt) (en : n'.toInt = 1) (ec : c'.toInt = c.toInt - 1) : PV n' c' a0 a1 a2 a3 a4 a5 a6 a7 a1 ∧ a1 = w := by
  have e : a1 = w := h.2.1 (by omega)
  exact ⟨⟨fun q => (h.1 (by omega)).trans e.symm, fun q => (h.2.1 (by omega)).trans e.symm, fun q => (h.2.2.1 (by omega)).trans e.symm, fun q => (h.2.2.2.1 (by omega)).trans e.symm, fun q => (h.2.2.2.2.1 (by omega)).trans e.symm, fun q => (h.2.2.2.2.2.1 (by omega)).trans e.symm, fun q => (h.2.2.2.2.2.2.1 (by omega)).trans e.symm, fun q => (h.2.2.2.2.2.2.2 (by omega)).trans e.symm⟩, e⟩
theorem PV.r2 {n c n' c' a0 a1 a2 a3 a4 a5 a6 a7 w : Int32} (h : PV n c a0 a1 a2 a3 a4 a5 a6 a7 w) (hn : n.toInt = 2) (hc : 0 ≤ c.toInt) (en : n'.toInt = 3) (ec : c'.toInt ≤ c.toInt + 1) : PV n' c' a0 a1 w a3 a4 a5 a6 a7 w := ⟨fun q => h.1 (by omega), fun q => h.2.1 (by omega), fun _ => rfl, fun q => h.2.2.2.1 (by omega), fun q => h.2.2.2.2.1 (by omega), fun q => h.2.2.2.2.2.1 (by omega), fun q => h.2.2.2.2.2.2.1 (by omega), fun q => h.2.2.2.2.2.2.2 (by omega)⟩
theorem PV.u2 {n c n' c' a0 a1 a2 a3 a4 a5 a6 a7 w : Int32} (h : PV n c a0 a1 a2 a3 a4 a5 a6 a7 w) (hn : (n.toInt + 7) % 8 = 2) (h0 : 0 ≤ n.toInt ∧ n.toInt ≤ 7) (hc : 1 ≤ c.toInt) (en : n'.toInt = 2) (ec : c'.toInt = c.toInt - 1) : PV n' c' a0 a1 a2 a3 a4 a5 a6 a7 a2 ∧ a2 = w := by
  have e : a2 = w := h.2.2.1 (by omega)
  exact ⟨⟨fun q => (h.1 (by omega)).trans e.symm, fun q => (h.2.1 (by omega)).trans e.symm, fun q => (h.2.2.1 (by omega)).trans e.symm, fun q => (h.2.2.2.1 (by omega)).trans e.symm, fun q => (h.2.2.2.2.1 (by omega)).trans e.symm, fun q => (h.2.2.2.2.2.1 (by omega)).trans e.symm, fun q => (h.2.2.2.2.2.2.1 (by omega)).trans e.symm, fun q => (h.2.2.2.2.2.2.2 (by omega)).trans e.symm⟩, e⟩
theorem PV.r3 {n c n' c' a0 a1 a2 a3 a4 a5 a6 a7 w : Int32} (h : PV n c a0 a1 a2 a3 a4 a5 a6 a7 w) (hn : n.toInt = 3) (hc : 0 ≤ c.toInt) (en : n'.toInt = 4) (ec : c'.toInt ≤ c.toInt + 1) : PV n' c' a0 a1 a2 w a4 a5 a6 a7 w := ⟨fun q => h.1 (by omega), fun q => h.2.1 (by omega), fun q => h.2.2.1 (by omega), fun _ => rfl, fun q => h.2.2.2.2.1 (by omega), fun q => h.2.2.2.2.2.1 (by omega), fun q => h.2.2.2.2.2.2.1 (by omega), fun q => h.2.2.2.2.2.2.2 (by omega)⟩
theorem PV.u3 {n c n' c' a0 a1 a2 a3 a4 a5 a6 a7 w : Int32} (h : PV n c a0 a1 a2 a3 a4 a5 a6 a7 w) (hn : (n.toInt + 7) % 8 = 3) (h0 : 0 ≤ n.toInt ∧ n.toInt ≤ 7) (hc : 1 ≤ c.toInt) (en : n'.toInt = 3) (ec : c'.toInt = c.toInt - 1) : PV n' c' a0 a1 a2 a3 a4 a5 a6 a7 a3 ∧ a3 = w := by
  have e : a3 = w := h.2.2.2.1 (by omega)
  exact ⟨⟨fun q => (h.1 (by omega)).trans e.symm, fun q => (h.2.1 (by omega)).trans e.symm, fun q => (h.2.2.1 (by omega)).trans e.symm, fun q => (h.2.2.2.1 (by omega)).trans e.symm, fun q => (h.2.2.2.2.1 (by omega)).trans e.symm, fun q => (h.2.2.2.2.2.1 (by omega)).trans e.symm, fun q => (h.2.2.2.2.2.2.1 (by omega)).trans e.symm, fun q => (h.2.2.2.2.2.2.2 (by omega)).trans e.symm⟩, e⟩
theorem PV.r4 {n c n' c' a0 a1 a2 a3 a4 a5 a6 a7 w : Int32} (h : PV n c a0 a1 a2 a3 a4 a5 a6 a7 w) (hn : n.toInt = 4) (hc : 0 ≤ c.toInt) (en : n'.toInt = 5) (ec : c'.toInt ≤ c.toInt + 1) : PV n' c' a0 a1 a2 a3 w a5 a6 a7 w := ⟨fun q => h.1 (by omega), fun q => h.2.1 (by omega), fun q => h.2.2.1 (by omega), fun q => h.2.2.2.1 (by omega), fun _ => rfl, fun q => h.2.2.2.2.2.1 (by omega), fun q => h.2.2.2.2.2.2.1 (by omega), fun q => h.2.2.2.2.2.2.2 (by omega)⟩
theorem PV.u4 {n c n' c' a0 a1 a2 a3 a4 a5 a6 a7 w : Int32} (h : PV n c a0 a1 a2 a3 a4 a5 a6 a7 w) (hn : (n.toInt + 7) % 8 = 4) (h0 : 0 ≤ n.toInt ∧ n.toInt ≤ 7) (hc : 1 ≤ c.toInt) (en : n'.toInt = 4) (ec : c'.toInt = c.toInt - 1) : PV n' c' a0 a1 a2 a3 a4 a5 a6 a7 a4 ∧ a4 = w := by
  have e : a4 = w := h.2.2.2.2.1 (by omega)
  exact ⟨⟨fun q => (h.1 (by omega)).trans e.symm, fun q => (h.2.1 (by omega)).trans e.symm, fun q => (h.2.2.1 (by omega)).trans e.symm, fun q => (h.2.2.2.1 (by omega)).trans e.symm, fun q => (h.2.2.2.2.1 (by omega)).trans e.symm, fun q => (h.2.2.2.2.2.1 (by omega)).trans e.symm, fun q => (h.2.2.2.2.2.2.1 (by omega)).trans e.symm, fun q => (h.2.2.2.2.2.2.2 (by omega)).trans e.symm⟩, e⟩
theorem PV.r5 {n c n' c' a0 a1 a2 a3 a4 a5 a6 a7 w : Int32} (h : PV n c a0 a1 a2 a3 a4 a5 a6 a7 w) (hn : n.toInt = 5) (hc : 0 ≤ c.toInt) (en : n'.toInt = 6) (ec : c'.toInt ≤ c.toInt + 1) : PV n' c' a0 a1 a2 a3 a4 w a6 a7 w := ⟨fun q => h.1 (by omega), fun q => h.2.1 (by omega), fun q => h.2.2.1 (by omega), fun q => h.2.2.2.1 (by omega), fun q => h.2.2.2.2.1 (by omega), fun _ => rfl, fun q => h.2.2.2.2.2.2.1 (by omega), fun q => h.2.2.2.2.2.2.2 (by omega)⟩
theorem PV.u5 {n c n' c' a0 a1 a2 a3 a4 a5 a6 a7 w : Int32} (h : PV n c a0 a1 a2 a3 a4 a5 a6 a7 w) (hn : (n.toInt + 7) % 8 = 5) (h0 : 0 ≤ n.toInt ∧ n.toInt ≤ 7) (hc : 1 ≤ c.toInt) (en : n'.toInt = 5) (ec : c'.toInt = c.toInt - 1) : PV n' c' a0 a1 a2 a3 a4 a5 a6 a7 a5 ∧ a5 = w := by
  have e : a5 = w := h.2.2.2.2.2.1 (by omega)
  exact ⟨⟨fun q => (h.1 (by omega)).trans e.symm, fun q => (h.2.1 (by omega)).trans e.symm, fun q => (h.2.2.1 (by omega)).trans e.symm, fun q => (h.2.2.2.1 (by omega)).trans e.symm, fun q => (h.2.2.2.2.1 (by omega)).trans e.symm, fun q => (h.2.2.2.2.2.1 (by omega)).trans e.symm, fun q => (h.2.2.2.2.2.2.1 (by omega)).trans e.symm, fun q => (h.2.2.2.2.2.2.2 (by omega)).trans e.symm⟩, e⟩
theorem PV.r6 {n c n' c' a0 a1 a2 a3 a4 a5 a6 a7 w : Int32} (h : PV n c a0 a1 a2 a3 a4 a5 a6 a7 w) (hn : n.toInt = 6) (hc : 0 ≤ c.toInt) (en : n'.toInt = 7) (ec : c'.toInt ≤ c.toInt + 1) : PV n' c' a0 a1 a2 a3 a4 a5 w a7 w := ⟨fun q => h.1 (by omega), fun q => h.2.1 (by omega), fun q => h.2.2.1 (by omega), fun q => h.2.2.2.1 (by omega), fun q => h.2.2.2.2.1 (by omega), fun q => h.2.2.2.2.2.1 (by omega), fun _ => rfl, fun q => h.2.2.2.2.2.2.2 (by omega)⟩
theorem PV.u6 {n c n' c' a0 a1 a2 a3 a4 a5 a6 a7 w : Int32} (h : PV n c a0 a1 a2 a3 a4 a5 a6 a7 w) (hn : (n.toInt + 7) % 8 = 6) (h0 : 0 ≤ n.toInt ∧ n.toInt ≤ 7) (hc : 1 ≤ c.toInt) (en : n'.toInt = 6) (ec : c'.toInt = c.toInt - 1) : PV n' c' a0 a1 a2 a3 a4 a5 a6 a7 a6 ∧ a6 = w := by
  have e : a6 = w := h.2.2.2.2.2.2.1 (by omega)
  exact ⟨⟨fun q => (h.1 (by omega)).trans e.symm, fun q => (h.2.1 (by omega)).trans e.symm, fun q => (h.2.2.1 (by omega)).trans e.symm, fun q => (h.2.2.2.1 (by omega)).trans e.symm, fun q => (h.2.2.2.2.1 (by omega)).trans e.symm, fun q => (h.2.2.2.2.2.1 (by omega)).trans e.symm, fun q => (h.2.2.2.2.2.2.1 (by omega)).trans e.symm, fun q => (h.2.2.2.2.2.2.2 (by omega)).trans e.symm⟩, e⟩
theorem PV.r7 {n c n' c' a0 a1 a2 a3 a4 a5 a6 a7 w : Int32} (h : PV n c a0 a1 a2 a3 a4 a5 a6 a7 w) (hn : n.toInt = 7) (hc : 0 ≤ c.toInt) (en : n'.toInt = 0) (ec : c'.toInt ≤ c.toInt + 1) : PV n' c' a0 a1 a2 a3 a4 a5 a6 w w := ⟨fun q => h.1 (by omega), fun q => h.2.1 (by omega), fun q => h.2.2.1 (by omega), fun q => h.2.2.2.1 (by omega), fun q => h.2.2.2.2.1 (by omega), fun q => h.2.2.2.2.2.1 (by omega), fun q => h.2.2.2.2.2.2.1 (by omega), fun _ => rfl⟩
theorem PV.u7 {n c n' c' a0 a1 a2 a3 a4 a5 a6 a7 w : Int32} (h : PV n c a0 a1 a2 a3 a4 a5 a6 a7 w) (hn : (n.toInt + 7) % 8 = 7) (h0 : 0 ≤ n.toInt ∧ n.toInt ≤ 7) (hc : 1 ≤ c.toInt) (en : n'.toInt = 7) (ec : c'.toInt = c.toInt - 1) : PV n' c' a0 a1 a2 a3 a4 a5 a6 a7 a7 ∧ a7 = w := by
  have e : a7 = w := h.2.2.2.2.2.2.2 (by omega)
  exact ⟨⟨fun q => (h.1 (by omega)).trans e.symm, fun q => (h.2.1 (by omega)).trans e.symm, fun q => (h.2.2.1 (by omega)).trans e.symm, fun q => (h.2.2.2.1 (by omega)).trans e.symm, fun q => (h.2.2.2.2.1 (by omega)).trans e.symm, fun q => (h.2.2.2.2.2.1 (by omega)).trans e.symm, fun q => (h.2.2.2.2.2.2.1 (by omega)).trans e.symm, fun q => (h.2.2.2.2.2.2.2 (by omega)).trans e.symm⟩, e⟩
/-- the reference's row of them -/
def UND (u : Nat → Int32) (n : Int) (w : Int32) : Prop := ∀ i : Nat, (i : Int) < n → u (24 * i) = w
theorem UND.z {u : Nat → Int32} {n : Int} {w : Int32} (h : n ≤ 0) : UND u n w := fun i hi => absurd hi (by omega)
theorem UND.mn {u : Nat → Int32} {n n' : Int} {w : Int32} (h : UND u n w) (hn : n' ≤ n) : UND u n' w := fun i hi => h i (by omega)
/-- one row more behind them -/
theorem UND.ad {u u' : Nat → Int32} {n n' : Int} {w : Int32} (h : UND u n w) (hk : ∀ j : Nat, (j : Int) < 24 * n → u' j = u j) (e : (0 ≤ n) → u' (24 * n.toNat) = w) (hn : n' = n + 1) : UND u' n' w := fun i hi => by
  by_cases q : (i : Int) < n
  · rw [hk (24 * i) (by omega)]
    exact h i q
  · rw [show i = n.toNat by omega]
    exact e (by omega)
/-- the first row taken off -/
theorem UND.sh {u u' : Nat → Int32} {n n' : Int} {w : Int32} (h : UND u n w) (hk : ∀ j : Nat, (j : Int) < 168 → u' j = u (j + 24)) (hn : n' = n - 1) (h7 : n' ≤ 7) : UND u' n' w := fun i hi => by
  rw [hk (24 * i) (by omega), show 24 * i + 24 = 24 * (i + 1) by omega]
  exact h (i + 1) (by omega)
/-- the place of the crew's flag stays -/
def UC (w : Int32) (f : Nat → Int32) : Prop := f 104 = w
theorem UC.upN {w : Int32} {f : Nat → Int32} (h : UC w f) {k : Nat} {x : Int32} (hk : k ≠ 104) : UC w (upd f k x) := (pk_un (fun q => hk q.symm)).trans h
theorem UC.up {w : Int32} {f : Nat → Int32} (h : UC w f) {i x : Int32} (hi : i.toInt ≠ 104) : UC w (upd f i.toNatClampNeg x) := by
  rw [cl_nat]
  exact h.upN (by omega)
/-- the first place of what is copied -/
def FST (g : Nat → Int32) (k : Nat) (w : Int32) (k0 : Nat) (n : Int) : Prop := 1 ≤ n → g k = w
theorem FST.zero {g : Nat → Int32} {k k0 : Nat} {w : Int32} {n : Int} (h : n ≤ 0) : FST g k w k0 n := fun q => absurd q (by omega)
theorem FST.fin {g : Nat → Int32} {k k0 : Nat} {w : Int32} {n : Int} (h : FST g k w k0 n) (hn : 1 ≤ n) : g k = w := h hn
theorem FST.step {g g' f : Nat → Int32} {k k0 : Nat} {i j x : Int32} {n n' : Int} (h : FST g k (f k0) k0 n) (e : upd g i.toNatClampNeg x = g') (hi : 0 ≤ n ∧ i.toInt = (k : Int) + n) (ex : x = f j.toNatClampNeg) (hj : j.toInt = (k0 : Int) + n) (hn : n' = n + 1) : FST g' k (f k0) k0 n' := fun _ => by
  rw [cl_nat] at e ex
  by_cases q : n = 0
  · rw [← e, show k = i.toInt.toNat by omega, pk_us, ex, show j.toInt.toNat = k0 by omega]
  · rw [← e, pk_un (by omega)]
    exact h (by omega)
/-- all is moved by a row -/
def SHF (u g : Nat → Int32) (n : Int) : Prop := (∀ j : Nat, (j : Int) < n → g j = u (j + 24)) ∧ (∀ j : Nat, n ≤ (j : Int) → g j = u j)
theorem SHF.zero {u : Nat → Int32} {n : Int} (h : n ≤ 0) : SHF u u n := ⟨fun j hj => absurd hj (by omega), fun _ _ => rfl⟩
theorem SHF.step {u g g' : Nat → Int32} {i k x : Int32} {n n' : Int} (h : SHF u g n) (e : upd g i.toNatClampNeg x = g') (ex : x = g k.toNatClampNeg) (hi : 0 ≤ n ∧ i.toInt = n) (hk : k.toInt = n + 24) (hn : n' = n + 1) : SHF u g' n' := by
  rw [cl_nat] at e ex
  refine ⟨fun j hj => ?_, fun j hj => ?_⟩
  · by_cases q : (j : Int) = n
    · rw [← e, show j = i.toInt.toNat by omega, pk_us, ex, h.2 _ (by omega)]
      exact congrArg u (by omega)
    · rw [← e, pk_un (by omega)]
      exact h.1 j (by omega)
  · rw [← e, pk_un (by omega)]
    exact h.2 j (by omega)
theorem SHF.fin {u g : Nat → Int32} {n : Int} (h : SHF u g n) (hn : 168 ≤ n) : ∀ j : Nat, (j : Int) < 168 → g j = u (j + 24) := fun j hj => h.1 j (by omega)
/-- what lies ahead of a row stays -/
def KBL (u g : Nat → Int32) (b : Nat) : Prop := ∀ j : Nat, (j : Int) < b → g j = u j
theorem KBL.rf {u : Nat → Int32} {b : Nat} : KBL u u b := fun _ _ => rfl
theorem KBL.up {u g g' : Nat → Int32} {b : Nat} {i x : Int32} (h : KBL u g b) (e : upd g i.toNatClampNeg x = g') (hi : (b : Int) ≤ i.toInt) : KBL u g' b := fun j hj => by
  rw [← e, pk_un (by rw [cl_nat]; omega)]
  exact h j hj
/-- a place that becomes 0 -/
def ZAT (g : Nat → Int32) (k : Nat) (n : Int) : Prop := (k : Int) < n → g k = 0
theorem ZAT.zero {g : Nat → Int32} {k : Nat} {n : Int} (h : n ≤ 0) : ZAT g k n := fun q => absurd q (by omega)
theorem ZAT.fin {g : Nat → Int32} {k : Nat} {n : Int} (h : ZAT g k n) (hn : (k : Int) < n) : g k = 0 := h hn
theorem ZAT.step {g g' : Nat → Int32} {k : Nat} {i x : Int32} {n n' : Int} (h : ZAT g k n) (e : upd g i.toNatClampNeg x = g') (hi : i.toInt = n) (h0 : 0 ≤ n) (hn : n' = n + 1) (hx : n = k → x = 0) : ZAT g' k n' := fun _ => by
  rw [cl_nat] at e
  by_cases q : n = k
  · rw [← e, show k = i.toInt.toNat by omega, pk_us]
    exact hx q
  · rw [← e, pk_un (by omega)]
    exact h (by omega)
def cCrd (x : Sum Flt (Int × CS)) (c : Int) : Int :=
  match x with
  | .inl _ => c
  | .inr _ => 0
theorem ccd_r {x : Sum Flt (Int × CS)} {u : Int × CS} {c : Int} (h : x = .inr u) : cCrd x c = 0 := by rw [h]; exact rfl
theorem ccd_l {x : Sum Flt (Int × CS)} {e : Flt} {c : Int} (h : x = .inl e) : cCrd x c = c := by rw [h]; exact rfl
theorem pcd_r {x : Sum Flt (Int × PS)} {n : Int} {s : PS} {c : Int} (h : x = .inr (n, s)) : pCrd x c = s.1 := by rw [h]; exact rfl
theorem pcd_l {x : Sum Flt (Int × PS)} {e : Flt} {c : Int} (h : x = .inl e) : pCrd x c = c := by rw [h]; exact rfl
