/-! bits of an int -/
def bt (x : Int32) (j : Nat) : Bool := x.toBitVec.getLsbD j
theorem and1_bt (x : Int32) : (x &&& 1).toInt = if bt x 0 = true then 1 else 0 := by
  have h1 : (x &&& 1).toBitVec.toNat = x.toBitVec.toNat % 2 := by
    rw [Int32.toBitVec_and, BitVec.toNat_and]
    exact Nat.and_two_pow_sub_one_eq_mod _ 1
  have h2 := i32n (x &&& 1)
  have h4 := and_i x (m := 1) 1 (by decide)
  have h3 : bt x 0 = decide (x.toBitVec.toNat % 2 = 1) := Nat.testBit_zero _
  rw [h3]
  by_cases h : x.toBitVec.toNat % 2 = 1
  · rw [if_pos (decide_eq_true h)]
    omega
  · rw [if_neg (fun q => h (of_decide_eq_true q))]
    omega
theorem bt_shr {x k : Int32} {n : Nat} (hk : ((k &&& 31).toBitVec.smod 32).toNat = n) (hn : n < 32) : bt (x >>> (k &&& 31)) 0 = bt x n := by
  show (x.toBitVec.sshiftRight ((k &&& 31).toBitVec.smod 32).toNat).getLsbD 0 = x.toBitVec.getLsbD n
  rw [hk, BitVec.getLsbD_sshiftRight, if_pos (show n + 0 < 32 by omega)]
  exact Bool.true_and _
theorem kn32 : ∀ n : Nat, n < 32 → ((nI n &&& 31).toBitVec.smod 32).toNat = n := by decide +kernel
theorem tst_bt {x k : Int32} (h0 : 0 ≤ k.toInt) (h1 : k.toInt < 32) : tst x k = if bt x k.toInt.toNat = true then 1 else 0 := by
  obtain ⟨n, en, -, tn⟩ := ni_of h0
  have e : k.toInt.toNat = n := by omega
  unfold tst
  rw [and1_bt, e, en, bt_shr (kn32 n (by omega)) (by omega)]
theorem tst_01 (x k : Int32) : tst x k = 0 ∨ tst x k = 1 := by
  unfold tst
  rw [and1_bt]
  by_cases h : bt (x >>> (k &&& 31)) 0 = true
  · rw [if_pos h]
    exact Or.inr rfl
  · rw [if_neg h]
    exact Or.inl rfl
theorem bt_or {x y : Int32} {j : Nat} : bt (x ||| y) j = (bt x j || bt y j) := BitVec.getLsbD_or
theorem bt_1 : ∀ n : Nat, n < 32 → ∀ j : Nat, j < 32 → bt ((1 : Int32) <<< (nI n &&& 31)) j = decide (j = n) := by decide +kernel
theorem tst_or {x k j : Int32} (hk : 0 ≤ k.toInt ∧ k.toInt < 32) (hj : 0 ≤ j.toInt ∧ j.toInt < 32) : tst (x ||| (1 <<< (k &&& 31))) j = if j.toInt = k.toInt then 1 else tst x j := by
  obtain ⟨n, en, -, tn⟩ := ni_of hk.1
  rw [tst_bt hj.1 hj.2, tst_bt hj.1 hj.2, bt_or, en, bt_1 n (by omega) j.toInt.toNat (by omega), ← en]
  by_cases h : j.toInt = k.toInt
  · rw [if_pos h, show decide (j.toInt.toNat = n) = true from decide_eq_true (by omega), Bool.or_true, if_pos rfl]
  · rw [if_neg h, show decide (j.toInt.toNat = n) = false from decide_eq_false (by omega), Bool.or_false]
theorem tst_same {x k : Int32} (hk : 0 ≤ k.toInt ∧ k.toInt < 32) : tst (x ||| (1 <<< (k &&& 31))) k = 1 := by
  rw [tst_or hk hk, if_pos rfl]
theorem tst_oth {x k j : Int32} (hk : 0 ≤ k.toInt ∧ k.toInt < 32) (hj : 0 ≤ j.toInt ∧ j.toInt < 32) (h : j.toInt ≠ k.toInt) : tst (x ||| (1 <<< (k &&& 31))) j = tst x j := by
  rw [tst_or hk hj, if_neg h]
theorem tst_z {k : Int32} (hk : 0 ≤ k.toInt ∧ k.toInt < 32) : tst 0 k = 0 := by
  rw [tst_bt hk.1 hk.2, show bt 0 k.toInt.toNat = false from Nat.zero_testBit _]
  exact if_neg (by decide)
/-- the same bit by the shift that fills with 0 -/
theorem knU32 : ∀ n : Nat, n < 32 → (((nI n).toUInt32 &&& Int32.toUInt32 31).toBitVec % 32).toNat = n := by decide +kernel
theorem tst_u {x k : Int32} (h0 : 0 ≤ k.toInt) (h1 : k.toInt < 32) : ((x.toUInt32 >>> (k.toUInt32 &&& Int32.toUInt32 31)).toInt32 &&& 1).toInt = tst x k := by
  obtain ⟨n, en, -, tn⟩ := ni_of h0
  have e : k.toInt.toNat = n := by omega
  rw [and1_bt, tst_bt h0 h1, e]
  have h2 := pk_ushr x k n (by rw [en]; exact knU32 n (by omega))
  have h3 : bt (x.toUInt32 >>> (k.toUInt32 &&& Int32.toUInt32 31)).toInt32 0 = bt x n := by
    show Nat.testBit _ 0 = Nat.testBit _ n
    rw [h2, Nat.testBit_zero, Nat.testBit_eq_decide_div_mod_eq]
  rw [h3]
/-- a place or number as an int -/
theorem ofi {r : Int32} {v : Int} (h : r.toInt = v) : Int32.ofInt v = r := by
  rw [← h]
  exact Int32.ofInt_toInt r
