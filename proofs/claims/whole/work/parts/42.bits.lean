/-! bits -/
theorem bt_of (n : Nat) : (Int32.ofInt (n : Int)).toBitVec = BitVec.ofNat 32 n := by
  rw [Int32.toBitVec_ofInt, BitVec.ofInt_natCast]
theorem bt_to {x : BitVec 32} (h : x.toNat < 2147483648) : x.toInt = x.toNat := by
  rw [BitVec.toInt_eq_toNat_of_lt (by omega)]
theorem bt_and {a b : Nat} (ha : a < 2147483648) (hb : b < 2147483648) : qb_and a b = ((a &&& b : Nat) : Int) := by
  have hab : a &&& b ≤ a := Nat.and_le_left
  unfold qb_and
  show (Int32.ofInt a &&& Int32.ofInt b).toBitVec.toInt = _
  rw [Int32.toBitVec_and, bt_of, bt_of]
  have e : (BitVec.ofNat 32 a &&& BitVec.ofNat 32 b).toNat = a &&& b := by
    rw [BitVec.toNat_and, BitVec.toNat_ofNat, BitVec.toNat_ofNat, Nat.mod_eq_of_lt (by omega), Nat.mod_eq_of_lt (by omega)]
  rw [bt_to (by omega), e]
theorem bt_or {a b : Nat} (ha : a < 2147483648) (hb : b < 2147483648) : qb_or a b = ((a ||| b : Nat) : Int) ∧ a ||| b < 2147483648 := by
  have hab : a ||| b < 2 ^ 31 := Nat.or_lt_two_pow (by omega) (by omega)
  have hab2 : a ||| b < 2147483648 := hab
  refine ⟨?_, hab⟩
  unfold qb_or
  show (Int32.ofInt a ||| Int32.ofInt b).toBitVec.toInt = _
  rw [Int32.toBitVec_or, bt_of, bt_of]
  have e : (BitVec.ofNat 32 a ||| BitVec.ofNat 32 b).toNat = a ||| b := by
    rw [BitVec.toNat_or, BitVec.toNat_ofNat, BitVec.toNat_ofNat, Nat.mod_eq_of_lt (by omega), Nat.mod_eq_of_lt (by omega)]
  rw [bt_to (by omega), e]
theorem bt_amt : ∀ k : Fin 32, ((Int32.ofInt ((k.val : Nat) : Int) &&& 31).toBitVec.smod 32) = BitVec.ofNat 32 k.val := by decide
theorem bt_one : ∀ k : Fin 31, qb_shl 1 ((k.val : Nat) : Int) = ((2 ^ k.val : Nat) : Int) := by decide
theorem bt_shl {k : Nat} (h : k < 31) : qb_shl 1 k = ((2 ^ k : Nat) : Int) ∧ 2 ^ k < 2147483648 := by
  refine ⟨bt_one ⟨k, h⟩, ?_⟩
  have : 2 ^ k < 2 ^ 31 := Nat.pow_lt_pow_right (by decide) h
  exact this
theorem bt_shr {a k : Nat} (ha : a < 2147483648) (hk : k < 32) : qb_shr a k = ((a >>> k : Nat) : Int) := by
  have h1 := bt_amt ⟨k, hk⟩
  unfold qb_shr
  show (Int32.ofInt a >>> (Int32.ofInt k &&& 31)).toBitVec.toInt = _
  rw [Int32.toBitVec_shiftRight]
  have h2 : ((Int32.ofInt (k : Int) &&& 31).toBitVec.smod 32) = BitVec.ofNat 32 k := h1
  rw [h2, bt_of, BitVec.sshiftRight_eq', BitVec.toNat_ofNat, Nat.mod_eq_of_lt (by omega), BitVec.toInt_sshiftRight]
  have e : (BitVec.ofNat 32 a).toNat = a := by rw [BitVec.toNat_ofNat, Nat.mod_eq_of_lt (by omega)]
  rw [bt_to (by omega), e]
  rfl
theorem bt_test {a k : Nat} (ha : a < 2147483648) (hk : k < 31) : qb_and (qb_shr a k) 1 = if a.testBit k = true then 1 else 0 := by
  rw [bt_shr ha (by omega)]
  have : a >>> k ≤ a := Nat.shiftRight_le a k
  have e := bt_and (a := a >>> k) (b := 1) (by omega) (by decide)
  rw [show ((1 : Nat) : Int) = 1 from rfl] at e
  rw [e]
  have h2 : a.testBit k = decide ((a >>> k) % 2 = 1) := by
    rw [Nat.testBit_eq_decide_div_mod_eq, Nat.shiftRight_eq_div_pow]
  rw [h2, Nat.and_one_is_mod]
  by_cases c : (a >>> k) % 2 = 1
  · rw [if_pos (decide_eq_true c), c]; rfl
  · rw [if_neg (fun h => c (of_decide_eq_true h))]
    have : (a >>> k) % 2 = 0 := by omega
    rw [this]; rfl
theorem bt_put {a k j : Nat} : (a ||| 2 ^ k).testBit j = (a.testBit j || decide (k = j)) := by
  rw [Nat.testBit_or, Nat.testBit_two_pow]
