/-! bits counted -/
theorem bt_uamt : ∀ k : Fin 32, ((Int32.ofInt ((k.val : Nat) : Int)).toUInt32 &&& Int32.toUInt32 31).toBitVec % 32 = BitVec.ofNat 32 k.val := by decide
theorem bt_ushr {a k : Nat} (ha : a < 2147483648) (hk : k < 32) : qb_ushr a k = ((a >>> k : Nat) : Int) := by
  have h1 := bt_uamt ⟨k, hk⟩
  have hle : a >>> k ≤ a := Nat.shiftRight_le a k
  unfold qb_ushr
  show ((Int32.ofInt a).toUInt32 >>> ((Int32.ofInt k).toUInt32 &&& Int32.toUInt32 31)).toBitVec.toInt = _
  rw [UInt32.toBitVec_shiftRight]
  have h2 : ((Int32.ofInt (k : Int)).toUInt32 &&& Int32.toUInt32 31).toBitVec % 32 = BitVec.ofNat 32 k := h1
  rw [h2]
  have h3 : (Int32.ofInt (a : Int)).toUInt32.toBitVec = BitVec.ofNat 32 a := bt_of a
  rw [h3]
  have e : (BitVec.ofNat 32 a >>> BitVec.ofNat 32 k).toNat = a >>> k := by
    rw [BitVec.ushiftRight_eq', BitVec.toNat_ushiftRight, BitVec.toNat_ofNat, BitVec.toNat_ofNat, Nat.mod_eq_of_lt (by omega), Nat.mod_eq_of_lt (by omega)]
  rw [bt_to (by omega), e]
theorem bt_u1 {a : Nat} (ha : a < 2147483648) : qb_ushr a 1 = ((a / 2 : Nat) : Int) := by
  have := bt_ushr (k := 1) ha (by decide); rw [Nat.shiftRight_eq_div_pow] at this; exact this
theorem bt_u2 {a : Nat} (ha : a < 2147483648) : qb_ushr a 2 = ((a / 4 : Nat) : Int) := by
  have := bt_ushr (k := 2) ha (by decide); rw [Nat.shiftRight_eq_div_pow] at this; exact this
theorem bt_u4 {a : Nat} (ha : a < 2147483648) : qb_ushr a 4 = ((a / 16 : Nat) : Int) := by
  have := bt_ushr (k := 4) ha (by decide); rw [Nat.shiftRight_eq_div_pow] at this; exact this
theorem bt_u8 {a : Nat} (ha : a < 2147483648) : qb_ushr a 8 = ((a / 256 : Nat) : Int) := by
  have := bt_ushr (k := 8) ha (by decide); rw [Nat.shiftRight_eq_div_pow] at this; exact this
theorem bt_u16 {a : Nat} (ha : a < 2147483648) : qb_ushr a 16 = ((a / 65536 : Nat) : Int) := by
  have := bt_ushr (k := 16) ha (by decide); rw [Nat.shiftRight_eq_div_pow] at this; exact this
theorem and_split (kz x y : Nat) : x &&& y = 2 ^ kz * ((x / 2 ^ kz) &&& (y / 2 ^ kz)) + ((x % 2 ^ kz) &&& (y % 2 ^ kz)) := by
  have := Nat.div_add_mod (x &&& y) (2 ^ kz)
  rw [Nat.and_div_two_pow, Nat.and_mod_two_pow] at this
  exact this.symm
def pm2 : Nat → Nat
  | 0 => 0
  | j + 1 => 1 + 4 * pm2 j
def pm4 : Nat → Nat
  | 0 => 0
  | j + 1 => 3 + 16 * pm4 j
def pm8 : Nat → Nat
  | 0 => 0
  | j + 1 => 15 + 256 * pm8 j
def pd2 : Nat → Nat → Nat
  | 0, _ => 0
  | j + 1, y => y % 2 + 4 * pd2 j (y / 4)
def pd4 : Nat → Nat → Nat
  | 0, _ => 0
  | j + 1, y => y % 4 + 16 * pd4 j (y / 16)
def pd8 : Nat → Nat → Nat
  | 0, _ => 0
  | j + 1, y => y % 16 + 256 * pd8 j (y / 256)
theorem pa2 : ∀ j y : Nat, y &&& pm2 j = pd2 j y := by
  intro j
  induction j with
  | zero => intro y; exact Nat.and_zero y
  | succ j ih =>
    intro y
    rw [and_split 2 y (pm2 (j + 1))]
    have e1 : pm2 (j + 1) / 2 ^ 2 = pm2 j := by simp only [pm2]; omega
    have e2 : pm2 (j + 1) % 2 ^ 2 = 1 := by simp only [pm2]; omega
    rw [e1, e2, ih, Nat.and_one_is_mod]
    simp only [pd2]
    have : y % 2 ^ 2 % 2 = y % 2 := by omega
    rw [this]
    show 4 * pd2 j (y / 4) + y % 2 = _
    omega
theorem pa4 : ∀ j y : Nat, y &&& pm4 j = pd4 j y := by
  intro j
  induction j with
  | zero => intro y; exact Nat.and_zero y
  | succ j ih =>
    intro y
    rw [and_split 4 y (pm4 (j + 1))]
    have e1 : pm4 (j + 1) / 2 ^ 4 = pm4 j := by simp only [pm4]; omega
    have e2 : pm4 (j + 1) % 2 ^ 4 = 2 ^ 2 - 1 := by simp only [pm4]; omega
    rw [e1, e2, ih, Nat.and_two_pow_sub_one_eq_mod]
    simp only [pd4]
    have : y % 2 ^ 4 % 2 ^ 2 = y % 4 := by omega
    rw [this]
    show 16 * pd4 j (y / 16) + y % 4 = _
    omega
theorem pa8 : ∀ j y : Nat, y &&& pm8 j = pd8 j y := by
  intro j
  induction j with
  | zero => intro y; exact Nat.and_zero y
  | succ j ih =>
    intro y
    rw [and_split 8 y (pm8 (j + 1))]
    have e1 : pm8 (j + 1) / 2 ^ 8 = pm8 j := by simp only [pm8]; omega
    have e2 : pm8 (j + 1) % 2 ^ 8 = 2 ^ 4 - 1 := by simp only [pm8]; omega
    rw [e1, e2, ih, Nat.and_two_pow_sub_one_eq_mod]
    simp only [pd8]
    have : y % 2 ^ 8 % 2 ^ 4 = y % 16 := by omega
    rw [this]
    show 256 * pd8 j (y / 256) + y % 16 = _
    omega
def pc2 (x : Nat) : Nat := x % 4 - x % 4 / 2
def pc4 (x : Nat) : Nat := pc2 x + pc2 (x / 4)
def pc8 (x : Nat) : Nat := pc4 x + pc4 (x / 16)
theorem pc2_le (x : Nat) : pc2 x ≤ 2 := by unfold pc2; omega
theorem pc4_le (x : Nat) : pc4 x ≤ 4 := by
  have h1 := pc2_le x
  have h2 := pc2_le (x / 4)
  unfold pc4; omega
theorem pc8_le (x : Nat) : pc8 x ≤ 8 := by
  have h1 := pc4_le x
  have h2 := pc4_le (x / 16)
  unfold pc8; omega
def py1 : Nat → Nat → Nat
  | 0, _ => 0
  | j + 1, x => pc2 x + 4 * py1 j (x / 4)
def py2 : Nat → Nat → Nat
  | 0, _ => 0
  | j + 1, x => pc4 x + 16 * py2 j (x / 16)
def py3 : Nat → Nat → Nat
  | 0, _ => 0
  | j + 1, x => pc8 x + 256 * py3 j (x / 256)
theorem ps1 : ∀ j x : Nat, x < 4 ^ j → pd2 j (x / 2) + py1 j x = x := by
  intro j
  induction j with
  | zero => intro x h; simp at h; rw [h]; rfl
  | succ j ih =>
    intro x h
    have i := ih (x / 4) (by rw [Nat.pow_succ] at h; omega)
    simp only [pd2, py1, pc2]
    have e : x / 2 / 4 = x / 4 / 2 := by omega
    rw [e]
    omega
theorem ps2 : ∀ j x : Nat, pd4 j (py1 (2 * j) x) + pd4 j (py1 (2 * j) x / 4) = py2 j x := by
  intro j
  induction j with
  | zero => intro x; rfl
  | succ j ih =>
    intro x
    have i := ih (x / 16)
    have e1 : py1 (2 * (j + 1)) x = pc2 x + 4 * (pc2 (x / 4) + 4 * py1 (2 * j) (x / 16)) := by
      show pc2 x + 4 * (pc2 (x / 4) + 4 * py1 (2 * j) (x / 4 / 4)) = _
      rw [Nat.div_div_eq_div_mul]
    have h1 := pc2_le x
    have h2 := pc2_le (x / 4)
    rw [e1]
    generalize py1 (2 * j) (x / 16) = R at i ⊢
    simp only [pd4, py2, pc4]
    have a1 : (pc2 x + 4 * (pc2 (x / 4) + 4 * R)) % 4 = pc2 x := by omega
    have a2 : (pc2 x + 4 * (pc2 (x / 4) + 4 * R)) / 16 = R := by omega
    have a3 : (pc2 x + 4 * (pc2 (x / 4) + 4 * R)) / 4 % 4 = pc2 (x / 4) := by omega
    have a4 : (pc2 x + 4 * (pc2 (x / 4) + 4 * R)) / 4 / 16 = R / 4 := by omega
    rw [a1, a2, a3, a4]
    omega
theorem ps3 : ∀ j x : Nat, pd8 j (py2 (2 * j) x + py2 (2 * j) x / 16) = py3 j x ∧ py2 (2 * j) x % 16 ≤ 4 := by
  intro j
  induction j with
  | zero => intro x; exact ⟨rfl, Nat.zero_le 4⟩
  | succ j ih =>
    intro x
    obtain ⟨i, i2⟩ := ih (x / 256)
    have e1 : py2 (2 * (j + 1)) x = pc4 x + 16 * (pc4 (x / 16) + 16 * py2 (2 * j) (x / 256)) := by
      show pc4 x + 16 * (pc4 (x / 16) + 16 * py2 (2 * j) (x / 16 / 16)) = _
      rw [Nat.div_div_eq_div_mul]
    have h1 := pc4_le x
    have h2 := pc4_le (x / 16)
    rw [e1]
    generalize py2 (2 * j) (x / 256) = R at i i2 ⊢
    simp only [pd8, py3, pc8]
    have a1 : (pc4 x + 16 * (pc4 (x / 16) + 16 * R) + (pc4 x + 16 * (pc4 (x / 16) + 16 * R)) / 16) % 16 = pc4 x + pc4 (x / 16) := by omega
    have a2 : (pc4 x + 16 * (pc4 (x / 16) + 16 * R) + (pc4 x + 16 * (pc4 (x / 16) + 16 * R)) / 16) / 256 = R + R / 16 := by omega
    rw [a1, a2, i]
    refine ⟨rfl, by omega⟩
theorem pz3 : ∀ j : Nat, py3 j 0 = 0 := by
  intro j
  induction j with
  | zero => rfl
  | succ j ih => simp only [py3]; rw [Nat.zero_div, ih]; rfl
theorem pb3 : ∀ j x : Nat, py1 j x ≤ x := by
  intro j
  induction j with
  | zero => intro x; exact Nat.zero_le x
  | succ j ih =>
    intro x
    have := ih (x / 4)
    simp only [py1, pc2]
    omega
theorem pb4 : ∀ j x : Nat, py2 j x ≤ x := by
  intro j
  induction j with
  | zero => intro x; exact Nat.zero_le x
  | succ j ih =>
    intro x
    have := ih (x / 16)
    have h1 : pc2 x ≤ x % 4 := by unfold pc2; omega
    have h2 : pc2 (x / 4) ≤ x / 4 % 4 := by unfold pc2; omega
    simp only [py2, pc4]
    omega
/-- so many bits -/
def bts (m : Nat) (n : Nat) : Int := qb_sum (fun kz => if m.testBit kz.toNat = true then 1 else 0) n
theorem pc2_is (y : Nat) : pc2 y = y % 2 + y / 2 % 2 := by unfold pc2; omega
theorem pc8_is (y : Nat) : pc8 y = y / 1 % 2 + (y / 2 % 2 + (y / 4 % 2 + (y / 8 % 2 + (y / 16 % 2 + (y / 32 % 2 + (y / 64 % 2 + y / 128 % 2)))))) := by
  simp only [pc8, pc4, pc2_is, Nat.div_div_eq_div_mul, Nat.reduceMul, Nat.div_one, Nat.add_assoc]
theorem bts_at (x kz : Nat) : (if x.testBit ((kz : Int)).toNat = true then (1 : Int) else 0) = ((x / 2 ^ kz % 2 : Nat) : Int) := by
  rw [Int.toNat_natCast, Nat.testBit_eq_decide_div_mod_eq]
  by_cases c : x / 2 ^ kz % 2 = 1
  · rw [if_pos (decide_eq_true c), c]; rfl
  · rw [if_neg (fun z => c (of_decide_eq_true z))]
    have : x / 2 ^ kz % 2 = 0 := by omega
    rw [this]; rfl
theorem bts_8 (x n : Nat) : bts x (n + 8) = bts x n + ((pc8 (x / 2 ^ n) : Nat) : Int) := by
  have e : ∀ kz : Nat, x / 2 ^ n / 2 ^ kz % 2 = x / 2 ^ (n + kz) % 2 := fun kz => by rw [Nat.div_div_eq_div_mul, Nat.pow_add]
  have e0 := e 0
  have e1 := e 1
  have e2 := e 2
  have e3 := e 3
  have e4 := e 4
  have e5 := e 5
  have e6 := e 6
  have e7 := e 7
  simp only [Nat.reducePow] at e0 e1 e2 e3 e4 e5 e6 e7
  rw [pc8_is, e0, e1, e2, e3, e4, e5, e6, e7]
  have f : ∀ kz : Nat, bts x (kz + 1) = bts x kz + ((x / 2 ^ kz % 2 : Nat) : Int) := fun kz => by
    show bts x kz + (if x.testBit ((kz : Int)).toNat = true then (1 : Int) else 0) = _
    rw [bts_at]
  rw [f (n + 7), f (n + 6), f (n + 5), f (n + 4), f (n + 3), f (n + 2), f (n + 1), f n]
  generalize x / 2 ^ (n + 7) % 2 = c7
  generalize x / 2 ^ (n + 6) % 2 = c6
  generalize x / 2 ^ (n + 5) % 2 = c5
  generalize x / 2 ^ (n + 4) % 2 = c4
  generalize x / 2 ^ (n + 3) % 2 = c3
  generalize x / 2 ^ (n + 2) % 2 = c2
  generalize x / 2 ^ (n + 1) % 2 = c1
  rw [Nat.add_zero]
  generalize x / 2 ^ n % 2 = c0
  omega
theorem bts_pc (x : Nat) : bts x 24 = ((pc8 x + pc8 (x / 256) + pc8 (x / 65536) : Nat) : Int) := by
  have h0 := bts_8 x 0
  have h1 := bts_8 x 8
  have h2 := bts_8 x 16
  simp only [Nat.reducePow, Nat.div_one, Nat.reduceAdd, Nat.zero_add] at h0 h1 h2
  have hz : bts x 0 = 0 := rfl
  omega
theorem bitCount_is {x : Nat} (hx : x < 16777216) : g_int_bitCount x ∧ v_int_bitCount x = bts x 24 := by
  have m2 : (1431655765 : Int) = ((pm2 16 : Nat) : Int) := by decide
  have m4 : (858993459 : Int) = ((pm4 8 : Nat) : Int) := by decide
  have m8 : (252645135 : Int) = ((pm8 4 : Nat) : Int) := by decide
  have l2 : pm2 16 < 2147483648 := by decide
  have l4 : pm4 8 < 2147483648 := by decide
  have l8 : pm8 4 < 2147483648 := by decide
  have s1 := ps1 16 x (Nat.lt_of_lt_of_le hx (by decide))
  have b1 := pb3 16 x
  have b2 := pb4 8 x
  have s2 := ps2 8 x
  have s3 := (ps3 4 x).1
  have q1 : (x : Int) - qb_and (qb_ushr x 1) 1431655765 = ((py1 16 x : Nat) : Int) := by
    rw [bt_u1 (by omega), m2, bt_and (by omega) l2, pa2]
    omega
  have q2 : qb_and ((py1 16 x : Nat) : Int) 858993459 + qb_and (qb_ushr ((py1 16 x : Nat) : Int) 2) 858993459 = ((py2 8 x : Nat) : Int) := by
    rw [bt_u2 (by omega), m4, bt_and (by omega) l4, bt_and (by omega) l4, pa4, pa4]
    have : pd4 8 (py1 16 x) + pd4 8 (py1 16 x / 4) = py2 8 x := s2
    omega
  have q3 : qb_and (((py2 8 x : Nat) : Int) + qb_ushr ((py2 8 x : Nat) : Int) 4) 252645135 = ((py3 4 x : Nat) : Int) := by
    rw [bt_u4 (by omega), m8, ← Int.natCast_add, bt_and (by omega) l8, pa8]
    exact congrArg Int.ofNat s3
  have e3 : py3 4 x = pc8 x + 256 * pc8 (x / 256) + 65536 * pc8 (x / 65536) := by
    show pc8 x + 256 * (pc8 (x / 256) + 256 * (pc8 (x / 256 / 256) + 256 * py3 1 (x / 256 / 256 / 256))) = _
    have z : x / 256 / 256 / 256 = 0 := by omega
    have z2 : x / 256 / 256 = x / 65536 := by omega
    rw [z, z2, pz3]
    omega
  have p0 := pc8_le x
  have p1 := pc8_le (x / 256)
  have p2 := pc8_le (x / 65536)
  have hb := bts_pc x
  generalize pc8 x = r0 at *
  generalize pc8 (x / 256) = r1 at *
  generalize pc8 (x / 65536) = r2 at *
  obtain ⟨Y, hY⟩ : ∃ Y : Nat, Y = py3 4 x := ⟨_, rfl⟩
  rw [← hY] at q3 e3
  have q4 : (Y : Int) + qb_ushr (Y : Int) 8 = ((Y + Y / 256 : Nat) : Int) := by
    rw [bt_u8 (by omega)]; omega
  have q5 : ((Y + Y / 256 : Nat) : Int) + qb_ushr ((Y + Y / 256 : Nat) : Int) 16 = ((Y + Y / 256 + (Y + Y / 256) / 65536 : Nat) : Int) := by
    rw [bt_u16 (by omega)]; omega
  have q6 : qb_and ((Y + Y / 256 + (Y + Y / 256) / 65536 : Nat) : Int) 63 = bts x 24 := by
    have := bt_and (a := Y + Y / 256 + (Y + Y / 256) / 65536) (b := 63) (by omega) (by decide)
    rw [show ((63 : Nat) : Int) = 63 from rfl] at this
    rw [this, hb, show (63 : Nat) = 2 ^ 6 - 1 from rfl, Nat.and_two_pow_sub_one_eq_mod]
    have i1 : Y / 256 = r1 + 256 * r2 := by omega
    have i2 : (Y + Y / 256) / 65536 = r2 := by omega
    have : (Y + Y / 256 + (Y + Y / 256) / 65536) % 2 ^ 6 = r0 + r1 + r2 := by
      rw [i2, i1, e3]; omega
    rw [this]
  unfold g_int_bitCount v_int_bitCount
  rw [q1, q2, q3, q4, q5, q6]
  refine ⟨⟨by unfold qb_in; omega, by unfold qb_in; omega, ?_, by unfold qb_in; omega, by unfold qb_in; omega⟩, rfl⟩
  rw [bt_u4 (by omega)]
  unfold qb_in; omega
theorem nand_is {a r : Nat} (ha : a < 2147483648) (hr : r < 2147483648) : ∃ z : Nat, qb_and a (qb_xor r (-1)) = z ∧ z < 2147483648 ∧ ∀ kz : Nat, z.testBit kz = (a.testBit kz && !r.testBit kz) := by
  have hm1 : (Int32.ofInt (-1)).toBitVec = BitVec.allOnes 32 := by decide
  have hx : (Int32.ofInt (qb_xor r (-1))).toBitVec = ~~~ (BitVec.ofNat 32 r) := by
    unfold qb_xor
    rw [Int32.ofInt_toInt, Int32.toBitVec_xor, hm1, bt_of, BitVec.xor_allOnes]
  have hv : (Int32.ofInt (a : Int) &&& Int32.ofInt (qb_xor r (-1))).toBitVec = BitVec.ofNat 32 a &&& ~~~ (BitVec.ofNat 32 r) := by
    rw [Int32.toBitVec_and, hx, bt_of]
  have hbit : ∀ kz : Nat, (BitVec.ofNat 32 a &&& ~~~ (BitVec.ofNat 32 r)).toNat.testBit kz = (a.testBit kz && !r.testBit kz) := by
    intro kz
    rw [BitVec.testBit_toNat, BitVec.getLsbD_and, BitVec.getLsbD_not, BitVec.getLsbD_ofNat, BitVec.getLsbD_ofNat]
    by_cases c : kz < 32
    · simp [c]
    · have : a.testBit kz = false := Nat.testBit_lt_two_pow (Nat.lt_of_lt_of_le ha (by
        have : (2 : Nat) ^ 31 ≤ 2 ^ kz := Nat.pow_le_pow_right (by decide) (by omega)
        exact this))
      simp [c, this]
  have hle : (BitVec.ofNat 32 a &&& ~~~ (BitVec.ofNat 32 r)).toNat ≤ a := by
    rw [BitVec.toNat_and]
    refine Nat.le_trans Nat.and_le_left ?_
    rw [BitVec.toNat_ofNat]
    exact Nat.mod_le _ _
  refine ⟨(BitVec.ofNat 32 a &&& ~~~ (BitVec.ofNat 32 r)).toNat, ?_, by omega, hbit⟩
  unfold qb_and
  show (Int32.ofInt (a : Int) &&& Int32.ofInt (qb_xor r (-1))).toBitVec.toInt = _
  rw [hv, bt_to (by omega)]
