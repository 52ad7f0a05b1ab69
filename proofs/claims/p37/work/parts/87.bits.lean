/-! ===== bits ===== -/
theorem ibn (a : Nat) : (Int32.ofInt (a : Int)).toBitVec = BitVec.ofNat 32 a := BitVec.ofInt_natCast 32 a
theorem ibz {b : BitVec 32} (h : b.toNat < 2147483648) : b.toInt = (b.toNat : Int) := BitVec.toInt_eq_toNat_of_lt (by omega)
theorem ib_orN {a b : Nat} (ha : a < 2147483648) (hb : b < 2147483648) : ibOr a b = ((a ||| b : Nat) : Int) := by
  have e : ((Int32.ofInt (a : Int)).toBitVec ||| (Int32.ofInt (b : Int)).toBitVec).toNat = a ||| b := by
    rw [ibn, ibn, BitVec.toNat_or, BitVec.toNat_ofNat, BitVec.toNat_ofNat, Nat.mod_eq_of_lt (by omega), Nat.mod_eq_of_lt (by omega)]
  have hlt : a ||| b < 2147483648 := Nat.or_lt_two_pow (n := 31) ha hb
  show ((Int32.ofInt (a : Int)).toBitVec ||| (Int32.ofInt (b : Int)).toBitVec).toInt = _
  rw [ibz (by rw [e]; exact hlt), e]
theorem ib_andN {a b : Nat} (ha : a < 2147483648) (hb : b < 2147483648) : ibAnd a b = ((a &&& b : Nat) : Int) := by
  have e : ((Int32.ofInt (a : Int)).toBitVec &&& (Int32.ofInt (b : Int)).toBitVec).toNat = a &&& b := by
    rw [ibn, ibn, BitVec.toNat_and, BitVec.toNat_ofNat, BitVec.toNat_ofNat, Nat.mod_eq_of_lt (by omega), Nat.mod_eq_of_lt (by omega)]
  have hlt : a &&& b < 2147483648 := Nat.lt_of_le_of_lt Nat.and_le_left ha
  show ((Int32.ofInt (a : Int)).toBitVec &&& (Int32.ofInt (b : Int)).toBitVec).toInt = _
  rw [ibz (by rw [e]; exact hlt), e]
theorem ib_31 {i : Nat} (h : i < 32) : ibAnd i 31 = i := by
  have : ∀ n : Nat, n < 32 → ibAnd (n : Int) 31 = n := by decide +kernel
  exact this i h
theorem ib_shl {i : Nat} (h : i < 31) : ibShl 1 i = ((2 ^ i : Nat) : Int) := by
  have : ∀ n : Nat, n < 31 → ibShl 1 (n : Int) = ((2 ^ n : Nat) : Int) := by decide +kernel
  exact this i h
theorem ib_shrN {a i : Nat} (ha : a < 2147483648) (hi : i < 32) : ibShr a i = ((a / 2 ^ i : Nat) : Int) := by
  have h1 : ∀ n : Nat, n < 32 → ((Int32.ofInt (n : Int)).toBitVec.smod 32).toNat = n := by decide +kernel
  have e0 : (Int32.ofInt (a : Int)).toBitVec.toNat = a := by rw [ibn, BitVec.toNat_ofNat, Nat.mod_eq_of_lt (by omega)]
  have hm : (Int32.ofInt (a : Int)).toBitVec.msb = false := by
    rw [BitVec.msb_eq_decide, e0]
    exact decide_eq_false (by omega)
  have e : (BitVec.sshiftRight' (Int32.ofInt (a : Int)).toBitVec ((Int32.ofInt (i : Int)).toBitVec.smod 32)).toNat = a / 2 ^ i := by
    rw [BitVec.toNat_sshiftRight'_of_msb_false hm, e0, h1 i hi, Nat.shiftRight_eq_div_pow]
  have hlt : a / 2 ^ i < 2147483648 := Nat.lt_of_le_of_lt (Nat.div_le_self _ _) ha
  show (BitVec.sshiftRight' (Int32.ofInt (a : Int)).toBitVec ((Int32.ofInt (i : Int)).toBitVec.smod 32)).toInt = _
  rw [ibz (by rw [e]; exact hlt), e]
/-- a bit -/
def bt (x i : Int) : Bool := x.toNat.testBit i.toNat
theorem ib_test {x i : Int} (h0 : 0 ≤ x) (h1 : x < 2147483648) (i0 : 0 ≤ i) (i1 : i < 32) : ibAnd (ibShr x (ibAnd i 31)) 1 = if bt x i = true then 1 else 0 := by
  obtain ⟨a, rfl⟩ := Int.eq_ofNat_of_zero_le h0
  obtain ⟨j, rfl⟩ := Int.eq_ofNat_of_zero_le i0
  rw [ib_31 (by omega), ib_shrN (by omega) (by omega)]
  have hlt : a / 2 ^ j < 2147483648 := Nat.lt_of_le_of_lt (Nat.div_le_self _ _) (by omega)
  have e := ib_andN (a := a / 2 ^ j) (b := 1) hlt (by omega)
  rw [show ((1 : Nat) : Int) = 1 from rfl] at e
  rw [e, Nat.and_one_is_mod]
  unfold bt
  rw [Int.toNat_natCast, Int.toNat_natCast, Nat.testBit_eq_decide_div_mod_eq]
  have h2 : a / 2 ^ j % 2 = 0 ∨ a / 2 ^ j % 2 = 1 := by omega
  rcases h2 with q | q
  · rw [q]; rfl
  · rw [q]; rfl
theorem ib_bit {i : Int} (i0 : 0 ≤ i) (i1 : i < 31) : ibShl 1 (ibAnd i 31) = ((2 ^ i.toNat : Nat) : Int) := by
  obtain ⟨j, rfl⟩ := Int.eq_ofNat_of_zero_le i0
  rw [ib_31 (by omega), ib_shl (by omega), Int.toNat_natCast]
theorem ib_or {x y : Int} (h0 : 0 ≤ x) (h1 : x < 2147483648) (h2 : 0 ≤ y) (h3 : y < 2147483648) : ibOr x y = ((x.toNat ||| y.toNat : Nat) : Int) := by
  obtain ⟨a, rfl⟩ := Int.eq_ofNat_of_zero_le h0
  obtain ⟨b, rfl⟩ := Int.eq_ofNat_of_zero_le h2
  rw [ib_orN (by omega) (by omega), Int.toNat_natCast, Int.toNat_natCast]
theorem ib_and {x y : Int} (h0 : 0 ≤ x) (h1 : x < 2147483648) (h2 : 0 ≤ y) (h3 : y < 2147483648) : ibAnd x y = ((x.toNat &&& y.toNat : Nat) : Int) := by
  obtain ⟨a, rfl⟩ := Int.eq_ofNat_of_zero_le h0
  obtain ⟨b, rfl⟩ := Int.eq_ofNat_of_zero_le h2
  rw [ib_andN (by omega) (by omega), Int.toNat_natCast, Int.toNat_natCast]
/-- a bit set -/
theorem ib_set {x i : Int} {n : Nat} (hn : n ≤ 31) (h0 : 0 ≤ x) (h1 : x < ((2 ^ n : Nat) : Int)) (i0 : 0 ≤ i) (i1 : i < n) : (0 ≤ ibOr x (ibShl 1 (ibAnd i 31)) ∧ ibOr x (ibShl 1 (ibAnd i 31)) < ((2 ^ n : Nat) : Int)) ∧ ∀ j, 0 ≤ j → bt (ibOr x (ibShl 1 (ibAnd i 31))) j = (bt x j || decide (j = i)) := by
  obtain ⟨a, rfl⟩ := Int.eq_ofNat_of_zero_le h0
  obtain ⟨k, rfl⟩ := Int.eq_ofNat_of_zero_le i0
  have hp : (2 : Nat) ^ n ≤ 2 ^ 31 := Nat.pow_le_pow_right (by omega) hn
  have hk : (2 : Nat) ^ k < 2 ^ n := Nat.pow_lt_pow_right (by omega) (by omega)
  have ha : a < 2 ^ n := by exact Int.ofNat_lt.mp h1
  have h31 : (2 : Nat) ^ 31 = 2147483648 := rfl
  rw [ib_bit (by omega) (by omega), Int.toNat_natCast, ib_orN (by omega) (by omega)]
  have hor : a ||| 2 ^ k < 2 ^ n := Nat.or_lt_two_pow ha hk
  refine ⟨⟨by omega, Int.ofNat_lt.mpr hor⟩, fun j j0 => ?_⟩
  obtain ⟨m, rfl⟩ := Int.eq_ofNat_of_zero_le j0
  unfold bt
  rw [Int.toNat_natCast, Int.toNat_natCast, Int.toNat_natCast, Nat.testBit_or, Nat.testBit_two_pow]
  congr 1
  by_cases e : k = m
  · rw [decide_eq_true e, decide_eq_true (by omega)]
  · rw [decide_eq_false e, decide_eq_false (by omega)]
theorem bt_0 (j : Int) : bt 0 j = false := by
  unfold bt
  exact Nat.zero_testBit _
/-- how many bits below n -/
def bn (x n : Int) : Int := sI (fun i => if bt x i = true then 1 else 0) n
theorem bn_in {x n : Int} (h : 0 ≤ n) : 0 ≤ bn x n ∧ bn x n ≤ n := by
  have := sI_bound (f := fun i => if bt x i = true then 1 else 0) (n := n) (lo := 0) (hi := 1) (fun i _ _ => by (try dsimp only); split <;> omega) h
  unfold bn
  omega
