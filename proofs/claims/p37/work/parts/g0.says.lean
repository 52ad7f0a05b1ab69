/-! ===== letters packed by fours ===== -/
theorem i32_bv {x : Int} : (Int32.ofInt x).toBitVec = BitVec.ofInt 32 x := rfl
theorem bv_nat {x : Int} (h : 0 ≤ x ∧ x < 4294967296) : (BitVec.ofInt 32 x).toNat = x.toNat := by
  rw [BitVec.toNat_ofInt]
  omega
theorem i32_of_nat {a : Int32} {n : Nat} (h : a.toBitVec.toNat = n) (hn : n < 2147483648) : a.toInt = n := by
  show a.toBitVec.toInt = n
  rw [BitVec.toInt_eq_toNat_cond, if_pos (by omega), h]
theorem ybShl8 {x : Int} (h : 0 ≤ x ∧ x < 8388608) : ybShl x 8 = 256 * x := by
  unfold ybShl
  rw [show (Int32.ofInt 8 &&& 31) = 8 by decide]
  have e : (Int32.ofInt x <<< (8 : Int32)).toBitVec.toNat = x.toNat * 256 := by
    rw [Int32.toBitVec_shiftLeft, i32_bv, show (8 : Int32).toBitVec.smod 32 = 8#32 by decide]
    show (BitVec.ofInt 32 x <<< (8#32).toNat).toNat = _
    rw [BitVec.toNat_shiftLeft, bv_nat ⟨h.1, by omega⟩, Nat.shiftLeft_eq]
    show x.toNat * 256 % 4294967296 = _
    omega
  rw [i32_of_nat e (by omega)]
  omega
theorem ybPk {x c : Int} (h : 0 ≤ x ∧ x < 8388608) (hc : 0 ≤ c ∧ c ≤ 255) : ybOr (ybShl x 8) c = 256 * x + c := by
  rw [ybShl8 h]
  unfold ybOr
  have e : (Int32.ofInt (256 * x) ||| Int32.ofInt c).toBitVec.toNat = x.toNat * 256 + c.toNat := by
    rw [Int32.toBitVec_or, i32_bv, i32_bv, BitVec.toNat_or, bv_nat ⟨by omega, by omega⟩, bv_nat ⟨by omega, by omega⟩]
    have := Nat.shiftLeft_add_eq_or_of_lt (i := 8) (b := c.toNat) (by omega) x.toNat
    rw [Nat.shiftLeft_eq] at this
    rw [show (256 * x).toNat = x.toNat * 2 ^ 8 by omega, ← this]
  rw [i32_of_nat e (by omega)]
  omega
theorem ibShr_nn {p : Int} {s : Nat} (h : 0 ≤ p ∧ p < 2147483648) (hs : s < 32) : ibShr p (s : Int) = p / 2 ^ s := by
  unfold ibShr
  have e1 : ((Int32.ofInt (s : Int)).toBitVec.smod 32).toNat = s := by
    have : ∀ s : Nat, s < 32 → ((Int32.ofInt (s : Int)).toBitVec.smod 32).toNat = s := by decide +kernel
    exact this s hs
  have e : (Int32.ofInt p >>> Int32.ofInt (s : Int)).toBitVec.toNat = p.toNat / 2 ^ s := by
    rw [Int32.toBitVec_shiftRight]
    show ((BitVec.ofInt 32 p).sshiftRight ((Int32.ofInt (s : Int)).toBitVec.smod 32).toNat).toNat = _
    rw [e1, BitVec.sshiftRight_eq_of_msb_false, BitVec.toNat_ushiftRight, bv_nat ⟨h.1, by omega⟩, Nat.shiftRight_eq_div_pow]
    rw [BitVec.msb_eq_decide, bv_nat ⟨h.1, by omega⟩]
    simp
    omega
  have hd : p.toNat / 2 ^ s ≤ p.toNat := Nat.div_le_self _ _
  rw [i32_of_nat e (by omega)]
  obtain ⟨n, rfl⟩ := Int.eq_ofNat_of_zero_le h.1
  simp
theorem byV_nn {p : Int} {s : Nat} (h : 0 ≤ p ∧ p < 2147483648) (hs : s < 32) : byV p (s : Int) = p / 2 ^ s % 256 := by
  unfold byV
  have : ∀ s : Nat, s < 32 → ibAnd (s : Int) 31 = s := by decide +kernel
  rw [this s hs, ibShr_nn h hs]
/-- four letters in a number -/
def pk4 (a b c d : Int) : Int := 256 * (256 * (256 * a + b) + c) + d
theorem by_pk {a b c d : Int} (ha : 0 ≤ a ∧ a ≤ 127) (hb : 0 ≤ b ∧ b ≤ 127) (hc : 0 ≤ c ∧ c ≤ 127) (hd : 0 ≤ d ∧ d ≤ 127) : byV (pk4 a b c d) 24 = a ∧ byV (pk4 a b c d) 16 = b ∧ byV (pk4 a b c d) 8 = c ∧ byV (pk4 a b c d) 0 = d := by
  unfold pk4
  have h : 0 ≤ 256 * (256 * (256 * a + b) + c) + d ∧ 256 * (256 * (256 * a + b) + c) + d < 2147483648 := by omega
  refine ⟨?_, ?_, ?_, ?_⟩
  · rw [show (24 : Int) = ((24 : Nat) : Int) from rfl, byV_nn h (by decide)]; omega
  · rw [show (16 : Int) = ((16 : Nat) : Int) from rfl, byV_nn h (by decide)]; omega
  · rw [show (8 : Int) = ((8 : Nat) : Int) from rfl, byV_nn h (by decide)]; omega
  · rw [show (0 : Int) = ((0 : Nat) : Int) from rfl, byV_nn h (by decide)]; omega
