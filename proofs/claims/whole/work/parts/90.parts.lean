/-! ===== the parts of some bits ===== -/
def nxN : Nat → Nat → Nat → Nat
  | 0, _, _ => 0
  | n + 1, x, t => if t % 2 = 0 then 2 * nxN n (x / 2) (t / 2) else if x % 2 = 0 then x + 1 else 2 * nxN n (x / 2) (t / 2)
def rkN : Nat → Nat → Nat → Nat
  | 0, _, _ => 0
  | n + 1, x, t => if t % 2 = 0 then rkN n (x / 2) (t / 2) else x % 2 + 2 * rkN n (x / 2) (t / 2)
def pcN : Nat → Nat → Nat
  | 0, _ => 0
  | n + 1, x => x % 2 + pcN n (x / 2)
def suN : Nat → Nat → Nat → Prop
  | 0, x, t => x = 0 ∧ t = 0
  | n + 1, x, t => x % 2 ≤ t % 2 ∧ suN n (x / 2) (t / 2)
theorem su_refl : ∀ (n t : Nat), t < 2 ^ n → suN n t t := by
  intro n
  induction n with
  | zero => intro t h; exact ⟨by omega, by omega⟩
  | succ n ih => intro t h; exact ⟨Nat.le_refl _, ih _ (by omega)⟩
theorem su_0 : ∀ (n t : Nat), t < 2 ^ n → suN n 0 t := by
  intro n
  induction n with
  | zero => intro t h; exact ⟨rfl, by omega⟩
  | succ n ih => intro t h; exact ⟨Nat.zero_le _, ih _ (by omega)⟩
theorem su_le : ∀ (n x t : Nat), suN n x t → x ≤ t := by
  intro n
  induction n with
  | zero => intro x t h; have := h.1; omega
  | succ n ih => intro x t h; have := ih _ _ h.2; have := h.1; omega
theorem su_bit : ∀ (n x t b : Nat), suN n x t → x.testBit b = true → t.testBit b = true := by
  intro n
  induction n with
  | zero => intro x t b h g; rw [h.1, Nat.zero_testBit] at g; exact absurd g (by decide)
  | succ n ih =>
    intro x t b h g
    cases b with
    | zero =>
      rw [Nat.testBit_zero, decide_eq_true_iff] at g ⊢
      have := h.1
      omega
    | succ b =>
      rw [Nat.testBit_succ] at g ⊢
      exact ih _ _ b h.2 g
theorem nx_su : ∀ (n x t : Nat), suN n x t → suN n (nxN n x t) t := by
  intro n
  induction n with
  | zero => intro x t h; exact ⟨rfl, h.2⟩
  | succ n ih =>
    intro x t h
    have h1 := h.1
    have h2 := ih _ _ h.2
    show (nxN (n + 1) x t) % 2 ≤ t % 2 ∧ suN n (nxN (n + 1) x t / 2) (t / 2)
    unfold nxN
    by_cases c : t % 2 = 0
    · rw [if_pos c]
      exact ⟨by omega, by rw [Nat.mul_div_cancel_left _ (by decide)]; exact h2⟩
    · rw [if_neg c]
      by_cases d : x % 2 = 0
      · rw [if_pos d]
        exact ⟨by omega, by rw [show (x + 1) / 2 = x / 2 by omega]; exact h.2⟩
      · rw [if_neg d]
        exact ⟨by omega, by rw [Nat.mul_div_cancel_left _ (by decide)]; exact h2⟩
theorem rk_nx : ∀ (n x t : Nat), suN n x t → rkN n (nxN n x t) t = if x = t then 0 else rkN n x t + 1 := by
  intro n
  induction n with
  | zero => intro x t h; rw [if_pos (h.1.trans h.2.symm)]; rfl
  | succ n ih =>
    intro x t h
    have h1 := h.1
    have h2 := ih _ _ h.2
    have e : ∀ y, rkN (n + 1) y t = if t % 2 = 0 then rkN n (y / 2) (t / 2) else y % 2 + 2 * rkN n (y / 2) (t / 2) := fun _ => rfl
    rw [e, e]
    unfold nxN
    by_cases c : t % 2 = 0
    · rw [if_pos c, if_pos c, if_pos c, Nat.mul_div_cancel_left _ (by decide), h2]
      by_cases z : x = t
      · rw [if_pos z, if_pos (by rw [z])]
      · rw [if_neg z, if_neg (by omega)]
    · rw [if_neg c, if_neg c, if_neg c]
      by_cases d : x % 2 = 0
      · rw [if_pos d, if_neg (by omega), show (x + 1) / 2 = x / 2 by omega]
        omega
      · rw [if_neg d, Nat.mul_div_cancel_left _ (by decide), h2]
        by_cases z : x = t
        · rw [if_pos z, if_pos (by rw [z])]
          omega
        · rw [if_neg z, if_neg (by omega)]
          omega
theorem rk_t : ∀ (n t : Nat), t < 2 ^ n → rkN n t t + 1 = 2 ^ pcN n t := by
  intro n
  induction n with
  | zero => intro t _; rfl
  | succ n ih =>
    intro t h
    have h2 := ih (t / 2) (by omega)
    unfold rkN pcN
    by_cases c : t % 2 = 0
    · rw [if_pos c, c, Nat.zero_add]
      exact h2
    · rw [if_neg c, show t % 2 = 1 by omega, Nat.add_comm 1 (pcN n (t / 2)), Nat.pow_succ]
      omega
theorem rk_lt : ∀ (n x t : Nat), suN n x t → rkN n x t < 2 ^ pcN n t := by
  intro n
  induction n with
  | zero => intro x t _; exact Nat.one_pos
  | succ n ih =>
    intro x t h
    have h2 := ih _ _ h.2
    unfold rkN pcN
    by_cases c : t % 2 = 0
    · rw [if_pos c, c, Nat.zero_add]
      exact h2
    · rw [if_neg c, show t % 2 = 1 by omega, Nat.add_comm 1 (pcN n (t / 2)), Nat.pow_succ]
      omega
theorem rk_inj : ∀ (n x y t : Nat), suN n x t → suN n y t → rkN n x t = rkN n y t → x = y := by
  intro n
  induction n with
  | zero => intro x y t h g _; exact h.1.trans g.1.symm
  | succ n ih =>
    intro x y t h g e
    have h1 := h.1
    have g1 := g.1
    unfold rkN at e
    by_cases c : t % 2 = 0
    · rw [if_pos c, if_pos c] at e
      have := ih _ _ _ h.2 g.2 e
      omega
    · rw [if_neg c, if_neg c] at e
      have := ih _ _ _ h.2 g.2 (by omega)
      omega
theorem rk_0 : ∀ (n t : Nat), rkN n 0 t = 0 := by
  intro n
  induction n with
  | zero => intro t; rfl
  | succ n ih =>
    intro t
    unfold rkN
    rw [Nat.zero_div, ih]
    split <;> rfl
theorem pc_le : ∀ (n x t : Nat), suN n x t → pcN n x ≤ pcN n t ∧ (pcN n x = pcN n t → x = t) := by
  intro n
  induction n with
  | zero => intro x t h; exact ⟨Nat.le_refl _, fun _ => h.1.trans h.2.symm⟩
  | succ n ih =>
    intro x t h
    have h1 := h.1
    obtain ⟨a, b⟩ := ih _ _ h.2
    unfold pcN
    refine ⟨by omega, fun e => ?_⟩
    have := b (by omega)
    omega
theorem an_2 (a b : Nat) : a &&& b = 2 * (a / 2 &&& b / 2) + (if a % 2 = 1 ∧ b % 2 = 1 then 1 else 0) := by
  have h1 : (a &&& b) / 2 = a / 2 &&& b / 2 := Nat.and_div_two
  have h2 : (a &&& b) % 2 = 1 ↔ a % 2 = 1 ∧ b % 2 = 1 := Nat.and_mod_two_eq_one
  rw [← h1]
  by_cases c : a % 2 = 1 ∧ b % 2 = 1
  · rw [if_pos c]
    have := h2.mpr c
    omega
  · rw [if_neg c]
    have : ¬ (a &&& b) % 2 = 1 := fun q => c (h2.mp q)
    omega
theorem an_c : ∀ (n x t M : Nat), suN n x t → t < 2 ^ n → 1 ≤ M → (x + (M * 2 ^ n - 1 - t)) &&& t = x := by
  intro n
  induction n with
  | zero =>
    intro x t M h _ _
    rw [h.1, h.2]
    exact Nat.and_zero _
  | succ n ih =>
    intro x t M h ht hM
    have h1 := h.1
    have h2 := ih _ _ M h.2 (by omega) hM
    have hp : M * 2 ^ (n + 1) = 2 * (M * 2 ^ n) := by rw [Nat.pow_succ, ← Nat.mul_assoc, Nat.mul_comm]
    have hP : 2 ^ n ≤ M * 2 ^ n := Nat.le_mul_of_pos_left _ hM
    rw [an_2, hp]
    rw [show (x + (2 * (M * 2 ^ n) - 1 - t)) / 2 = x / 2 + (M * 2 ^ n - 1 - t / 2) by omega, h2]
    by_cases c : x % 2 = 0
    · rw [if_neg (by omega)]; omega
    · rw [if_pos (by omega)]; omega
theorem an_nx : ∀ (n x t M : Nat), suN n x t → t < 2 ^ n → 1 ≤ M → (x + M * 2 ^ n - t) &&& t = nxN n x t := by
  intro n
  induction n with
  | zero =>
    intro x t M h _ _
    rw [h.2]
    exact Nat.and_zero _
  | succ n ih =>
    intro x t M h ht hM
    have h1 := h.1
    have h2 := ih _ _ M h.2 (by omega) hM
    have hc := an_c n _ _ M h.2 (by omega) hM
    have hp : M * 2 ^ (n + 1) = 2 * (M * 2 ^ n) := by rw [Nat.pow_succ, ← Nat.mul_assoc, Nat.mul_comm]
    have hP : 2 ^ n ≤ M * 2 ^ n := Nat.le_mul_of_pos_left _ hM
    rw [an_2, hp]
    unfold nxN
    by_cases c : t % 2 = 0
    · rw [if_pos c, if_neg (by omega), show (x + 2 * (M * 2 ^ n) - t) / 2 = x / 2 + M * 2 ^ n - t / 2 by omega, h2]; rfl
    · rw [if_neg c]
      by_cases d : x % 2 = 0
      · rw [if_pos d, if_pos (by omega), show (x + 2 * (M * 2 ^ n) - t) / 2 = x / 2 + (M * 2 ^ n - 1 - t / 2) by omega, hc]; omega
      · rw [if_neg d, if_neg (by omega), show (x + 2 * (M * 2 ^ n) - t) / 2 = x / 2 + M * 2 ^ n - t / 2 by omega, h2]; rfl
/-- the count of bits, by halves -/
def cwN (x : Nat) : Nat :=
  let x1 := x - (x / 2 &&& 1431655765)
  let x2 := (x1 &&& 858993459) + (x1 / 4 &&& 858993459)
  let x3 := (x2 + x2 / 16) &&& 252645135
  let x4 := x3 + x3 / 256
  let x5 := x4 + x4 / 65536
  x5 &&& 63
def ckN : Nat → Nat → Bool
  | 0, _ => true
  | n + 1, a => Nat.beq (cwN (256 * a + n)) (cwN a + cwN n) && ckN n a
theorem ck_0 : ∀ a : Nat, a < 64 → ckN 256 a = true := by decide +kernel
theorem ck_1 : ∀ a : Nat, a < 64 → ckN 256 (a + 64) = true := by decide +kernel
theorem ck_2 : ∀ a : Nat, a < 64 → ckN 256 (a + 128) = true := by decide +kernel
theorem ck_3 : ∀ a : Nat, a < 64 → ckN 256 (a + 192) = true := by decide +kernel
theorem ck_b : ∀ a : Nat, a < 256 → cwN a = pcN 8 a ∧ pcN 10 a = pcN 8 a := by decide +kernel
theorem ck_at {a : Nat} : ∀ n b : Nat, ckN n a = true → b < n → cwN (256 * a + b) = cwN a + cwN b := by
  intro n
  induction n with
  | zero => intro b _ h; exact absurd h (Nat.not_lt_zero _)
  | succ n ih =>
    intro b h hb
    unfold ckN at h
    rw [Bool.and_eq_true] at h
    by_cases c : b = n
    · rw [c]; exact Nat.eq_of_beq_eq_true h.1
    · exact ih b h.2 (by omega)
theorem pc_add : ∀ k n x : Nat, pcN (k + n) x = pcN k (x % 2 ^ k) + pcN n (x / 2 ^ k) := by
  intro k
  induction k with
  | zero => intro n x; rw [Nat.zero_add, Nat.pow_zero, Nat.div_one]; show _ = 0 + _; omega
  | succ k ih =>
    intro n x
    have e := ih n (x / 2)
    rw [show k + 1 + n = (k + n) + 1 by omega]
    show x % 2 + pcN (k + n) (x / 2) = (x % 2 ^ (k + 1) % 2 + pcN k (x % 2 ^ (k + 1) / 2)) + pcN n (x / 2 ^ (k + 1))
    rw [e, Nat.div_div_eq_div_mul, show 2 * 2 ^ k = 2 ^ (k + 1) by rw [Nat.pow_succ]; omega]
    have h1 : x % 2 ^ (k + 1) % 2 = x % 2 := Nat.mod_mod_of_dvd _ ⟨2 ^ k, by rw [Nat.pow_succ]; omega⟩
    have h2 : x % 2 ^ (k + 1) / 2 = x / 2 % 2 ^ k := by
      rw [Nat.pow_succ, Nat.mul_comm, Nat.mod_mul_right_div_self]
    rw [h1, h2]
    omega
theorem cw_pc {x : Nat} (h : x < 65536) : cwN x = pcN 18 x := by
  have hx : 256 * (x / 256) + x % 256 = x := Nat.div_add_mod x 256
  have ha : x / 256 < 256 := by omega
  have hck : ckN 256 (x / 256) = true := by
    by_cases c0 : x / 256 < 64
    · exact ck_0 _ c0
    · by_cases c1 : x / 256 < 128
      · have := ck_1 (x / 256 - 64) (by omega)
        rwa [show x / 256 - 64 + 64 = x / 256 by omega] at this
      · by_cases c2 : x / 256 < 192
        · have := ck_2 (x / 256 - 128) (by omega)
          rwa [show x / 256 - 128 + 128 = x / 256 by omega] at this
        · have := ck_3 (x / 256 - 192) (by omega)
          rwa [show x / 256 - 192 + 192 = x / 256 by omega] at this
  have e := ck_at 256 (x % 256) hck (by omega)
  rw [hx] at e
  have p := pc_add 8 10 x
  have b1 := ck_b _ ha
  have b2 := ck_b (x % 256) (by omega)
  rw [e, b1.1, b2.1, show (18 : Nat) = 8 + 10 from rfl, p, show (2 : Nat) ^ 8 = 256 from rfl, b1.2]
  omega
theorem w_and (a b : Int32) : (a &&& b).toBitVec.toNat = a.toBitVec.toNat &&& b.toBitVec.toNat := BitVec.toNat_and _ _
theorem w_add {a b : Int32} (h : a.toBitVec.toNat + b.toBitVec.toNat < 4294967296) : (a + b).toBitVec.toNat = a.toBitVec.toNat + b.toBitVec.toNat := by
  show (a.toBitVec + b.toBitVec).toNat = _
  rw [BitVec.toNat_add, Nat.mod_eq_of_lt h]
theorem w_sub {a b : Int32} (h : b.toBitVec.toNat ≤ a.toBitVec.toNat) : (a - b).toBitVec.toNat = a.toBitVec.toNat - b.toBitVec.toNat := by
  show (a.toBitVec - b.toBitVec).toNat = _
  exact BitVec.toNat_sub_of_le h
theorem w_shr {y s : Int32} {k : Nat} (hs : (Int32.toUInt32 s &&& Int32.toUInt32 31).toNat = k) (hk : k < 32) : (((Int32.toUInt32 y) >>> ((Int32.toUInt32 s) &&& Int32.toUInt32 31)).toInt32).toBitVec.toNat = y.toBitVec.toNat / 2 ^ k := by
  show ((Int32.toUInt32 y) >>> ((Int32.toUInt32 s) &&& Int32.toUInt32 31)).toNat = _
  rw [UInt32.toNat_shiftRight, hs, Nat.mod_eq_of_lt hk, Nat.shiftRight_eq_div_pow]
  rfl
theorem ibCw_n {p : Int32} {n : Nat} (h : p.toBitVec.toNat = n) (hn : n < 65536) : (ibCw p).toBitVec.toNat = cwN n := by
  have m5 : (1431655765 : Int32).toBitVec.toNat = 1431655765 := by decide
  have m3 : (858993459 : Int32).toBitVec.toNat = 858993459 := by decide
  have mF : (252645135 : Int32).toBitVec.toNat = 252645135 := by decide
  have m6 : (63 : Int32).toBitVec.toNat = 63 := by decide
  have s1 := fun y : Int32 => w_shr (y := y) (s := 1) (k := 1) (by decide) (by decide)
  have s2 := fun y : Int32 => w_shr (y := y) (s := 2) (k := 2) (by decide) (by decide)
  have s4 := fun y : Int32 => w_shr (y := y) (s := 4) (k := 4) (by decide) (by decide)
  have s8 := fun y : Int32 => w_shr (y := y) (s := 8) (k := 8) (by decide) (by decide)
  have s16 := fun y : Int32 => w_shr (y := y) (s := 16) (k := 16) (by decide) (by decide)
  unfold ibCw cwN
  dsimp only
  have a1 : n / 2 &&& 1431655765 ≤ n / 2 := Nat.and_le_left
  generalize e1 : p - ((((Int32.toUInt32 p) >>> ((Int32.toUInt32 1) &&& Int32.toUInt32 31)).toInt32) &&& 1431655765) = x1
  have f1 : x1.toBitVec.toNat = n - (n / 2 &&& 1431655765) := by
    rw [← e1, w_sub (by rw [w_and, s1, m5, h]; show n / 2 &&& 1431655765 ≤ n; omega), w_and, s1, m5, h]
  generalize g1 : n - (n / 2 &&& 1431655765) = y1 at f1 ⊢
  have h1 : y1 < 65536 := by omega
  have a2 : y1 &&& 858993459 ≤ y1 := Nat.and_le_left
  have a3 : y1 / 4 &&& 858993459 ≤ y1 / 4 := Nat.and_le_left
  generalize e2 : (x1 &&& 858993459) + ((((Int32.toUInt32 x1) >>> ((Int32.toUInt32 2) &&& Int32.toUInt32 31)).toInt32) &&& 858993459) = x2
  have f2 : x2.toBitVec.toNat = (y1 &&& 858993459) + (y1 / 4 &&& 858993459) := by
    have u1 : (x1 &&& 858993459).toBitVec.toNat = y1 &&& 858993459 := by rw [w_and, m3, f1]
    have u2 : ((((Int32.toUInt32 x1) >>> ((Int32.toUInt32 2) &&& Int32.toUInt32 31)).toInt32) &&& 858993459).toBitVec.toNat = y1 / 4 &&& 858993459 := by rw [w_and, m3, s2, f1]
    rw [← e2, w_add (by rw [u1, u2]; omega), u1, u2]
  generalize g2 : (y1 &&& 858993459) + (y1 / 4 &&& 858993459) = y2 at f2 ⊢
  have h2 : y2 < 131072 := by omega
  generalize e3 : (x2 + (((Int32.toUInt32 x2) >>> ((Int32.toUInt32 4) &&& Int32.toUInt32 31)).toInt32)) &&& 252645135 = x3
  have f3 : x3.toBitVec.toNat = (y2 + y2 / 16) &&& 252645135 := by
    have u2 : (((Int32.toUInt32 x2) >>> ((Int32.toUInt32 4) &&& Int32.toUInt32 31)).toInt32).toBitVec.toNat = y2 / 16 := by rw [s4, f2]
    rw [← e3, w_and, mF, w_add (by rw [u2, f2]; omega), u2, f2]
  have a4 : (y2 + y2 / 16) &&& 252645135 ≤ y2 + y2 / 16 := Nat.and_le_left
  generalize g3 : (y2 + y2 / 16) &&& 252645135 = y3 at f3 a4 ⊢
  generalize e4 : x3 + (((Int32.toUInt32 x3) >>> ((Int32.toUInt32 8) &&& Int32.toUInt32 31)).toInt32) = x4
  have f4 : x4.toBitVec.toNat = y3 + y3 / 256 := by
    have u2 : (((Int32.toUInt32 x3) >>> ((Int32.toUInt32 8) &&& Int32.toUInt32 31)).toInt32).toBitVec.toNat = y3 / 256 := by rw [s8, f3]
    rw [← e4, w_add (by rw [u2, f3]; omega), u2, f3]
  generalize g4 : y3 + y3 / 256 = y4 at f4 ⊢
  have u5 : (((Int32.toUInt32 x4) >>> ((Int32.toUInt32 16) &&& Int32.toUInt32 31)).toInt32).toBitVec.toNat = y4 / 65536 := by rw [s16, f4]
  rw [w_and, m6, w_add (by rw [u5, f4]; omega), u5, f4]
theorem cn_nat {n : Nat} (hn : n < 65536) : ibCnt (n : Int) = (pcN 18 n : Int) := by
  have e0 : (Int32.ofInt (n : Int)).toBitVec.toNat = n := by rw [ibn, BitVec.toNat_ofNat, Nat.mod_eq_of_lt (by omega)]
  have e1 := ibCw_n e0 hn
  have e2 : cwN n ≤ 63 := by unfold cwN; exact Nat.and_le_right
  show (ibCw (Int32.ofInt (n : Int))).toBitVec.toInt = _
  rw [ibz (by omega), e1, cw_pc hn]
