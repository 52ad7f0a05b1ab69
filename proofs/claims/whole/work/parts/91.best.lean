/-! ===== the parts of some bits, as ints ===== -/
theorem sI_sh {f : Int → Int} : ∀ n : Nat, sI f ((n + 1 : Nat) : Int) = f 0 + sI (fun i => f (i + 1)) (n : Int) := by
  intro n
  induction n with
  | zero =>
    rw [show ((0 + 1 : Nat) : Int) = 0 + 1 from rfl, sI_s (Int.le_refl _), sI_0, show ((0 : Nat) : Int) = 0 from rfl, sI_0]
    omega
  | succ n ih =>
    rw [show ((n + 1 + 1 : Nat) : Int) = ((n + 1 : Nat) : Int) + 1 by omega, sI_s (by omega), ih, show ((n + 1 : Nat) : Int) = (n : Int) + 1 by omega, sI_s (f := fun i => f (i + 1)) (by omega)]
    omega
theorem pc_bn : ∀ n x : Nat, bn (x : Int) (n : Int) = (pcN n x : Int) := by
  intro n
  induction n with
  | zero => intro x; rfl
  | succ n ih =>
    intro x
    have e := ih (x / 2)
    unfold bn at e ⊢
    rw [sI_sh, pcN, Int.natCast_add, ← e]
    congr 1
    · unfold bt
      rw [Int.toNat_natCast, show (0 : Int).toNat = 0 from rfl, Nat.testBit_zero]
      by_cases c : x % 2 = 1
      · rw [decide_eq_true c, if_pos rfl]; omega
      · rw [decide_eq_false c, if_neg (by decide)]; omega
    · refine sI_congr (fun i i0 _ => ?_)
      have : bt (x : Int) (i + 1) = bt ((x / 2 : Nat) : Int) i := by
        unfold bt
        rw [Int.toNat_natCast, Int.toNat_natCast, show (i + 1).toNat = i.toNat + 1 by omega, Nat.testBit_succ]
      (try dsimp only)
      rw [this]
theorem cn_bn {x : Int} (h0 : 0 ≤ x) (h1 : x < 65536) : ibCnt x = bn x 18 := by
  obtain ⟨a, rfl⟩ := Int.eq_ofNat_of_zero_le h0
  exact (cn_nat (by omega)).trans (pc_bn 18 a).symm
theorem nx_t {n t : Nat} (h : t < 2 ^ n) : nxN n t t = 0 :=
  rk_inj n _ _ t (nx_su n t t (su_refl n t h)) (su_0 n t h) (by rw [rk_nx n t t (su_refl n t h), if_pos rfl, rk_0])
theorem ib_next {x t : Nat} (ht : t < 262144) (hs : suN 18 x t) : ibAnd ((x : Int) - (t : Int)) (t : Int) = (nxN 18 x t : Int) := by
  have hle := su_le 18 x t hs
  have e : ((Int32.ofInt ((x : Int) - (t : Int))).toBitVec &&& (Int32.ofInt (t : Int)).toBitVec).toNat = nxN 18 x t := by
    rw [ibn, BitVec.toNat_and, BitVec.toNat_ofNat, Nat.mod_eq_of_lt (show t < 2 ^ 32 by omega)]
    have e1 : (Int32.ofInt ((x : Int) - (t : Int))).toBitVec.toNat = (((x : Int) - (t : Int)) % ((2 ^ 32 : Nat) : Int)).toNat := BitVec.toNat_ofInt _
    rw [e1, show (((2 ^ 32 : Nat)) : Int) = 4294967296 from rfl]
    by_cases c : x = t
    · subst c
      rw [Int.sub_self, nx_t (by exact ht)]
      exact Nat.zero_and _
    · rw [show (((x : Int) - (t : Int)) % 4294967296).toNat = x + 16384 * 2 ^ 18 - t by omega]
      exact an_nx 18 x t 16384 hs (by exact ht) (by decide)
  have hlt : nxN 18 x t ≤ t := su_le 18 _ t (nx_su 18 x t hs)
  show ((Int32.ofInt ((x : Int) - (t : Int))).toBitVec &&& (Int32.ofInt (t : Int)).toBitVec).toInt = _
  rw [ibz (by rw [e]; omega), e]
def sq (t : Int) : Nat → Int
  | 0 => 0
  | i + 1 => ibAnd (sq t i - t) t
theorem sq_is {t : Nat} (ht : t < 262144) : ∀ i, ∃ x : Nat, sq (t : Int) i = x ∧ suN 18 x t ∧ rkN 18 x t = i % 2 ^ pcN 18 t := by
  intro i
  induction i with
  | zero => exact ⟨0, rfl, su_0 18 t (by exact ht), by rw [rk_0, Nat.zero_mod]⟩
  | succ i ih =>
    obtain ⟨x, e1, e2, e3⟩ := ih
    refine ⟨nxN 18 x t, ?_, nx_su 18 x t e2, ?_⟩
    · show ibAnd (sq (t : Int) i - (t : Int)) (t : Int) = _
      rw [e1]
      exact ib_next ht e2
    · have hP := rk_t 18 t (by exact ht)
      rw [rk_nx 18 x t e2, ← Nat.mod_add_mod, ← e3]
      by_cases c : x = t
      · rw [if_pos c, c, hP, Nat.mod_self]
      · rw [if_neg c]
        have h1 := rk_lt 18 x t e2
        have h2 : rkN 18 x t ≠ rkN 18 t t := fun q => c (rk_inj 18 x t t e2 (su_refl 18 t (by exact ht)) q)
        rw [Nat.mod_eq_of_lt (by omega)]
def pcP (t : Int) : Nat := 2 ^ pcN 18 t.toNat
theorem sq_all {t : Int} (h0 : 0 ≤ t) (h1 : t < 65536) (h8 : bn t 18 ≤ 8) : (1 ≤ pcP t ∧ pcP t ≤ 256) ∧ (∀ i, (0 ≤ sq t i ∧ sq t i < 65536) ∧ ∀ b, bt (sq t i) b = true → bt t b = true) ∧ (∀ i, sq t i = 0 ↔ i % pcP t = 0) ∧ (∀ i, sq t i = t ↔ i % pcP t + 1 = pcP t) ∧ (∀ i, sq t (i + pcP t) = sq t i) ∧ ∀ i, bn (sq t i) 18 ≤ bn t 18 ∧ (bn (sq t i) 18 = bn t 18 → sq t i = t) := by
  obtain ⟨T, rfl⟩ := Int.eq_ofNat_of_zero_le h0
  have hT : T < 262144 := by omega
  have hT' : T < 2 ^ 18 := hT
  have e8 : bn (T : Int) 18 = pcN 18 T := pc_bn 18 T
  have hP := rk_t 18 T hT'
  have hp8 : pcN 18 T ≤ 8 := by omega
  have hpow : 2 ^ pcN 18 T ≤ 2 ^ 8 := Nat.pow_le_pow_right (by decide) hp8
  have hpos : 1 ≤ 2 ^ pcN 18 T := Nat.one_le_two_pow
  have eP : pcP (T : Int) = 2 ^ pcN 18 T := rfl
  rw [eP]
  refine ⟨⟨hpos, hpow⟩, fun i => ?_, fun i => ?_, fun i => ?_, fun i => ?_, fun i => ?_⟩
  · obtain ⟨x, e1, e2, e3⟩ := sq_is hT i
    have := su_le 18 x T e2
    rw [e1]
    refine ⟨⟨by omega, by omega⟩, fun b hb => ?_⟩
    unfold bt at hb ⊢
    rw [Int.toNat_natCast] at hb ⊢
    exact su_bit 18 x T _ e2 hb
  · obtain ⟨x, e1, e2, e3⟩ := sq_is hT i
    rw [e1, ← e3]
    constructor
    · intro q
      rw [show x = 0 by omega, rk_0]
    · intro q
      rw [rk_inj 18 x 0 T e2 (su_0 18 T hT') (by rw [q, rk_0])]
      rfl
  · obtain ⟨x, e1, e2, e3⟩ := sq_is hT i
    rw [e1, ← e3]
    constructor
    · intro q
      rw [show x = T by omega]
      exact hP
    · intro q
      rw [rk_inj 18 x T T e2 (su_refl 18 T hT') (by omega)]
  · obtain ⟨x, e1, e2, e3⟩ := sq_is hT i
    obtain ⟨y, f1, f2, f3⟩ := sq_is hT (i + 2 ^ pcN 18 T)
    rw [e1, f1, rk_inj 18 y x T f2 e2 (by rw [f3, e3, Nat.add_mod_right])]
  · obtain ⟨x, e1, e2, e3⟩ := sq_is hT i
    have h := pc_le 18 x T e2
    have ex : bn (x : Int) 18 = pcN 18 x := pc_bn 18 x
    rw [e1, e8, ex]
    refine ⟨by omega, fun q => ?_⟩
    rw [h.2 (by omega)]
/-! the best of them -/
noncomputable def bO (F : Int → Prop) (t : Int) : Nat → Int
  | 0 => -2
  | i + 1 => @ite Int ((bO F t i = -2 ∨ bn (sq t i) 18 < bn (bO F t i) 18) ∧ F (sq t i)) (Classical.propDecidable _) (sq t i) (bO F t i)
def isB (F : Int → Prop) (t : Int) (P : Nat) (v : Int) : Prop :=
  (v = -2 ∧ ∀ i, i < P → ¬ F (sq t i)) ∨ ∃ i, i < P ∧ v = sq t i ∧ F (sq t i) ∧ (∀ j, j < P → F (sq t j) → bn (sq t i) 18 ≤ bn (sq t j) 18) ∧ ∀ j, j < i → F (sq t j) → bn (sq t i) 18 < bn (sq t j) 18
theorem isB_one {F : Int → Prop} {t : Int} {P : Nat} {v w : Int} (h : isB F t P v) (g : isB F t P w) : v = w := by
  rcases h with ⟨h1, h2⟩ | ⟨i, i1, i2, i3, i4, i5⟩
  · rcases g with ⟨g1, g2⟩ | ⟨j, j1, j2, j3, j4, j5⟩
    · exact h1.trans g1.symm
    · exact absurd j3 (h2 j j1)
  · rcases g with ⟨g1, g2⟩ | ⟨j, j1, j2, j3, j4, j5⟩
    · exact absurd i3 (g2 i i1)
    · have a := i4 j j1 j3
      have b := j4 i i1 i3
      by_cases c : i < j
      · have := j5 i c i3; omega
      · by_cases d : j < i
        · have := i5 j d j3; omega
        · rw [i2, j2, show i = j by omega]
theorem bO_is {F : Int → Prop} {t : Int} (h : ∀ i, 0 ≤ sq t i) : ∀ P, isB F t P (bO F t P) := by
  intro P
  induction P with
  | zero => exact Or.inl ⟨rfl, fun i hi => absurd hi (Nat.not_lt_zero _)⟩
  | succ P ih =>
    have e : bO F t (P + 1) = @ite Int ((bO F t P = -2 ∨ bn (sq t P) 18 < bn (bO F t P) 18) ∧ F (sq t P)) (Classical.propDecidable _) (sq t P) (bO F t P) := rfl
    rw [e]
    by_cases c : (bO F t P = -2 ∨ bn (sq t P) 18 < bn (bO F t P) 18) ∧ F (sq t P)
    · rw [if_pos c]
      refine Or.inr ⟨P, Nat.lt_succ_self _, rfl, c.2, ?_⟩
      have key : ∀ j, j < P → F (sq t j) → bn (sq t P) 18 < bn (sq t j) 18 := by
        intro j hj hF
        rcases ih with ⟨h1, h2⟩ | ⟨i, i1, i2, i3, i4, i5⟩
        · exact absurd hF (h2 j hj)
        · have := i4 j hj hF
          have := h i
          rw [← i2] at this
          rcases c.1 with z | z
          · omega
          · rw [i2] at z; omega
      refine ⟨fun j hj hF => ?_, key⟩
      by_cases d : j < P
      · have := key j d hF; omega
      · rw [show j = P by omega]; exact Int.le_refl _
    · rw [if_neg c]
      rcases ih with ⟨h1, h2⟩ | ⟨i, i1, i2, i3, i4, i5⟩
      · refine Or.inl ⟨h1, fun j hj => ?_⟩
        by_cases d : j < P
        · exact h2 j d
        · rw [show j = P by omega]; exact fun q => c ⟨Or.inl h1, q⟩
      · refine Or.inr ⟨i, by omega, i2, i3, fun j hj hF => ?_, i5⟩
        by_cases d : j < P
        · exact i4 j d hF
        · have ej : j = P := by omega
          rw [ej] at hF ⊢
          by_cases z : bn (sq t P) 18 < bn (sq t i) 18
          · exact absurd ⟨Or.inr (by rw [i2]; exact z), hF⟩ c
          · omega
