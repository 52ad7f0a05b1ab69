/-! ===== the TEXT's signs ===== -/
def sg (x : Int) : Int := if 97 ≤ x ∧ x ≤ 122 then 0 else if 48 ≤ x ∧ x ≤ 57 then 1 else if x = 59 then 2 else 3
noncomputable def goN (P : Int → Prop) (L : Int) (T : Int → Int) : Nat → Int → Int
  | 0, p => p
  | n + 1, p => @ite Int (p < L ∧ P (T p)) (Classical.propDecidable _) (goN P L T n (p + 1)) p
noncomputable def go (P : Int → Prop) (L : Int) (T : Int → Int) (p : Int) : Int := goN P L T (L - p).toNat p
section
variable {P : Int → Prop} {L : Int} {T : Int → Int} {p q : Int}
theorem go_s (h : p < L) (hP : P (T p)) : go P L T p = go P L T (p + 1) := by
  unfold go
  rw [show (L - p).toNat = (L - (p + 1)).toNat + 1 by omega]
  exact if_pos ⟨h, hP⟩
theorem go_e (h : ¬ (p < L ∧ P (T p))) : go P L T p = p := by
  unfold go
  cases (L - p).toNat with
  | zero => rfl
  | succ n => exact if_neg h
theorem go_in (hp : p ≤ L) : (p ≤ go P L T p ∧ go P L T p ≤ L) ∧ ¬ (go P L T p < L ∧ P (T (go P L T p))) ∧ ∀ k, p ≤ k → k < go P L T p → P (T k) := by
  have key : ∀ (n : Nat) (p : Int), p ≤ L → (L - p).toNat = n → (p ≤ go P L T p ∧ go P L T p ≤ L) ∧ ¬ (go P L T p < L ∧ P (T (go P L T p))) ∧ ∀ k, p ≤ k → k < go P L T p → P (T k) := by
    intro n
    induction n with
    | zero =>
      intro p hp hn
      have h : ¬ (p < L ∧ P (T p)) := fun z => by omega
      rw [go_e h]
      exact ⟨⟨Int.le_refl _, hp⟩, h, fun k k0 k1 => by omega⟩
    | succ n ih =>
      intro p hp hn
      by_cases h : p < L ∧ P (T p)
      · rw [go_s h.1 h.2]
        obtain ⟨a, b, c⟩ := ih (p + 1) (by omega) (by omega)
        refine ⟨⟨by omega, a.2⟩, b, fun k k0 k1 => ?_⟩
        by_cases z : k = p
        · rw [z]; exact h.2
        · exact c k (by omega) k1
      · rw [go_e h]
        exact ⟨⟨Int.le_refl _, hp⟩, h, fun k k0 k1 => by omega⟩
  exact key _ p hp rfl
end
noncomputable def sk (L : Int) (T : Int → Int) (p : Int) : Int := go (fun x => x = 32) L T p
noncomputable def ru (L : Int) (T : Int → Int) (c p : Int) : Int := go (fun x => sg x = c) L T p
def sn (L : Int) (T : Int → Int) (q : Int) : Int := if q < L then sg (T q) else 4
noncomputable def ee (L : Int) (T : Int → Int) (q : Int) : Int := if sg (T q) = 0 ∨ sg (T q) = 1 then ru L T (sg (T q)) q else q + 1
noncomputable def nx (L : Int) (T : Int → Int) (q : Int) : Int := sk L T (ee L T q)
noncomputable def tq (L : Int) (T : Int → Int) : Nat → Int
  | 0 => sk L T 0
  | i + 1 => nx L T (tq L T i)
def cvN (T : Int → Int) : Nat → Int → Int → Int
  | 0, a, _ => a
  | n + 1, a, p => cvN T n (if a * 10 + T p - 48 < 100000 then a * 10 + T p - 48 else 100000) (p + 1)
noncomputable def nv (L : Int) (T : Int → Int) (q : Int) : Int := cvN T (ee L T q - q).toNat 0 q
/-- the WORDS' own texts -/
def kwA (k : Int) : Nat := if k < 8 then 409 + k.toNat else if k < 13 then 417 + (k - 8).toNat else if k = 13 then 422 else if k = 14 then 424 else if k = 15 then 423 else 425
def mt (L : Int) (T : Int → Int) (q : Int) (a : Nat) : Prop := q + (qs_ln a : Int) ≤ L ∧ (∀ i, 0 ≤ i → i < (qs_ln a : Int) → T (q + i) = iCh a i) ∧ ¬ (q + (qs_ln a : Int) < L ∧ sg (T (q + (qs_ln a : Int))) = 0)
noncomputable def wdN (L : Int) (T : Int → Int) (q : Int) : Nat → Int
  | 0 => -1
  | n + 1 => @ite Int (mt L T q (kwA n)) (Classical.propDecidable _) (n : Int) (wdN L T q n)
noncomputable def wd (L : Int) (T : Int → Int) (q : Int) : Int := wdN L T q 17
noncomputable def va (L : Int) (T : Int → Int) (q : Int) : Int := if sg (T q) = 0 then wd L T q else nv L T q
def isW (L : Int) (T : Int → Int) (q r : Int) : Prop := (r = -1 ∧ ∀ k, 0 ≤ k → k < 17 → ¬ mt L T q (kwA k)) ∨ ((0 ≤ r ∧ r < 17) ∧ mt L T q (kwA r))
theorem kw_let : ∀ k : Nat, k < 17 → 0 < qs_ln (kwA k) ∧ qs_ln (kwA k) < 10 ∧ ∀ i : Nat, i < qs_ln (kwA k) → 97 ≤ (qs_ch (kwA k) i).toInt ∧ (qs_ch (kwA k) i).toInt ≤ 122 := by decide +kernel
theorem kw_ne : ∀ j : Nat, j < 17 → ∀ k : Nat, k < 17 → qs_ln (kwA j) = qs_ln (kwA k) → (∀ i : Nat, i < qs_ln (kwA j) → qs_ch (kwA j) i = qs_ch (kwA k) i) → j = k := by decide +kernel
section
variable {L : Int} {T : Int → Int} {p q : Int}
theorem sg_in (x : Int) : 0 ≤ sg x ∧ sg x ≤ 3 := by unfold sg; omega
theorem sg_0 {x : Int} : sg x = 0 ↔ 97 ≤ x ∧ x ≤ 122 := by unfold sg; omega
theorem sg_1 {x : Int} : sg x = 1 ↔ 48 ≤ x ∧ x ≤ 57 := by unfold sg; omega
theorem sg_2 {x : Int} : sg x = 2 ↔ x = 59 := by unfold sg; omega
theorem kw_at {k : Int} (k0 : 0 ≤ k) (k1 : k < 17) : (0 < (qs_ln (kwA k) : Int) ∧ (qs_ln (kwA k) : Int) < 10) ∧ ∀ i, 0 ≤ i → i < (qs_ln (kwA k) : Int) → sg (iCh (kwA k) i) = 0 := by
  obtain ⟨a, rfl⟩ := Int.eq_ofNat_of_zero_le k0
  obtain ⟨h1, h2, h3⟩ := kw_let a (by omega)
  exact ⟨⟨by omega, by omega⟩, fun i i0 i1 => sg_0.mpr (h3 i.toNat (by omega))⟩
theorem mt_one {j k : Int} (j0 : 0 ≤ j) (j1 : j < 17) (k0 : 0 ≤ k) (k1 : k < 17) (hj : mt L T q (kwA j)) (hk : mt L T q (kwA k)) : j = k := by
  have aj := kw_at j0 j1
  have ak := kw_at k0 k1
  have le : ∀ {j k : Int}, 0 ≤ k → k < 17 → mt L T q (kwA j) → mt L T q (kwA k) → ¬ (qs_ln (kwA j) : Int) < qs_ln (kwA k) := by
    intro j k k0 k1 hj hk z
    have e := hk.2.1 (qs_ln (kwA j)) (by omega) z
    have s := (kw_at k0 k1).2 (qs_ln (kwA j)) (by omega) z
    rw [← e] at s
    exact hj.2.2 ⟨by have := hk.1; omega, s⟩
  have l1 := le k0 k1 hj hk
  have l2 := le j0 j1 hk hj
  obtain ⟨a, rfl⟩ := Int.eq_ofNat_of_zero_le j0
  obtain ⟨b, rfl⟩ := Int.eq_ofNat_of_zero_le k0
  have := kw_ne a (by omega) b (by omega) (by omega) (fun i hi => by
    have e1 := hj.2.1 i (by omega) (by omega)
    have e2 := hk.2.1 i (by omega) (by omega)
    rw [e1] at e2
    unfold iCh at e2
    rw [Int.toNat_natCast] at e2
    exact Int32.toInt_inj.mp e2)
  rw [this]
theorem wd_is : isW L T q (wd L T q) := by
  have key : ∀ n : Nat, n ≤ 17 → (wdN L T q n = -1 ∧ ∀ k, 0 ≤ k → k < (n : Int) → ¬ mt L T q (kwA k)) ∨ ((0 ≤ wdN L T q n ∧ wdN L T q n < 17) ∧ mt L T q (kwA (wdN L T q n))) := by
    intro n
    induction n with
    | zero => intro _; exact Or.inl ⟨rfl, fun k k0 k1 => by omega⟩
    | succ n ih =>
      intro hn
      have e : wdN L T q (n + 1) = @ite Int (mt L T q (kwA n)) (Classical.propDecidable _) (n : Int) (wdN L T q n) := rfl
      rw [e]
      by_cases c : mt L T q (kwA n)
      · rw [if_pos c]; exact Or.inr ⟨⟨by omega, by omega⟩, c⟩
      · rw [if_neg c]
        rcases ih (by omega) with ⟨h1, h2⟩ | h
        · refine Or.inl ⟨h1, fun k k0 k1 => ?_⟩
          by_cases z : k = n
          · rw [z]; exact c
          · exact h2 k k0 (by omega)
        · exact Or.inr h
  exact key 17 (Nat.le_refl _)
theorem isW_one {r s : Int} (h : isW L T q r) (g : isW L T q s) : r = s := by
  rcases h with ⟨h1, h2⟩ | ⟨h1, h2⟩
  · rcases g with ⟨g1, g2⟩ | ⟨g1, g2⟩
    · exact h1.trans g1.symm
    · exact absurd g2 (h2 s g1.1 g1.2)
  · rcases g with ⟨g1, g2⟩ | ⟨g1, g2⟩
    · exact absurd h2 (g2 r h1.1 h1.2)
    · exact mt_one h1.1 h1.2 g1.1 g1.2 h2 g2
theorem wd_in : -1 ≤ wd L T q ∧ wd L T q < 17 := by
  rcases wd_is (L := L) (T := T) (q := q) with ⟨h, -⟩ | ⟨h, -⟩
  · omega
  · omega
theorem wd_mt {k : Int} (k0 : 0 ≤ k) (k1 : k < 17) : mt L T q (kwA k) ↔ wd L T q = k := by
  constructor
  · intro h; exact isW_one wd_is (Or.inr ⟨⟨k0, k1⟩, h⟩)
  · intro h
    rcases wd_is (L := L) (T := T) (q := q) with ⟨g, -⟩ | ⟨g, g2⟩
    · omega
    · rw [h] at g2; exact g2
theorem sk_in (hp : p ≤ L) : (p ≤ sk L T p ∧ sk L T p ≤ L) ∧ ¬ (sk L T p < L ∧ T (sk L T p) = 32) := ⟨(go_in hp).1, (go_in (P := fun x => x = 32) hp).2.1⟩
theorem sk_e (h : ¬ (p < L ∧ T p = 32)) : sk L T p = p := go_e h
theorem sk_s (h : p < L) (h2 : T p = 32) : sk L T p = sk L T (p + 1) := go_s h h2
theorem sk_sk (hp : p ≤ L) : sk L T (sk L T p) = sk L T p := sk_e (sk_in hp).2
theorem ee_in (hq : q < L) : q < ee L T q ∧ ee L T q ≤ L := by
  unfold ee
  by_cases c : sg (T q) = 0 ∨ sg (T q) = 1
  · rw [if_pos c]
    unfold ru
    rw [go_s (P := fun x => sg x = sg (T q)) hq rfl]
    have := (go_in (P := fun x => sg x = sg (T q)) (L := L) (T := T) (p := q + 1) (by omega)).1
    omega
  · rw [if_neg c]; omega
theorem nx_in (hq : q < L) : q < nx L T q ∧ nx L T q ≤ L := by
  have h := ee_in (T := T) hq
  have := (sk_in (T := T) h.2).1
  unfold nx
  omega
theorem nx_sk (hq : q < L) : sk L T (nx L T q) = nx L T q := sk_sk (ee_in hq).2
theorem sn_in (q : Int) : 0 ≤ sn L T q ∧ sn L T q ≤ 4 := by
  have := sg_in (T q)
  unfold sn
  split <;> omega
theorem sn_lt (h : sn L T q ≠ 4) : q < L ∧ sn L T q = sg (T q) := by
  unfold sn at h ⊢
  by_cases c : q < L
  · rw [if_pos c]; exact ⟨c, rfl⟩
  · rw [if_neg c] at h; exact absurd rfl h
theorem sn_4 (h : ¬ q < L) : sn L T q = 4 := if_neg h
theorem sn_of (h : q < L) : sn L T q = sg (T q) := if_pos h
theorem cvN_in (hT : ∀ k, 0 ≤ T k → T k ≤ 255 → True) : True := trivial
theorem cv_in : ∀ (n : Nat) (a p : Int), 0 ≤ a → a ≤ 100000 → (∀ k, p ≤ k → k < p + n → 48 ≤ T k ∧ T k ≤ 57) → 0 ≤ cvN T n a p ∧ cvN T n a p ≤ 100000 := by
  intro n
  induction n with
  | zero => intro a p h0 h1 _; exact ⟨h0, h1⟩
  | succ n ih =>
    intro a p h0 h1 h
    have hd := h p (by omega) (by omega)
    refine ih _ _ ?_ ?_ (fun k k0 k1 => h k (by omega) (by omega))
    · split <;> omega
    · split <;> omega
theorem ee_num (hq : q < L) (h : sg (T q) = 1) : ∀ k, q ≤ k → k < ee L T q → sg (T k) = 1 := by
  have e : ee L T q = ru L T 1 q := by unfold ee; rw [h]; exact if_pos (Or.inr rfl)
  rw [e]
  exact (go_in (P := fun x => sg x = 1) (L := L) (T := T) (p := q) (by omega)).2.2
theorem nv_in (hq : q < L) (h : sg (T q) = 1) : 0 ≤ nv L T q ∧ nv L T q ≤ 100000 := by
  have he := ee_in (T := T) hq
  exact cv_in _ _ _ (by omega) (by omega) (fun k k0 k1 => sg_1.mp (ee_num hq h k k0 (by omega)))
end
