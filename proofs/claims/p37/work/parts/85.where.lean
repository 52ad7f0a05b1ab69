/-! ===== where things stand ===== -/
noncomputable def fstN (P : Int → Prop) : Nat → Int
  | 0 => -1
  | n + 1 => if fstN P n = -1 then @ite Int (P n) (Classical.propDecidable _) n (-1) else fstN P n
theorem fstN_is {P : Int → Prop} {i : Int} (h0 : 0 ≤ i) (hP : P i) (hn : ∀ j, 0 ≤ j → j < i → ¬ P j) : ∀ n : Nat, fstN P n = if i < n then i else -1 := by
  intro n
  induction n with
  | zero => rw [if_neg (by omega)]; rfl
  | succ n ih =>
    show (if fstN P n = -1 then @ite Int (P n) (Classical.propDecidable _) n (-1) else fstN P n) = _
    rw [ih]
    by_cases c : i < n
    · rw [if_pos c, if_neg (by omega), if_pos (by omega)]
    · rw [if_neg c, if_pos rfl]
      by_cases d : i = n
      · rw [if_pos (by rw [← d]; exact hP), if_pos (by omega)]; exact d.symm
      · rw [if_neg (hn n (by omega) (by omega)), if_neg (by omega)]
theorem fstN_no {P : Int → Prop} : ∀ n : Nat, (∀ j : Int, 0 ≤ j → j < (n : Int) → ¬ P j) → fstN P n = -1 := by
  intro n
  induction n with
  | zero => intro _; rfl
  | succ n ih =>
    intro h
    show (if fstN P n = -1 then @ite Int (P n) (Classical.propDecidable _) n (-1) else fstN P n) = _
    rw [ih (fun j a b => h j a (by omega)), if_pos rfl, if_neg (h n (by omega) (by omega))]
theorem fstN_or (P : Int → Prop) : ∀ n : Nat, (fstN P n = -1 ∧ ∀ j : Int, 0 ≤ j → j < (n : Int) → ¬ P j) ∨ (0 ≤ fstN P n ∧ fstN P n < n ∧ P (fstN P n)) := by
  intro n
  induction n with
  | zero => exact Or.inl ⟨rfl, fun j a b => by omega⟩
  | succ n ih =>
    have e : fstN P (n + 1) = if fstN P n = -1 then @ite Int (P n) (Classical.propDecidable _) n (-1) else fstN P n := rfl
    rcases ih with ⟨a, b⟩ | ⟨a, b, c⟩
    · rw [if_pos a] at e
      by_cases d : P n
      · rw [if_pos d] at e
        rw [e]
        exact Or.inr ⟨by omega, by omega, d⟩
      · rw [if_neg d] at e
        refine Or.inl ⟨e, fun j j0 j1 => ?_⟩
        by_cases z : j = n
        · rw [z]; exact d
        · exact b j j0 (by omega)
    · rw [if_neg (by omega)] at e
      rw [e]
      exact Or.inr ⟨a, by omega, c⟩
noncomputable def cOf (R : aRun) (p : Int) : Int := fstN (fun i => cf R i 3 ≤ p ∧ p < cf R i 4) (pcn (pou R).1).toNat
theorem cOf_or {R : aRun} (hw : WF R) (p : Int) : cOf R p = -1 ∨ (0 ≤ cOf R p ∧ cOf R p < pcn (pou R).1 ∧ cf R (cOf R p) 3 ≤ p ∧ p < cf R (cOf R p) 4) := by
  have h := pou_240 hw
  unfold cOf
  rcases fstN_or (fun i => cf R i 3 ≤ p ∧ p < cf R i 4) (pcn (pou R).1).toNat with ⟨a, -⟩ | ⟨a, b, c⟩
  · exact Or.inl a
  · exact Or.inr ⟨a, by omega, c⟩
section
variable {τ : iMem} {R : aRun}
theorem ip_columnOf {p : Int} {Q : Int → iMem → Prop} (hw : WF R) (hP : PoC R 52 79 320 240 τ (pou R)) (hQ : Q (cOf R p) τ) : ip (iz_Press_columnOf 52 p) Q τ := by
  have h240 := pou_240 hw
  unfold iz_Press_columnOf
  rw [ip_B]
  refine ip_W (fun i τ' => τ' = τ ∧ 0 ≤ i ∧ i ≤ pcn (pou R).1 ∧ ∀ j, 0 ≤ j → j < i → ¬ (cf R j 3 ≤ p ∧ p < cf R j 4)) (fun i _ => (pcn (pou R).1 - i).toNat) ?_ ⟨rfl, Int.le_refl _, h240.1, fun j a b => by omega⟩
  intro i τ' ⟨et, i0, i1, ij⟩
  subst et
  rw [ip_B, ip_Gt, hP.1.1]
  by_cases c1 : pcn (pou R).1 ≤ i
  · have e : i = pcn (pou R).1 := by omega
    rw [ip_ifT c1, ip_P]
    simp only [Sum.elim_inl, Sum.elim_inr, ip_P]
    have : cOf R p = -1 := fstN_no _ (fun j a b => ij j a (by omega))
    rw [this] at hQ
    exact hQ
  · have next : ¬ (cf R i 3 ≤ p ∧ p < cf R i 4) → ip (iA (i + 1) fun y1 => iB (iP y1) fun x7 => iP (Sum.inl x7 : Int ⊕ (Unit ⊕ Int))) (fun r τ'' => Sum.elim (fun s' => (τ'' = τ' ∧ 0 ≤ s' ∧ s' ≤ pcn (pou R).1 ∧ ∀ j, 0 ≤ j → j < s' → ¬ (cf R j 3 ≤ p ∧ p < cf R j 4)) ∧ (pcn (pou R).1 - s').toNat < (pcn (pou R).1 - i).toNat) (fun a => ip (Sum.elim (fun s1 => iP (-1)) iP a) Q τ'') r) τ' := by
      intro hno
      rw [ip_A]
      refine ⟨⟨by omega, by omega⟩, ?_⟩
      rw [ip_B, ip_P, ip_P]
      simp only [Sum.elim_inl]
      refine ⟨⟨trivial, by omega, by omega, fun j a b => ?_⟩, by omega⟩
      by_cases d : j = i
      · rw [d]; exact hno
      · exact ij j a (by omega)
    rw [ip_ifF c1, ip_B, ip_pcell hw hP i0 (by omega) (by omega) (by omega), ip_B]
    by_cases c2 : p < cf R i 3
    · rw [ip_ifT c2, ip_P]
      simp only [Sum.elim_inl]
      exact next (fun q => by omega)
    · rw [ip_ifF c2, ip_B, ip_pcell hw hP i0 (by omega) (by omega) (by omega)]
      by_cases c3 : cf R i 4 ≤ p
      · rw [ip_ifT c3, ip_P]
        simp only [Sum.elim_inl]
        exact next (fun q => by omega)
      · rw [ip_ifF c3, ip_P]
        simp only [Sum.elim_inl, Sum.elim_inr, ip_P]
        have : cOf R p = i := by
          have := fstN_is (P := fun i => cf R i 3 ≤ p ∧ p < cf R i 4) i0 ⟨by omega, by omega⟩ ij (pcn (pou R).1).toNat
          rw [if_pos (by omega)] at this
          exact this
        rw [this] at hQ
        exact hQ
end
