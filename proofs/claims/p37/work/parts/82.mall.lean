def PrN (τ : iMem) (P : aP) : Prop := (τ 367 32 = pcn P ∧ τ 367 33 = ppg P ∧ τ 367 34 = pfr P) ∧ ∀ i, 0 ≤ i → i < pcn P → colM τ i (pC P i)
theorem PrM.n {τ : iMem} {P : aP} (h : PrM τ P) : PrN τ P := ⟨⟨h.1.1, h.1.2.1, h.1.2.2.1⟩, h.2⟩
theorem PrN.m {τ : iMem} {P : aP} (h : PrN τ P) : PrM τ (atP (τ 367 36) (τ 367 37) P) := ⟨⟨h.1.1, h.1.2.1, h.1.2.2, rfl, rfl⟩, h.2⟩
def SpM (R : aRun) (τ : iMem) (A : aA) : Prop := ∀ s, 1 ≤ s → s < ns R → τ 397 s = (if s ≤ aSp A then aPg A (s - 1) else -1) ∧ (s ≤ aSp A → τ 398 s = aAb A (s - 1))
/-! what is free is never more than there is -/
theorem lst_ge {R : aRun} {s p c top : Int} : lst R s p c top = -2 ∨ 0 ≤ lst R s p c top := by
  unfold lst
  by_cases d : c ≤ be R s top (rs R 0).toNat p
  · rw [if_pos d]
    refine Or.inr ?_
    rcases Int.le_total 0 top with z | z
    · have := sI_bound (f := fun h => @ite Int (c ≤ be R s h (rs R 0).toNat p) (Classical.propDecidable _) 0 1) (n := top) (lo := 0) (hi := 1) (fun i _ _ => by (try dsimp only); split <;> omega) z
      omega
    · rw [sI_le z]; omega
  · rw [if_neg d]; exact Or.inl rfl
theorem lvlN_fr {R : aRun} {s h : Int} {P : aP} : ∀ i : Nat, pfr (lvlN R s h i P) = pfr P := by
  intro i
  induction i with
  | zero => rfl
  | succ i ih => exact ih
theorem filN_fr {R : aRun} {s : Int} {P : aP} : ∀ i : Nat, pfr (filN R s i P).1 = pfr P := by
  intro i
  induction i with
  | zero => rfl
  | succ i ih =>
    rw [filN_s]
    split
    · exact ih
    · split
      · exact ih
      · exact ih
theorem fil_fr {R : aRun} {s : Int} {P : aP} : pfr (fil R s P).1 = pfr P := by
  unfold fil
  split
  · rfl
  · exact filN_fr _
theorem secN_fr {R : aRun} {s : Int} : ∀ (n : Nat) (P : aP), pfr P ≤ rs R 1 → pfr (secN R s n P).1 ≤ rs R 1 := by
  intro n
  induction n with
  | zero => intro P h; exact h
  | succ n ih =>
    intro P h
    rw [secN_s]
    by_cases c1 : lst R s (pat P) (pca P) (pfr P) ≠ -2
    · rw [if_pos c1]
      show pfr P - lst R s (pat P) (pca P) (pfr P) ≤ rs R 1
      have := lst_ge (R := R) (s := s) (p := pat P) (c := pca P) (top := pfr P)
      omega
    · rw [if_neg c1]
      split
      · exact h
      · split
        · rw [fil_fr]; exact h
        · exact ih _ (Int.le_refl _)
theorem allN_fr {R : aRun} (hw : WF R) : ∀ n : Nat, (n : Int) ≤ ns R → pfr (allN R (ini R) n).1 ≤ rs R 1 := by
  intro n
  induction n with
  | zero => intro _; exact Int.le_refl _
  | succ n ih =>
    intro hn
    have ih := ih (by omega)
    rw [allN_s]
    generalize allN R (ini R) n = A at ih
    split
    · exact ih
    · have hsh := sh_in hw (n := (n : Int)) (by omega) (by omega)
      have hH := hw.2.1.2.1
      have hB : ∀ B : aA, pfr B.1 ≤ rs R 1 → pfr (secA R n B).1 ≤ rs R 1 := by
        intro B hb
        unfold secA
        split
        · exact hb
        · exact secN_fr 41 B.1 hb
      split
      · exact hB _ ih
      · refine hB _ ?_
        unfold spanA
        split
        · exact ih
        · have hP : pfr (spP R n (begA R n A).1) ≤ rs R 1 := by
            unfold spP
            split
            · exact Int.le_refl _
            · exact ih
          show (if 0 < pfr (spP R n (begA R n A).1) - sh R n then pfr (spP R n (begA R n A).1) - sh R n else 0) ≤ rs R 1
          split <;> omega
section
variable {τ : iMem} {R : aRun} {s : Int}
end
