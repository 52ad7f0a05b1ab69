section
variable {τ : iMem} {R : aRun} {P : aP} {s : Int}
/-- what there is, whatever is free -/
def PrM' (τ : iMem) (P : aP) : Prop := (τ 367 32 = pcn P ∧ τ 367 33 = ppg P) ∧ ∀ i, 0 ≤ i → i < pcn P → colM τ i (pC P i)
end
