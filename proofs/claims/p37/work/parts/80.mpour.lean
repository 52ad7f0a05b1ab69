/-! ===== the other one pours ===== -/
def colM (τ : iMem) (i : Int) (c : Int → Int) : Prop := τ 388 i = c 0 ∧ τ 389 i = c 1 ∧ τ 390 i = c 2 ∧ τ 391 i = c 3 ∧ τ 392 i = c 4 ∧ τ 393 i = c 5 ∧ τ 394 i = c 6 ∧ τ 395 i = c 7 ∧ τ 396 i = c 8
theorem colM.frame {τ τ' : iMem} {i : Int} {c : Int → Int} (h : colM τ i c) (hf : ∀ a, 388 ≤ a → a ≤ 396 → τ' a i = τ a i) : colM τ' i c := by
  unfold colM at *
  rw [hf 388 (by omega) (by omega), hf 389 (by omega) (by omega), hf 390 (by omega) (by omega), hf 391 (by omega) (by omega), hf 392 (by omega) (by omega), hf 393 (by omega) (by omega), hf 394 (by omega) (by omega), hf 395 (by omega) (by omega), hf 396 (by omega) (by omega)]
  exact h
def PrM (τ : iMem) (P : aP) : Prop := (τ 367 32 = pcn P ∧ τ 367 33 = ppg P ∧ τ 367 34 = pfr P ∧ τ 367 36 = pat P ∧ τ 367 37 = pca P) ∧ ∀ i, 0 ≤ i → i < pcn P → colM τ i (pC P i)
theorem PrM.frame {τ τ' : iMem} {P : aP} (h : PrM τ P) (h4 : ∀ k, k = 32 ∨ k = 33 ∨ k = 34 ∨ k = 36 ∨ k = 37 → τ' 367 k = τ 367 k) (hf : ∀ a k, 388 ≤ a → a ≤ 396 → τ' a k = τ a k) : PrM τ' P :=
  ⟨⟨(h4 _ (by omega)).trans h.1.1, (h4 _ (by omega)).trans h.1.2.1, (h4 _ (by omega)).trans h.1.2.2.1, (h4 _ (by omega)).trans h.1.2.2.2.1, (h4 _ (by omega)).trans h.1.2.2.2.2⟩, fun i h0 h1 => (h.2 i h0 h1).frame (fun a q1 q2 => hf a i q1 q2)⟩
/-- what pouring writes -/
def pmw (a : Nat) (k : Int) : Prop := (a = 367 ∧ 32 ≤ k ∧ k ≤ 37) ∨ (387 ≤ a ∧ a ≤ 398)
section
variable {τ : iMem} {R : aRun} {P : aP} {s : Int}
end
