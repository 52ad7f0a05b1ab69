/-! ===== the other one's RUN ===== -/
def pw (w : Int) : Int := if w < 8 then w else if w < 12 then 2 * w - 8 else 2 * w - 15
section
variable {τ : iMem} {R : aRun} {b w : Int} {Q : Int → iMem → Prop}
end
/-! ===== the other one's laying ===== -/
def hH (R : aRun) (p : Int) : Int := sI (pH R) p
def hG (R : aRun) (p : Int) : Int := sI (pG R) p
theorem hT_split {R : aRun} {p : Int} : hT R p = hH R p + hG R p := sI_add
theorem hH_s {R : aRun} {p : Int} (h : 0 ≤ p) : hH R (p + 1) = hH R p + pH R p := sI_s h
theorem hG_s {R : aRun} {p : Int} (h : 0 ≤ p) : hG R (p + 1) = hG R p + pG R p := sI_s h
theorem hH_in {R : aRun} (hw : WF R) {p : Int} (h0 : 0 ≤ p) (hp : p ≤ np R) : 0 ≤ hH R p ∧ hH R p ≤ 209 * p := by
  have := sI_bound (f := pH R) (n := p) (lo := 0) (hi := 209) (fun i h1 h2 => pH_in hw (p := i) (by omega) (by omega)) h0
  unfold hH
  omega
theorem hG_in {R : aRun} (hw : WF R) {p : Int} (h0 : 0 ≤ p) (hp : p ≤ np R) : 0 ≤ hG R p ∧ hG R p ≤ 30 * p := by
  have := sI_bound (f := pG R) (n := p) (lo := 0) (hi := 30) (fun i h1 h2 => pG_in hw (p := i) (by omega) (by omega)) h0
  unfold hG
  omega
/-- the rows by PIECES, up to one -/
def MlA (R : aRun) (τ : iMem) (p : Int) : Prop := ∀ q, 0 ≤ q → q < p → τ 373 q = ow R q ∧ τ 374 q = nu R q ∧ τ 375 q = pH R q ∧ τ 376 q = pG R q ∧ τ 377 q = pN R q ∧ τ 378 q = pS R q
theorem MlA.frame {R : aRun} {τ τ' : iMem} {p : Int} (h : MlA R τ p) (hf : ∀ a k, 373 ≤ a → a ≤ 378 → τ' a k = τ a k) : MlA R τ' p := by
  intro q a1 a2
  rw [hf _ q (by omega) (by omega), hf 374 q (by omega) (by omega), hf 375 q (by omega) (by omega), hf 376 q (by omega) (by omega), hf 377 q (by omega) (by omega), hf 378 q (by omega) (by omega)]
  exact h q a1 a2
def MlS (R : aRun) (τ : iMem) (p : Int) : Prop := ∀ q, 0 ≤ q → q ≤ p → τ 383 q = hH R q ∧ τ 384 q = hG R q ∧ τ 385 q = lT R q ∧ τ 386 q = ll R q
/-- the cells that a laying writes -/
def mlw (a : Nat) (k : Int) : Prop := (a = 367 ∧ (k = 13 ∨ k = 16)) ∨ (373 ≤ a ∧ a ≤ 386)
