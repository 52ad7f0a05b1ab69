/-! ===== the other one's table ===== -/
noncomputable def candM (R : aRun) (h : Int) (L : Int → Int) (p e : Int) : Int := @ite Int (0 ≤ L e ∧ (e ≤ p ∨ en R e)) (Classical.propDecidable _) (mi R p e (L e) h) (-1)
theorem candM_le {R : aRun} (hw : WF R) {h M : Int} {L : Int → Int} {p e : Int} (h0 : 0 ≤ p) (he : e ≤ np R) (hh : 0 ≤ h) (hh2 : h ≤ 2000) (hL : L e ≤ M) (hM : 0 ≤ M) : candM R h L p e ≤ 2000 + M := by
  unfold candM
  split
  · rename_i q
    have := mi_le hw (p := p) (e := e) (lv := L e) h0 he q.1 hh hh2
    omega
  · omega
def MaT (R : aRun) (s h a K : Int) (τ : iMem) : Prop := ∀ k p, 0 ≤ k → k < K → a ≤ p → p ≤ bg R (s + 1) → (-1 ≤ τ 387 (92 * k + p) ∧ τ 387 (92 * k + p) ≤ 2000 * k) ∧ (en R p → τ 387 (92 * k + p) = be R s h k.toNat p)
