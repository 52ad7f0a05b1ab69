section
variable {τ : iMem} {R : aRun}
theorem np_pos (h : 0 < np R) (hw : WF R) : 0 < rn R := by
  have := hw.1.1
  rcases Int.lt_or_eq_of_le this with c | c
  · exact c
  · have e : np R = 0 := by unfold np; rw [← c, fs_0]
    omega
noncomputable def enb (R : aRun) (e : Int) : Int := @ite Int (en R e) (Classical.propDecidable _) 1 0
theorem enb_in (R : aRun) (e : Int) : 0 ≤ enb R e ∧ enb R e ≤ 1 := by
  unfold enb
  by_cases c : en R e
  · rw [if_pos c]; omega
  · rw [if_neg c]; omega
theorem enb_is {R : aRun} {e r : Int} (h : (r = 1 ∧ en R e) ∨ (r = 0 ∧ ¬ en R e)) : r = enb R e := by
  unfold enb
  rcases h with h | h
  · rw [if_pos h.2]; exact h.1
  · rw [if_neg h.2]; exact h.1
noncomputable def pieV (R : aRun) (p k : Int) : Int := if 0 ≤ p ∧ p < np R then (if k = 0 then ow R p else if k = 1 then nu R p else if k = 2 then pH R p else if k = 3 then pG R p else if k = 4 then pN R p else if k = 5 then enb R (p + 1) else if k = 6 then pS R p else -1) else -1
theorem ns_0 (hw : WF R) : ns R = 0 ↔ rn R = 0 := by
  have hn := hw.1.1
  have hs := sc_in (R := R) hn
  unfold ns
  split <;> omega
end
