/-! ===== some BLOCKS untied ===== -/
def RU (R : aRun) (m : Int) : aRun := (R.1, R.2.1, fun b w => if w = 4 ∧ bt m b = true then 0 else R.2.2 b w)
section
variable {R : aRun} {m : Int}
theorem RU_rc {b w : Int} : rc (RU R m) b w = if w = 4 ∧ bt m b = true then 0 else rc R b w := rfl
theorem RU_o {b w : Int} (h : w ≠ 4) : rc (RU R m) b w = rc R b w := by
  rw [RU_rc, if_neg (fun q => h q.1)]
theorem RU_fs {b : Int} : fs (RU R m) b = fs R b := by
  unfold fs
  exact sI_congr (fun i _ _ => by (try dsimp only); rw [RU_o (by omega)])
theorem RU_sc {b : Int} : sc (RU R m) b = sc R b := by
  unfold sc
  exact sI_congr (fun i _ _ => by (try dsimp only); rw [RU_o (by omega)])
theorem RU_ns : ns (RU R m) = ns R := by
  unfold ns
  rw [RU_sc]
  rfl
theorem RU_np : np (RU R m) = np R := by
  unfold np
  rw [RU_fs]
  rfl
theorem RU_wf (hw : WF R) : WF (RU R m) := by
  obtain ⟨a1, a2, a3, a4⟩ := hw
  refine ⟨a1, a2, fun b b0 b1 => ?_, by rw [RU_np]; exact a4⟩
  have := a3 b b0 b1
  have e4 : rc (RU R m) b 4 = 0 ∨ rc (RU R m) b 4 = rc R b 4 := by
    rw [RU_rc]
    split
    · exact Or.inl rfl
    · exact Or.inr rfl
  unfold WFb at this ⊢
  rw [RU_o (w := 0) (by omega), RU_o (w := 1) (by omega), RU_o (w := 2) (by omega), RU_o (w := 3) (by omega), RU_o (w := 5) (by omega), RU_o (w := 6) (by omega), RU_o (w := 7) (by omega), RU_o (w := 12) (by omega), RU_o (w := 13) (by omega), RU_o (w := 14) (by omega), RU_o (w := 15) (by omega)]
  omega
end
