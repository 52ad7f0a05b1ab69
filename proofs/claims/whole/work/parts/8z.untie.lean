/-! ===== some BLOCKS untied ===== -/
def RU (R : aRun) (m : Int) : aRun := (R.1, R.2.1, fun b w => if w = 4 ∧ bt m b = true then 0 else R.2.2 b w)
section
variable {R : aRun} {m : Int}
theorem RU_rc {b w : Int} : rc (RU R m) b w = if w = 4 ∧ bt m b = true then 0 else rc R b w := rfl
theorem RU_o {b w : Int} (h : w ≠ 4) : rc (RU R m) b w = rc R b w := by
  rw [RU_rc, if_neg (fun q => h q.1)]
theorem RU_fs {b : Int} : fs (RU R m) b = fs R b := by
  unfold fs
  exact sI_congr (fun i _ _ => by (try dsimp only); rw [RU_o (by omega)])
theorem RU_sc {b : Int} : sc (RU R m) b = sc R b := by
  unfold sc
  exact sI_congr (fun i _ _ => by (try dsimp only); rw [RU_o (by omega)])
theorem RU_ns : ns (RU R m) = ns R := by
  unfold ns
  rw [RU_sc]
  rfl
theorem RU_np : np (RU R m) = np R := by
  unfold np
  rw [RU_fs]
  rfl
theorem RU_wf (hw : WF R) : WF (RU R m) := by
  obtain ⟨a1, a2, a3, a4⟩ := hw
  refine ⟨a1, a2, fun b b0 b1 => ?_, by rw [RU_np]; exact a4⟩
  have := a3 b b0 b1
  have e4 : rc (RU R m) b 4 = 0 ∨ rc (RU R m) b 4 = rc R b 4 := by
    rw [RU_rc]
    split
    · exact Or.inl rfl
    · exact Or.inr rfl
  unfold WFb at this ⊢
  rw [RU_o (w := 0) (by omega), RU_o (w := 1) (by omega), RU_o (w := 2) (by omega), RU_o (w := 3) (by omega), RU_o (w := 5) (by omega), RU_o (w := 6) (by omega), RU_o (w := 7) (by omega), RU_o (w := 12) (by omega), RU_o (w := 13) (by omega), RU_o (w := 14) (by omega), RU_o (w := 15) (by omega)]
  omega
theorem RU_ow {p : Int} : ow (RU R m) p = ow R p := by
  unfold ow
  exact sI_congr (fun i _ _ => by (try dsimp only); rw [RU_fs])
theorem RU_nu {p : Int} : nu (RU R m) p = nu R p := by
  unfold nu
  rw [RU_ow, RU_fs]
theorem RU_bg {s : Int} : bg (RU R m) s = bg R s := by
  have e : sbk (RU R m) s = sbk R s := by
    unfold sbk
    exact sI_congr (fun i _ _ => by (try dsimp only); rw [RU_sc])
  unfold bg
  rw [e, RU_fs]
theorem RU_eb {b i : Int} (h : eb R b i) : eb (RU R m) b i := by
  have r2 : rs (RU R m) 2 = rs R 2 := rfl
  have r3 : rs (RU R m) 3 = rs R 3 := rfl
  have r4 : rs (RU R m) 4 = rs R 4 := rfl
  unfold eb at h ⊢
  rw [r2, r3, r4, RU_o (w := 0) (by omega), RU_o (w := 1) (by omega), RU_o (w := 5) (by omega), RU_o (b := b - 1) (w := 0) (by omega)]
  by_cases c : rc R b 1 ≤ i
  · rw [if_pos c] at h ⊢
    refine ⟨h.1, ?_⟩
    rw [RU_rc]
    split
    · rfl
    · exact h.2
  · rw [if_neg c] at h ⊢
    exact h
theorem RU_en {e : Int} (h : en R e) : en (RU R m) e := by
  unfold en at h ⊢
  rcases h with ⟨s, s0, s1, h⟩ | ⟨e0, e1, h⟩
  · exact Or.inl ⟨s, s0, by rw [RU_ns]; exact s1, by rw [RU_bg, RU_bg]; exact h⟩
  · exact Or.inr ⟨e0, by rw [RU_np]; exact e1, by rw [RU_ow, RU_nu]; exact RU_eb h⟩
/-- more ENDS bear more -/
theorem be_more {R' : aRun} (hw : WF R) (hw' : WF R') {s h : Int} (hh : h ≤ 2000) (hbg : bg R' (s + 1) = bg R (s + 1)) (hlo : ∀ p e c, lo R' p e c h = lo R p e c h) (hen : ∀ e, en R e → en R' e) : ∀ (k : Nat) (p : Int), 0 ≤ p → be R s h k p ≤ be R' s h k p := by
  intro k
  induction k with
  | zero =>
    intro p _
    rw [be_0, be_0, hbg]
    exact Int.le_refl _
  | succ k ih =>
    intro p h0
    by_cases c : be R s h (k + 1) p < 0
    · have := be_ge (R := R') (s := s) (h := h) (p := p) (k := k + 1)
      omega
    · obtain ⟨e, e0, e1, e2, e3, e4⟩ := (be_iff hw h0 (by omega) hh).mp (Int.le_refl (be R s h (k + 1) p))
      refine (be_iff hw' h0 (by omega) hh).mpr ⟨e, e0, by rw [hbg]; exact e1, hen e e2, by rw [hlo]; exact e3, ?_⟩
      rw [hlo]
      have := ih e (by omega)
      omega
theorem RU_nt {b l : Int} : nt (RU R m) b l = nt R b l := by
  unfold nt
  simp (disch := omega) only [RU_o]
theorem RU_pH {p : Int} : pH (RU R m) p = pH R p := by
  unfold pH
  rw [RU_nu, RU_ow, RU_o (by omega), RU_o (by omega)]
theorem RU_pG {p : Int} : pG (RU R m) p = pG R p := by
  unfold pG
  rw [RU_nu, RU_ow, RU_o (by omega)]
theorem RU_pT {p : Int} : pT (RU R m) p = pT R p := by
  unfold pT
  rw [RU_nu, RU_ow, RU_o (by omega)]
theorem RU_pN {p : Int} : pN (RU R m) p = pN R p := by
  unfold pN
  rw [RU_nu, RU_ow, RU_nt]
theorem RU_hT {p : Int} : hT (RU R m) p = hT R p := by
  unfold hT
  exact sI_congr (fun i _ _ => by (try dsimp only); rw [RU_pH, RU_pG])
theorem RU_lT {p : Int} : lT (RU R m) p = lT R p := by
  unfold lT
  exact sI_congr (fun i _ _ => by rw [RU_pN])
theorem RU_ll {p : Int} : ll (RU R m) p = ll R p := by
  have key : ∀ n : Nat, llN (RU R m) n = llN R n := by
    intro n
    induction n with
    | zero => rfl
    | succ n ih =>
      show (if pN (RU R m) (n : Int) ≤ 0 then llN (RU R m) n else pN (RU R m) (n : Int)) = (if pN R (n : Int) ≤ 0 then llN R n else pN R (n : Int))
      rw [ih, RU_pN]
  exact key _
theorem RU_lo {p e c h : Int} : lo (RU R m) p e c h = lo R p e c h := by
  have e1 : tx (RU R m) p e = tx R p e := by
    unfold tx
    rw [RU_hT, RU_hT, RU_pG, RU_pT]
  have e2 : ol (RU R m) p e = ol R p e := by
    unfold ol
    rw [RU_lT, RU_lT]
  have e3 : ∀ x, li (RU R m) x = li R x := fun _ => rfl
  unfold lo
  rw [e1, e2, RU_ll, e3]
/-- untied wholly, it bears at least as much -/
theorem RU_more {t : Int} (hw : WF R) {s h : Int} (hh : h ≤ 2000) (hi : ∀ b, bt m b = true → bt t b = true) : ∀ (k : Nat) (p : Int), 0 ≤ p → be (RU R m) s h k p ≤ be (RU R t) s h k p :=
  be_more (R := RU R m) (R' := RU R t) (RU_wf hw) (RU_wf hw) hh (by rw [RU_bg, RU_bg]) (fun p e c => by rw [RU_lo, RU_lo]) (fun e he => by
    have e1 := RU_en (R := RU R m) (m := t) he
    have e2 : RU (RU R m) t = RU R t := by
      unfold RU
      congr 2
      funext b w
      by_cases c : w = 4 ∧ bt t b = true
      · rw [if_pos c, if_pos c]
      · rw [if_neg c, if_neg c]
        show (if w = 4 ∧ bt m b = true then 0 else R.2.2 b w) = R.2.2 b w
        rw [if_neg (fun q => c ⟨q.1, hi b q.2⟩)]
    rwa [e2] at e1)
end
