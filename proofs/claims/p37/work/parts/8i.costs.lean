section
variable {τ : iMem} {R : aRun}
theorem ip_leastOf {pr ft fl ru ra sp : Nat} {nr s : Int} {Q : Int → iMem → Prop} (hp : isPress pr ft fl ru ra sp nr) (hw : WF R) (hx : Cx R ft fl ru τ) (a1 : 0 ≤ s) (a2 : s < ns R)
    (hQ : ∀ τ', FtI R ft τ' → (∀ a k, ¬ fw ft a k → τ' a k = τ a k) → Q (lst R s (bg R s) 0 2000) τ') : ip (iz_Fitter_leastOf ft s) Q τ := by
  have hns := ns_in hw
  have hn16 := hw.1.2
  have hb := bg_step hw s
  have hf := pr_F hp
  have hff := ft_F hf
  unfold iz_Fitter_leastOf
  rw [ip_B, ft_1 hf, fl_16 hff, ip_at a1 (by rw [fl_l13 hff]; omega), (hx.2.1.2.2.2.2 s a1 a2).1, ip_B]
  refine ip_leastFrom hf hw hx.1 hx.2.1 hx.2.2.1 hx.2.2.2 a1 a2 (Int.le_refl _) hb.2.1 (en_begin a1 a2) (Int.le_refl _) (by omega) (by omega) (Int.le_refl _) (fun τ2 hF hk => ?_)
  rw [ip_P]
  exact hQ τ2 hF hk
theorem lst_in (hw : WF R) {s : Int} : lst R s (bg R s) 0 2000 = -2 ∨ (0 ≤ lst R s (bg R s) 0 2000 ∧ lst R s (bg R s) 0 2000 ≤ 2000) := by
  have hb := bg_step hw s
  rcases lst_or hw (s := s) (p := bg R s) (c := 0) (top := 2000) (by omega) (by omega) (by omega) with h | h
  · exact Or.inl h.1
  · exact Or.inr ⟨h.1.1.1, h.2⟩
/-- a cell of every BLOCK at nought -/
def RC (R : aRun) (j : Int) : aRun := (R.1, R.2.1, fun b w => if w = j then 0 else R.2.2 b w)
theorem RC_rc {j b w : Int} : rc (RC R j) b w = if w = j then 0 else rc R b w := rfl
theorem RC_fs {j b : Int} (h : j = 4 ∨ j = 5) : fs (RC R j) b = fs R b := by
  unfold fs
  exact sI_congr (fun i _ _ => by (try dsimp only); rw [RC_rc, if_neg (by omega)])
theorem RC_sc {j b : Int} (h : j = 4 ∨ j = 5) : sc (RC R j) b = sc R b := by
  unfold sc
  exact sI_congr (fun i _ _ => by (try dsimp only); rw [RC_rc, if_neg (show ¬ (0 : Int) = j by omega)])
theorem RC_ns {j : Int} (h : j = 4 ∨ j = 5) : ns (RC R j) = ns R := by
  unfold ns
  rw [RC_sc h]
  rfl
theorem RC_wf {j : Int} (h : j = 4 ∨ j = 5) (hw : WF R) : WF (RC R j) := by
  obtain ⟨a1, a2, a3, a4⟩ := hw
  refine ⟨a1, a2, fun b b0 b1 => ?_, ?_⟩
  · have := a3 b b0 b1
    unfold WFb at this ⊢
    rw [RC_rc, RC_rc, RC_rc, RC_rc, RC_rc, RC_rc, RC_rc, RC_rc, RC_rc, RC_rc, RC_rc, RC_rc, if_neg (show ¬ (0 : Int) = j by omega), if_neg (show ¬ (1 : Int) = j by omega), if_neg (show ¬ (2 : Int) = j by omega), if_neg (show ¬ (3 : Int) = j by omega), if_neg (show ¬ (6 : Int) = j by omega), if_neg (show ¬ (7 : Int) = j by omega), if_neg (show ¬ (12 : Int) = j by omega), if_neg (show ¬ (13 : Int) = j by omega), if_neg (show ¬ (14 : Int) = j by omega), if_neg (show ¬ (15 : Int) = j by omega)]
    rcases h with rfl | rfl
    · rw [if_pos rfl, if_neg (show ¬ (5 : Int) = 4 by omega)]
      omega
    · rw [if_pos rfl, if_neg (show ¬ (4 : Int) = 5 by omega)]
      omega
  · have e : np (RC R j) = np R := by
      unfold np
      rw [RC_fs h]
      rfl
    rw [e]; exact a4
/-- without a law -/
def RW (R : aRun) (k : Int) : aRun := if k = 0 then RS R 2 1 else if k = 1 then RS R 3 1 else if k = 2 then RS R 4 0 else if k = 3 then RC R 4 else RC R 5
theorem RW_is {k : Int} (P : aRun → Prop) (h0 : k = 0 → P (RS R 2 1)) (h1 : k = 1 → P (RS R 3 1)) (h2 : k = 2 → P (RS R 4 0)) (h3 : k = 3 → P (RC R 4)) (h4 : k ≠ 0 → k ≠ 1 → k ≠ 2 → k ≠ 3 → P (RC R 5)) : P (RW R k) := by
  unfold RW
  by_cases c0 : k = 0
  · rw [if_pos c0]; exact h0 c0
  · rw [if_neg c0]
    by_cases c1 : k = 1
    · rw [if_pos c1]; exact h1 c1
    · rw [if_neg c1]
      by_cases c2 : k = 2
      · rw [if_pos c2]; exact h2 c2
      · rw [if_neg c2]
        by_cases c3 : k = 3
        · rw [if_pos c3]; exact h3 c3
        · rw [if_neg c3]; exact h4 c0 c1 c2 c3
theorem RW_wf {k : Int} (hw : WF R) : WF (RW R k) :=
  RW_is (fun A => WF A) (fun _ => RS_wf hw (by unfold okS lwV hiV; omega)) (fun _ => RS_wf hw (by unfold okS lwV hiV; omega)) (fun _ => RS_wf hw (by unfold okS lwV hiV; omega)) (fun _ => RC_wf (Or.inl rfl) hw) (fun _ _ _ _ => RC_wf (Or.inr rfl) hw)
theorem RW_ns {k : Int} : ns (RW R k) = ns R := RW_is (fun A => ns A = ns R) (fun _ => rfl) (fun _ => rfl) (fun _ => rfl) (fun _ => RC_ns (Or.inl rfl)) (fun _ _ _ _ => RC_ns (Or.inr rfl))
theorem RW_rn {k : Int} : rn (RW R k) = rn R := RW_is (fun A => rn A = rn R) (fun _ => rfl) (fun _ => rfl) (fun _ => rfl) (fun _ => rfl) (fun _ _ _ _ => rfl)
theorem ip_put {j x : Int} {Q : Unit → iMem → Prop} (hS : InvS τ) (hs : okS j x) (hQ : Q () (iu τ 324 j x)) : ip (iz_Run_put 323 j x) Q τ := by
  have hs' := hs
  unfold okS at hs'
  unfold iz_Run_put
  rw [ip_B]
  refine ip_takes hS (fun r' hr' => ?_)
  have hr'' : r' = 1 := by
    rcases hr' with h | h
    · exact h.1
    · exact absurd hs h.2
  rw [ip_ifF (by omega), ip_B, ip_St, rr_1 r_323, rl_1 r_323]
  refine ⟨⟨⟨by omega, by omega⟩, by omega⟩, ?_⟩
  rw [ip_P]; exact hQ
noncomputable def cosV (R : aRun) (s k : Int) : Int := if (0 ≤ s ∧ s < ns R) ∧ 0 ≤ k ∧ k ≤ 4 then (if lst R s (bg R s) 0 2000 = -2 then -2 else lst R s (bg R s) 0 2000 - lst (RW R k) s (bg (RW R k) s) 0 2000) else -1
end
