/-! ===== the law's acts: RUNS kept, gone back to ===== -/
theorem act_keep {Y : yY} {κ : iMem} {d : yD} {r : Nat} {kept : Option Nat} {R : aRun} {S1 : Nat → Prop} {H : Nat → aRun} {n : Nat} {x : Int} {K : Int → aRun} {f9 T : Int → Int} {x22 : Int} {Q : aQ9} (hI : cI R H n x K f9 0 T κ) (hL : LR (κ, d) r R S1)
    (hK : (kept = none ∧ f9 0 = 0) ∨ ∃ kp S2, kept = some kp ∧ f9 0 = 1 ∧ LR (κ, d) kp (K 0) S2)
    (hQ1 : ∀ κ1 d1 kp x1, cI R H n x1 (fun i => if i = 0 then R else K i) (fun i => if i = 0 then 1 else f9 i) 0 T κ1 → LR (κ1, d1) kp R (fun q => w_sz ((κ, d) : yW) ≤ q) → yG y0 20 158 (κ, d) (κ, d1) → Q (Sum.inr (Sum.inr (some r, some kp, 1, 0, 0))) (κ1, d1))
    (hQ2 : ∀ κ1 d1 rp x1, kept ≠ none → cI (K 0) H 0 x1 K f9 0 T κ1 → LR (κ1, d1) rp (K 0) (fun q => w_sz ((κ, d) : yW) ≤ q) → yG y0 20 158 (κ, d) (κ, d1) → Q (Sum.inr (Sum.inr (some rp, kept, 1, 0, 0))) (κ1, d1)) :
    yp (yB (yP (0 : Int)) fun x140 =>
                yB (α := (Unit ⊕ (Unit ⊕ (Unit ⊕ (Option Nat × Option Nat × Int × Int × Int))))) (
                  yB (yR (ybAnd (ybUshr x22 (8 : Int)) (1 : Int))) fun _ =>
                  if (ybAnd (ybUshr x22 (8 : Int)) (1 : Int)) = 0 then
                    yP (Sum.inl ())
                  else
                    if ¬ kept = none then
                      yB (yC ([(0 : Int)] : List Int) (iz_Top_back 0 (0 : Int))) fun x142 =>
                      yB (yGt 20 kept 1) fun x143 =>
                      yB (α := Int) (
                        yB (α := (Unit ⊕ Int)) (
                          yB (yR2 x142 x143) fun _ =>
                          if ¬ x142 = x143 then
                            yP (Sum.inl ())
                          else
                            yB (yC ([(4 : Int)] : List Int) (iz_Top_count 0 (4 : Int))) fun x146 =>
                            yB (yR x146) fun _ =>
                            if ¬ x146 = 0 then
                              yP (Sum.inl ())
                            else
                              yP (Sum.inr (1 : Int))) (Sum.elim (fun s145 =>
                          yP (0 : Int)) yP)) fun s144 =>
                      yB (yP s144) fun x147 =>
                      yB (yKr 20 kept (kf_LRun_copy Y kept)) fun x148 =>
                      yB (yP x148) fun x149 =>
                      yP (Sum.inr (Sum.inr (Sum.inr (x149, kept, x147, x140, (0 : Int)))))
                    else
                      yP (Sum.inl ())) (Sum.elim (fun s141 =>
                  yB (yC ([(0 : Int)] : List Int) (iz_Top_keep 0 (0 : Int))) fun x150 =>
                  yB (yGt 20 (some r) 1) fun x151 =>
                  yB (α := Int) (
                    yB (yR2 x150 x151) fun _ =>
                    if ¬ x150 = x151 then
                      yP (0 : Int)
                    else
                      yP (1 : Int)) fun s152 =>
                  yB (yP s152) fun x153 =>
                  yB (yKr 20 (some r) (kf_LRun_copy Y (some r))) fun x154 =>
                  yB (yP x154) fun x155 =>
                  yP (Sum.inr (Sum.inr ((some r), x155, x153, x140, (0 : Int))))) yP)) Q (κ, d) := by
  have hw : WF R := hI.2.1.1
  have hn := hw.1
  have fin1 : ∀ {β : Type} {Q : β → yW → Prop} {g : Int → yM β} {a e : Int} {w : yW}, a = e → iR e → yp (g 1) Q w → yp (yB (α := Int) (yB (yR2 a e) fun _ => if ¬ a = e then yP (0 : Int) else yP (1 : Int)) g) Q w := fun h h2 h3 => yp_B (yq_eq h h2 (yp_P h3))
  refine yb_P ?_
  refine yp_bind (R := fun v w1 => (v = Sum.inl () ∧ w1 = (κ, d)) ∨ ∃ t, v = Sum.inr (Sum.inr (Sum.inr t)) ∧ Q (Sum.inr (Sum.inr t)) w1) ?_ (fun v w1 h => ?_)
  · refine yb_R iR_ybAnd (yp_if (fun _ => yp_P (Or.inl ⟨rfl, rfl⟩)) (fun _ => yp_if (fun hk => ?_) (fun _ => yp_P (Or.inl ⟨rfl, rfl⟩))))
    rcases hK with ⟨e, -⟩ | ⟨kp, S2, rfl, hf, hL2⟩
    · exact absurd e hk
    · have hn2 := hL2.n
      refine yq_act (ca_back hI 0 (S := SS (rn (K 0)) (K 0) H 0 K f9 0 T) (fun _ z => absurd (hf.symm.trans z) (by decide)) (fun _ _ => SS_i) (fun z => absurd (show 0 ≤ (0 : Int) ∧ (0 : Int) < 2 by decide) z)) (xs1 (by decide)) (fun x1 κ1 I1 => ?_)
      have hL3 : LR (κ1, d) kp (K 0) S2 := hL2
      refine yb_gt hL3.many.1 hL3.many.2 ?_
      refine yp_bind (R := fun v w1 => v = 1 ∧ ∃ κ2, w1 = (κ2, d) ∧ cI (K 0) H 0 x1 K f9 0 T κ2) (yp_bind (R := fun v w1 => v = Sum.inr 1 ∧ ∃ κ2, w1 = (κ2, d) ∧ cI (K 0) H 0 x1 K f9 0 T κ2) (yq_eq rfl (iR_small ⟨by omega, by omega⟩) (yq_count I1 4 (by decide) (fun κ2 I2 => yb_R (show iR 0 by decide) (yp_ifF (fun z => z rfl) (yp_P ⟨rfl, κ2, rfl, I2⟩))))) (fun v w1 h => by obtain ⟨rfl, h⟩ := h; exact yp_P ⟨rfl, h⟩)) (fun v w1 h => ?_)
      obtain ⟨rfl, κ2, rfl, I2⟩ := h
      have hL4 : LR (κ2, d) kp (K 0) S2 := hL2
      refine yb_P (yb_Kr (Or.inl (by rw [hL4.many.1])) (run_copy hL4 (fun w3 g3 l3 => ⟨⟨g3.2.1.1, g3.2.2.1.1⟩, yb_P (yp_P (Or.inr ⟨_, rfl, ?_⟩))⟩)))
      obtain ⟨κ3, d3⟩ := w3
      have e3 : κ3 = κ2 := g3.1
      subst e3
      exact hQ2 κ3 d3 _ x1 hk I2 l3 ⟨rfl, g3.2⟩
  · rcases h with ⟨rfl, rfl⟩ | ⟨t, rfl, ht⟩
    · rw [Sum.elim_inl]
      refine yq_act (ca_keep hI 0 (S := SS (rn R) R H n (fun i => if i = 0 then R else K i) (fun i => if i = 0 then 1 else f9 i) 0 T) (fun _ => SS_i) (fun z => absurd (show 0 ≤ (0 : Int) ∧ (0 : Int) < 2 by decide) z)) (xs1 (by decide)) (fun x1 κ1 I1 => ?_)
      have hL3 : LR (κ1, d) r R S1 := hL
      refine yb_gt hL3.many.1 hL3.many.2 (fin1 rfl (iR_small ⟨by omega, by omega⟩) (yb_P (yb_Kr (Or.inl (by rw [hL3.many.1])) (run_copy hL3 (fun w3 g3 l3 => ⟨⟨g3.2.1.1, g3.2.2.1.1⟩, yb_P (yp_P ?_)⟩)))))
      obtain ⟨κ3, d3⟩ := w3
      have e3 : κ3 = κ1 := g3.1
      subst e3
      exact hQ1 κ3 d3 _ x1 I1 l3 ⟨rfl, g3.2⟩
    · exact yp_P ht
