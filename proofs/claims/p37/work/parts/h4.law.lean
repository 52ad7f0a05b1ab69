/-! ===== the law: acts, the beginning ===== -/
abbrev aSt8 : Type := Int → aRun → (Nat → aRun) → Nat → (Int → aRun) → (Int → Int) → Int → (Int → Int) → Prop
def SS (v0 : Int) (R0 : aRun) (H0 : Nat → aRun) (n0 : Nat) (K0 : Int → aRun) (f0 : Int → Int) (L0 : Int) (T0 : Int → Int) : aSt8 := fun v R H n K f L T => v = v0 ∧ R = R0 ∧ H = H0 ∧ n = n0 ∧ K = K0 ∧ f = f0 ∧ L = L0 ∧ T = T0
theorem SS_i {v0 : Int} {R0 : aRun} {H0 : Nat → aRun} {n0 : Nat} {K0 : Int → aRun} {f0 : Int → Int} {L0 : Int} {T0 : Int → Int} : SS v0 R0 H0 n0 K0 f0 L0 T0 v0 R0 H0 n0 K0 f0 L0 T0 := ⟨rfl, rfl, rfl, rfl, rfl, rfl, rfl, rfl⟩
theorem yq_act {β : Type} {Q : β → yW → Prop} {κ : iMem} {d : yD} {m : iM Int} {xs : List Int} {f : Int → yM β} {v0 : Int} {R0 : aRun} {H0 : Nat → aRun} {n0 : Nat} {K0 : Int → aRun} {f0 : Int → Int} {L0 : Int} {T0 : Int → Int} (hA : aC m κ (SS v0 R0 H0 n0 K0 f0 L0 T0)) (hx : ∀ z ∈ xs, iR z) (k : ∀ x κ1, cI R0 H0 n0 x K0 f0 L0 T0 κ1 → yp (f v0) Q (κ1, d)) : yp (yB (yC xs m) f) Q (κ, d) := by
  refine yb_C hx (ip_mono hA (fun r κ1 hr => ?_))
  obtain ⟨R', H', n', x', K', f', L', T', ⟨rfl, rfl, rfl, rfl, rfl, rfl, rfl, rfl⟩, hI⟩ := hr
  exact k x' κ1 hI
theorem xs0 : ∀ z ∈ ([] : List Int), iR z := fun z hz => by cases hz
theorem pou_00 : pou R00 = ini R00 := rfl
theorem law_first {Q : (Unit ⊕ Int) → yW → Prop} {κ : iMem} {d : yD} {x5 : Int} {x : Int} {H : Nat → aRun} {K : Int → aRun} {f9 T : Int → Int} (h5 : x5 = 1) (hf : f9 0 = 0) (hI : cI R00 H 0 x K f9 0 T κ) (k : ∀ κ1 x1, cI R00 H 0 x1 K f9 0 T κ1 → Q (Sum.inr 1) (κ1, d)) :
    yp (yB (yR x5) fun _ =>
      if x5 = 0 then
        yP (Sum.inl ())
      else
        yB (yC ([] : List Int) (iz_Top_undo 0)) fun x8 =>
        yB (yR2 x8 (-1 : Int)) fun _ =>
        if ¬ x8 = (-1 : Int) then
          yP (Sum.inl ())
        else
          yB (yC ([(0 : Int)] : List Int) (iz_Top_back 0 (0 : Int))) fun x9 =>
          yB (yR2 x9 (-2 : Int)) fun _ =>
          if ¬ x9 = (-2 : Int) then
            yP (Sum.inl ())
          else
            yB (yC ([(2 : Int)] : List Int) (iz_Top_keep 0 (2 : Int))) fun x10 =>
            yB (yR2 x10 (-1 : Int)) fun _ =>
            if ¬ x10 = (-1 : Int) then
              yP (Sum.inl ())
            else
              yB (yC ([] : List Int) (iz_Top_pour 0)) fun x11 =>
              yB (yR x11) fun _ =>
              if ¬ x11 = 0 then
                yP (Sum.inl ())
              else
                yB (yC ([(2 : Int)] : List Int) (iz_Top_loose 0 (2 : Int))) fun x12 =>
                yB (yR2 x12 (-2 : Int)) fun _ =>
                if ¬ x12 = (-2 : Int) then
                  yP (Sum.inl ())
                else
                  yB (yC ([(-1 : Int), (0 : Int)] : List Int) (iz_Top_column 0 (-1 : Int) (0 : Int))) fun x13 =>
                  yB (yR x13) fun _ =>
                  if ¬ x13 = 0 then
                    yP (Sum.inl ())
                  else
                    yB (yC ([(0 : Int)] : List Int) (iz_Top_least 0 (0 : Int))) fun x14 =>
                    yB (yR2 x14 (-1 : Int)) fun _ =>
                    if ¬ x14 = (-1 : Int) then
                      yP (Sum.inl ())
                    else
                      yB (yC ([(0 : Int)] : List Int) (iz_Top_again 0 (0 : Int))) fun x15 =>
                      yB (yR2 x15 (-1 : Int)) fun _ =>
                      if ¬ x15 = (-1 : Int) then
                        yP (Sum.inl ())
                      else
                        yB (yC ([(0 : Int), (0 : Int)] : List Int) (iz_Top_swap 0 (0 : Int) (0 : Int))) fun x16 =>
                        yB (yR2 x16 (-1 : Int)) fun _ =>
                        if ¬ x16 = (-1 : Int) then
                          yP (Sum.inl ())
                        else
                          yP (Sum.inr (1 : Int))) Q (κ, d) := by
  subst h5
  have nb : ¬ (0 ≤ (0 : Int) ∧ (0 : Int) < rn R00) := fun z => absurd z.2 (by decide)
  have n2 : ¬ (0 ≤ (2 : Int) ∧ (2 : Int) < 2) := by decide
  have a0 : ans R00 = 0 := by
    unfold ans
    rw [pou_00, if_pos (show aSt (ini R00) = -1 from rfl), if_pos (show ns R00 = 0 from rfl)]
  have p0 : pcn (pou R00).1 = 0 := rfl
  refine yb_R (by decide) (yp_ifF (by decide) ?_)
  refine yq_act (ca_undo hI (S := SS (-1) R00 H 0 K f9 0 T) (fun _ => SS_i) (fun z => absurd rfl z)) xs0 (fun x1 κ1 I1 => yq_eq rfl (by decide) ?_)
  refine yq_act (ca_back I1 0 (S := SS (-2) R00 H 0 K f9 0 T) (fun _ _ => SS_i) (fun _ z => absurd (hf.symm.trans z) (by decide)) (fun z => absurd (show 0 ≤ (0 : Int) ∧ (0 : Int) < 2 by decide) z)) (xs1 (by decide)) (fun x2 κ2 I2 => yq_eq rfl (by decide) ?_)
  refine yq_act (ca_keep I2 2 (S := SS (-1) R00 H 0 K f9 0 T) (fun z => absurd z n2) (fun _ => SS_i)) (xs1 (by decide)) (fun x3 κ3 I3 => yq_eq rfl (by decide) ?_)
  refine yq_ask I3 xs0 (fun τ hi _ => gv_pour hi) (fun κ4 I4 => ?_)
  rw [a0]
  refine yb_R (by decide) (yp_ifF (fun z => z rfl) ?_)
  refine yq_ask I4 (xs1 (by decide)) (fun τ hi _ => gv_loose hi p0 rfl) (fun κ5 I5 => yq_eq rfl (by decide) ?_)
  refine yq_ask I5 (xs2 (by decide) (by decide)) (fun τ hi _ => gv_column hi (-1) 0) (fun κ6 I6 => ?_)
  rw [if_pos (show ((-1 : Int) = -1 ∧ (0 : Int) = 0) from ⟨rfl, rfl⟩), p0]
  refine yb_R (by decide) (yp_ifF (fun z => z rfl) ?_)
  refine yq_ask I6 (xs1 (by decide)) (fun τ hi _ => gv_least hi 0) (fun κ7 I7 => ?_)
  have l0 : leaV R00 0 = -1 := if_neg (fun z => absurd z.2 (by decide))
  rw [l0]
  refine yq_eq rfl (by decide) ?_
  refine yq_act (ca_again I7 0 (S := SS (-1) R00 H 0 K f9 0 T) (fun z => absurd z nb) (fun z => absurd z nb) (fun _ => SS_i)) (xs1 (by decide)) (fun x8 κ8 I8 => yq_eq rfl (by decide) ?_)
  exact yq_act (ca_swap I8 0 0 (S := SS (-1) R00 H 0 K f9 0 T) (fun z => absurd z nb) (fun z => absurd z nb) (fun z => absurd z nb) (fun _ => SS_i)) (xs2 (by decide) (by decide)) (fun x9 κ9 I9 => yq_eq rfl (by decide) (yp_P (k κ9 x9 I9)))
