/-! ===== the law's acts: a RUN told ===== -/
section
variable {Y : yY} {κ : iMem} {d : yD} {p : Nat} {kept : Option Nat} {R : aRun} {H : Nat → aRun} {n : Nat} {x : Int} {K : Int → aRun} {f9 T : Int → Int} {i : Int}
theorem act_told {Q : (Unit ⊕ (Option Nat × Option Nat × Int × Int × Int)) → yW → Prop} (hI : cI R H n x K f9 0 T κ) (hS : yS9 Y (κ, d)) (hC : SC Y (κ, d) p) (hi : 0 ≤ i ∧ i ≤ 26)
    (hQ : ∀ κ1 d1 rp R1 x1 T1, cI R1 H 0 x1 K f9 0 T1 κ1 → LR (κ1, d1) rp R1 (fun q => w_sz ((κ, d) : yW) ≤ q) → MB R1 → yG y0 42 1021 (κ, d) (κ, d1) → Q (Sum.inr (some rp, kept, 1, 1, 1)) (κ1, d1)) :
    yp (yB (yK (kf_LRun_some Y (some p) ((40 : Int) + ((20 : Int) * i)) (6 : Int))) fun x156 =>
                yB (yP x156) fun x157 =>
                yB (yP (1 : Int)) fun x158 =>
                yB (yKr 20 x157 (kf_LRun_told Y x157)) fun x159 =>
                yB (yK (kf_Law_says Y x159)) fun x160 =>
                yB (α := Int) (
                  yB (α := (Unit ⊕ Int)) (
                    yB (yR x160) fun _ =>
                    if x160 = 0 then
                      yP (Sum.inl ())
                    else
                      yB (yC ([] : List Int) (iz_Top_tell 0)) fun x163 =>
                      yB (yKr 20 x157 (kf_LRun_pieces Y x157)) fun x164 =>
                      yB (yR2 x163 x164) fun _ =>
                      if ¬ x163 = x164 then
                        yP (Sum.inl ())
                      else
                        yB (yC ([(4 : Int)] : List Int) (iz_Top_count 0 (4 : Int))) fun x165 =>
                        yB (yR x165) fun _ =>
                        if ¬ x165 = 0 then
                          yP (Sum.inl ())
                        else
                          yB (yC ([(5 : Int)] : List Int) (iz_Top_count 0 (5 : Int))) fun x166 =>
                          yB (yR x166) fun _ =>
                          if ¬ x166 = 0 then
                            yP (Sum.inl ())
                          else
                            yP (Sum.inr (1 : Int))) (Sum.elim (fun s162 =>
                      yP (0 : Int)) yP)) fun s161 =>
                yB (yP s161) fun x167 =>
                yP (Sum.inr (x157, kept, x167, (1 : Int), x158))) Q (κ, d) := by
  refine yb_K (run_some hC ⟨by omega, by omega⟩ (fun w1 R0 g1 l1 hT => ⟨⟨g1.2.1.1, g1.2.2.1.1⟩, yb_P (yb_P ?_)⟩))
  have S1 : yS9 Y w1 := hS.keep g1 (fun _ _ z => z)
  have hn := hT.1.1
  have tl := yTt_len hT.1 (rn R0).toNat (by omega)
  refine yb_Kr (Or.inl (by rw [l1.many.1])) (run_told S1 l1 hT.1 (fun w2 q v g2 t2 qv => ⟨⟨g2.2.1.1, g2.2.2.1.1⟩, ?_⟩))
  have I2 : cI R H n x K f9 0 T w2.1 := by rw [g2.1, g1.1]; exact hI
  refine yb_K (run_says I2 t2 qv.2 (by omega) (fun w3 x3 T3 g3 I3 hT3 => ⟨⟨g3.2.1.1, g3.2.2.1.1⟩, ?_⟩))
  have g12 : yG y0 22 921 (κ, d) w2 := (g1.trans g2 (fun _ _ z => z))
  have g13 : yG y0 42 1021 (κ, d) (κ, w3.2) := (g12.trans (g3 : yG y0 20 100 w2 (w2.1, w3.2)) (fun _ _ z => z)).2 |> fun h => ⟨rfl, h⟩
  have l3 : LR w3 (w_sz ((κ, d) : yW)) R0 (fun q => w_sz ((κ, d) : yW) ≤ q) := by
    have a := l1.keep g2 (fun _ _ _ z => z)
    exact (a.keep (g3 : yG y0 20 100 w2 (w2.1, w3.2)) (fun _ _ _ z => z) : LR (w2.1, w3.2) _ _ _)
  obtain ⟨R2, hA, hP⟩ := par_all (L := ((yTt R0 (rn R0).toNat).length : Int)) (T := T3) hT ⟨Int.le_refl _, by omega, fun j hj => by
    rw [Int.zero_add, hT3 j (by omega) (by omega)]
    unfold lc
    rw [Int.toNat_natCast]⟩
  have l4 : LR w3 (w_sz ((κ, d) : yW)) R2 (fun q => w_sz ((κ, d) : yW) ≤ q) := l3.ext hA.1 hA.2.1 (fun c u c0 cn hu => hA.2.2 c u c0 cn hu)
  have hMB : MB R2 := fun c c0 cn => by
    have cn' : c < rn R0 := by rw [← hA.1]; exact cn
    rw [hA.2.2 c 8 c0 cn' (Or.inl ⟨by decide, by decide⟩)]
    have := (hT.1.2.2 c c0 cn').2 8 (by decide) (by decide)
    omega
  obtain ⟨κ3, d3⟩ := w3
  have np9 : np R2 = np R0 := hA.npv
  have hfs : 0 ≤ np R0 ∧ np R0 ≤ 30 := hT.fsv hn.1 (Int.le_refl _)
  have h1s : ∀ j, 0 ≤ j → j < rn R0 → 0 ≤ rc R0 j 1 ∧ rc R0 j 1 ≤ 30 := fun j j0 jn => by
    have a := (hT.2.2 j j0 jn).2
    have b := (hT.1.2.2 j j0 jn).2 1 (by decide) (by decide)
    omega
  refine yp_bind (R := fun v w4 => v = 1 ∧ ∃ κ4 x4, w4 = (κ4, d3) ∧ cI R2 H 0 x4 K f9 0 T3 κ4) ?_ (fun v w4 h => ?_)
  · refine yp_bind (R := fun v w4 => v = Sum.inr 1 ∧ ∃ κ4 x4, w4 = (κ4, d3) ∧ cI R2 H 0 x4 K f9 0 T3 κ4) ?_ (fun v w4 h => by obtain ⟨rfl, h⟩ := h; exact yp_P ⟨rfl, h⟩)
    refine yb_R (by decide) (yp_ifF (by decide) ?_)
    refine yq_act (ca_tell (S := SS (np R2) R2 H 0 K f9 0 T3) I3 hP SS_i) xs0 (fun x4 κ4 I4 => ?_)
    have l5 : LR (κ4, d3) (w_sz ((κ, d) : yW)) R0 (fun q => w_sz ((κ, d) : yW) ≤ q) := l3
    refine yb_Kr (Or.inl (by rw [l5.many.1])) (run_pieces l5 h1s ⟨⟨Nat.le_refl _, Nat.le_refl _⟩, yq_eq np9 (iR_small ⟨by omega, by omega⟩) ?_⟩)
    refine yq_count I4 4 (by decide) (fun κ5 I5 => yb_R (show iR 0 by decide) (yp_ifF (fun z => z rfl) ?_))
    exact yq_count I5 5 (by decide) (fun κ6 I6 => yb_R (show iR 0 by decide) (yp_ifF (fun z => z rfl) (yp_P ⟨rfl, κ6, x4, rfl, I6⟩)))
  · obtain ⟨rfl, κ4, x4, rfl, I4⟩ := h
    exact yb_P (yp_P (hQ κ4 d3 _ R2 x4 T3 I4 l4 hMB g13))
end
