/-! ===== the law's loop ===== -/
theorem yq_same {Y : yY} {γ : Type} {Q : γ → yW → Prop} {g : Int → yM γ} {κ : iMem} {d : yD} {r : Nat} {R : aRun} {S : Nat → Prop} {H : Nat → aRun} {n : Nat} {x : Int} {K : Int → aRun} {f9 : Int → Int} {T : Int → Int} (hI : cI R H n x K f9 0 T κ) (hL : LR (κ, d) r R S) (hMB : MB R) (k : ∀ κ1 d1, cI R H n x K f9 0 T κ1 → yG y0 9 811 (κ, d) (κ, d1) → yp (g 1) Q (κ1, d1)) :
    yp (yB (α := Int) (
            yB (α := (Unit ⊕ Int)) (
              yB (yR (1 : Int)) fun _ =>
              if (1 : Int) = 0 then
                yP (Sum.inl ())
              else
                yB (yK (kf_Law_same Y (some r))) fun x192 =>
                yB (yR x192) fun _ =>
                if x192 = 0 then
                  yP (Sum.inl ())
                else
                  yP (Sum.inr (1 : Int))) (Sum.elim (fun s191 =>
              yP (0 : Int)) yP)) g) Q (κ, d) := by
  refine yp_bind (R := fun v w1 => v = 1 ∧ cI R H n x K f9 0 T w1.1 ∧ yG y0 9 811 (κ, d) (κ, w1.2)) (yp_bind (R := fun v w1 => v = Sum.inr 1 ∧ cI R H n x K f9 0 T w1.1 ∧ yG y0 9 811 (κ, d) (κ, w1.2)) ?_ (fun v w1 h => by obtain ⟨rfl, h⟩ := h; exact yp_P ⟨rfl, h⟩)) (fun v w1 h => ?_)
  · exact yb_R (by decide) (yp_ifF (by decide) (yb_K (run_same (w := (κ, d)) hI hL hMB (fun w1 g1 I1 => ⟨⟨g1.2.1.1, g1.2.2.1.1⟩, yb_R (by decide) (yp_ifF (by decide) (yp_P ⟨rfl, I1, g1⟩))⟩))))
  · obtain ⟨rfl, h1, h2⟩ := h
    exact k w1.1 w1.2 h1 h2
def LI (Y : yY) (w0 : yW) (p : Nat) (s : Option Nat × Option Nat × Int × Int) (w1 : yW) : Prop :=
  s.2.2.1 = 1 ∧ (0 ≤ s.2.2.2 ∧ s.2.2.2 ≤ 26) ∧ (∃ r R S1 H n x K f T, s.1 = some r ∧ cI R H n x K f 0 T w1.1 ∧ LR w1 r R S1 ∧ MB R ∧ (∀ q, S1 q → Y.1 ≤ q ∧ q < w_sz w1) ∧ KPd Y w1 s.2.1 K f S1) ∧ yS9 Y w1 ∧ SC Y w1 p ∧ w_sz w1 ≤ w_sz w0 + 100 + 100 * s.2.2.2.toNat ∧ w_sl w1 ≤ w_sl w0 + 1000 + 3000 * s.2.2.2.toNat
theorem run_law {Y : yY} {w : yW} {p : Nat} {H0 : Nat → aRun} {x0 : Int} {K0 : Int → aRun} {f0 T0 : Int → Int} (hI : cI R00 H0 0 x0 K0 f0 0 T0 w.1) (hf : f0 0 = 0) (hS : yS9 Y w) (hC : SC Y w p) : yp (kf_Law_law Y (some p)) (fun a w1 => a = 1 ∧ w_sz w1 ≤ w_sz w + 2700 ∧ w_sl w1 ≤ w_sl w + 79000) w := by
  have hYB : Y.1 ≤ w_sz w := hS.2.2.2
  unfold kf_Law_law
  refine yb_no (fun w1 e1 => yb_Kr (Or.inl (by rw [e1.kd])) (run_init e1.kd (by have := e1.sz; omega) (by rw [e1.iv]) (fun w2 g2 l2 => ⟨⟨g2.2.1.1, g2.2.2.1.1⟩, yb_P (yb_P ?_)⟩)))
  have z1 := e1.sz
  have G2 : yG y0 4 46 w w2 := (e1.g.trans (D' := fun q => q = w_sz w) g2 (fun q hq e => by omega)).le (fun _ _ z => z) (by omega) (by decide)
  have L2 : LR w2 (w_sz w) R00 (fun q => w_sz w ≤ q) := l2.mono (fun q _ z => by rcases z with z | z <;> omega)
  have I2 : cI R00 H0 0 x0 K0 f0 0 T0 w2.1 := by rw [G2.1]; exact hI
  have M0 : MB R00 := fun b b0 bn => absurd bn (by have : rn R00 = 0 := rfl; omega)
  refine yb_K (run_same I2 L2 M0 (fun w3 g3 I3 => ⟨⟨g3.2.1.1, g3.2.2.1.1⟩, ?_⟩))
  have G3 : yG y0 13 857 w (w.1, w3.2) := G2.trans (g3.κ w.1 |> fun h => (by rw [← G2.1] at h; exact h : yG y0 9 811 w2 (w2.1, w3.2))) (fun _ _ z => z) |> fun h => ⟨rfl, h.2⟩
  have L3 : LR w3 (w_sz w) R00 (fun q => w_sz w ≤ q) := (L2.keep (w1 := (w2.1, w3.2)) g3 (fun _ _ _ z => z) : LR (w2.1, w3.2) _ _ _)
  obtain ⟨κ3, d3⟩ := w3
  refine yp_bind (R := fun v w4 => v = 1 ∧ ∃ κ4 x4, w4 = (κ4, d3) ∧ cI R00 H0 0 x4 K0 f0 0 T0 κ4) (yp_bind (R := fun v w4 => v = Sum.inr 1 ∧ ∃ κ4 x4, w4 = (κ4, d3) ∧ cI R00 H0 0 x4 K0 f0 0 T0 κ4) (law_first rfl hf I3 (fun κ1 x1 I => ⟨rfl, κ1, x1, rfl, I⟩)) (fun v w4 h => by obtain ⟨rfl, h⟩ := h; exact yp_P ⟨rfl, h⟩)) (fun v w4 h => ?_)
  obtain ⟨rfl, κ4, x4, rfl, I4⟩ := h
  have G4 : yG y0 13 857 w (w.1, ((κ4, d3) : yW).2) := G3
  have hS4 : yS9 Y (κ4, d3) := (hS.keep (w1 := (w.1, d3)) G4 (fun _ _ z => z) : yS9 Y (w.1, d3))
  have hC4 : SC Y (κ4, d3) p := (hC.keep (w1 := (w.1, d3)) G4 (fun _ _ z => z) : SC Y (w.1, d3) p)
  have b1 : w_sz ((κ4, d3) : yW) ≤ w_sz w + 13 := G4.2.1.2
  have b2 : w_sl ((κ4, d3) : yW) ≤ w_sl w + 857 := G4.2.2.1.2
  refine yb_P (yb_P ?_)
  refine yp_bind (R := fun a w1 => a = 1 ∧ w_sz w1 ≤ w_sz w + 2700 ∧ w_sl w1 ≤ w_sl w + 79000) ?_ (fun a w1 h => by obtain ⟨rfl, h⟩ := h; exact yb_Nw (by decide) (yp_P ⟨rfl, h⟩))
  refine yp_Lp (LI Y w p) (fun s _ => (26 - s.2.2.2).toNat) ⟨rfl, ⟨Int.le_refl _, (by decide : (0 : Int) ≤ 26)⟩, ⟨_, R00, (fun q => w_sz w ≤ q ∧ q < w_sz ((κ4, d3) : yW)), H0, 0, x4, K0, f0, T0, rfl, I4, (L3.mono (fun q h1 h2 => ⟨h2, h1⟩) : LR (κ3, d3) _ _ _), M0, fun q z => ⟨Nat.le_trans hYB z.1, z.2⟩, Or.inl ⟨rfl, hf⟩⟩, hS4, hC4, by show w_sz ((κ4, d3) : yW) ≤ w_sz w + 100 + 100 * 0; omega, by show w_sl ((κ4, d3) : yW) ≤ w_sl w + 1000 + 3000 * 0; omega⟩ (fun s w1 hs => ?_)
  obtain ⟨o1, kept, o3, i⟩ := s
  obtain ⟨h1, ⟨i0, i1⟩, ⟨r, R, S1, H, n, x, K, f, T, hr, hI, hL, hMB, hS1, hK⟩, hS, hC, hz, hl⟩ := hs
  dsimp only at h1 i0 i1 hr hK hz hl
  subst h1 hr
  dsimp only
  refine yb_R2 ⟨iR_small ⟨by omega, by omega⟩, by decide⟩ (yp_if (fun c => yp_P ⟨rfl, by omega, by omega⟩) (fun c => ?_))
  refine yb_R (by decide) (yp_ifF (by decide) (yb_cell hC ⟨by omega, by omega⟩ (fun y hy => yb_P ?_)))
  generalize ybUshr y 1 = v at hy
  have hn := hL.n
  refine yb_Kr (Or.inl (by rw [hL.many.1])) (run_copy hL (fun w2 g2 l2 => ⟨⟨g2.2.1.1, g2.2.2.1.1⟩, yb_P ?_⟩))
  have I2' : cI R H n x K f 0 T w2.1 := by rw [g2.1]; exact hI
  have hL2 : LR w2 r R S1 := hL.keep g2 (fun _ _ _ z => z)
  have hK2 : KPd Y w2 kept K f S1 := hK.keep g2 (fun _ _ z => z.elim) (fun _ _ z => z)
  have hS2 := hS.keep g2 (fun _ _ z => z)
  have hC2 := hC.keep g2 (fun _ _ z => z)
  have hz2 := g2.2.1
  have hS12 : ∀ q, S1 q → Y.1 ≤ q ∧ q < w_sz w2 := fun q z => ⟨(hS1 q z).1, by have := (hS1 q z).2; omega⟩
  have hYw : Y.1 ≤ w_sz w1 := hS.2.2.2
  obtain ⟨kr, vr⟩ := hL2.many
  refine yb_gt kr vr ?_
  refine yp_bind (R := fun b w4 => (0 ≤ b ∧ b ≤ rn R) ∧ w4 = w2) (yb_R (iR_small ⟨by omega, by omega⟩) (yp_if (fun _ => yb_gt kr vr (yb_RmP (ushr_in (k := 4) ⟨by decide, by decide⟩) ⟨by omega, by omega⟩ (fun q hq => yp_P ⟨⟨hq.1, by omega⟩, rfl⟩))) (fun _ => yp_P ⟨⟨Int.le_refl _, hn.1⟩, rfl⟩))) (fun b w4 h => ?_)
  obtain ⟨hb, rfl⟩ := h
  refine yb_P (yb_gt kr vr ?_)
  refine yp_bind (R := fun is w5 => isB R b is ∧ w5 = w4) (yb_R2 ⟨iR_small ⟨by omega, by omega⟩, iR_small ⟨by omega, by omega⟩⟩ (yp_if (fun z => yp_P ⟨Or.inr ⟨rfl, by omega⟩, rfl⟩) (fun z => yp_P ⟨Or.inl ⟨rfl, by omega⟩, rfl⟩))) (fun is w5 h => ?_)
  obtain ⟨his, rfl⟩ := h
  refine yb_P ?_
  refine yp_bind (R := fun pl w6 => isPl R b pl ∧ w6 = w5) ?_ (fun pl w6 h => ?_)
  · refine yp_bind (R := fun (t : Unit ⊕ Int) w6 => ((t = Sum.inr 1 ∧ (0 ≤ b ∧ b < rn R) ∧ rc R b 0 ≠ 4) ∨ (t = Sum.inl () ∧ ¬ ((0 ≤ b ∧ b < rn R) ∧ rc R b 0 ≠ 4))) ∧ w6 = w5) ?_ (fun t w6 h => ?_)
    · rcases his with ⟨rfl, hbn⟩ | ⟨rfl, hno⟩
      · obtain ⟨bb, kk, r2, kb, -, -, -, -, -, hrow⟩ := hL2.rows
        obtain ⟨q, m, rq, -, Bq, -⟩ := hrow b hbn.1 hbn.2
        have wb := (hI.2.1.1.2.2.1 b hbn.1 hbn.2).1
        exact yb_R (by decide) (yp_ifF (by decide) (yb_gr kr r2 (yb_lr kb ⟨hbn.1, by omega⟩ (by decide) rq (yb_ld Bq.1 (by decide) (by decide) (Bq.2 0 (by decide) (by decide)) (yb_R2 ⟨iR_small ⟨by omega, by omega⟩, by decide⟩ (yp_if (fun z => yp_P ⟨Or.inr ⟨rfl, fun u => u.2 z⟩, rfl⟩) (fun z => yp_P ⟨Or.inl ⟨rfl, hbn, z⟩, rfl⟩)))))))
      · exact yb_R (by decide) (yp_ifT rfl (yp_P ⟨Or.inr ⟨rfl, fun u => hno u.1⟩, rfl⟩))
    · obtain ⟨⟨rfl, h⟩ | ⟨rfl, h⟩, rfl⟩ := h
      · exact yp_P ⟨Or.inl ⟨rfl, h⟩, rfl⟩
      · exact yp_P ⟨Or.inr ⟨rfl, h⟩, rfl⟩
  obtain ⟨hpl, rfl⟩ := h
  refine yb_P (yb_P (yb_P ?_))
  refine yp_bind (R := fun k w7 => (0 ≤ k ∧ k < 10) ∧ w7 = w6) (yb_R (iR_small ⟨by omega, by omega⟩) (yp_if (fun _ => yb_RmP hy (by decide) (fun q hq => yp_P ⟨hq, rfl⟩)) (fun _ => yp_P ⟨by decide, rfl⟩))) (fun k w7 h => ?_)
  obtain ⟨hk, rfl⟩ := h
  obtain ⟨κa, da⟩ := w7
  refine yp_B (law_switch I2' hL2 hMB hS12 hK2 hS2 hC2 ⟨i0, by omega⟩ hy hb his hpl hk (fun κ1 d1 r1 kept1 does told R1 H1 n1 x1 K1 f1 T1 S1' a1 a2 a3 a4 a5 a6 a7 => ?_))
  dsimp only
  have hz5 := a5.2.1
  have hl5 := a5.2.2.1
  have hl2 := g2.2.2.1
  have e2z : w_sz ((κa, da) : yW) ≤ w_sz w1 + 20 := hz2.2
  have e2l : w_sl ((κa, da) : yW) ≤ w_sl w1 + 158 := hl2.2
  have e5z : w_sz ((κ1, d1) : yW) ≤ w_sz ((κa, da) : yW) + 42 := hz5.2
  have e5l : w_sl ((κ1, d1) : yW) ≤ w_sl ((κa, da) : yW) + 1021 := hl5.2
  have hSY : ∀ q, q < Y.1 → ¬ S1 q := fun q hq z => by have := (hS1 q z).1; omega
  have hS5 : yS9 Y (κ1, d1) := (hS2.keep a5 hSY : yS9 Y (κa, d1))
  have hC5 : SC Y (κ1, d1) p := (hC2.keep a5 hSY : SC Y (κa, d1) p)
  refine yq_same a1 a2 a3 (fun κ2 d2 b1 b2 => yb_P ?_)
  have e6z : w_sz ((κ2, d2) : yW) ≤ w_sz ((κ1, d1) : yW) + 9 := b2.2.1.2
  have e6l : w_sl ((κ2, d2) : yW) ≤ w_sl ((κ1, d1) : yW) + 811 := b2.2.2.1.2
  have hS6 : yS9 Y (κ2, d2) := (hS5.keep b2 (fun _ _ z => z) : yS9 Y (κ1, d2))
  have hC6 : SC Y (κ2, d2) p := (hC5.keep b2 (fun _ _ z => z) : SC Y (κ1, d2) p)
  have hL6 : LR (κ2, d2) r1 R1 S1' := (a2.keep b2 (fun _ _ _ z => z) : LR (κ1, d2) r1 R1 S1')
  have hK6 : KPd Y (κ2, d2) kept1 K1 f1 S1' := (a4.keep (S' := S1') b2 (fun _ _ z => z.elim) (fun _ _ z => z) : KPd Y (κ1, d2) kept1 K1 f1 S1')
  have hS16 : ∀ q, S1' q → Y.1 ≤ q ∧ q < w_sz ((κ2, d2) : yW) := fun q z => ⟨(a6 q z).1, Nat.lt_of_lt_of_le (a6 q z).2 b2.2.1.1⟩
  refine yp_bind (R := fun (t : Option Nat × Int) w9 => t.2 = 1 ∧ (∃ r R S1 H n x K f T, t.1 = some r ∧ cI R H n x K f 0 T w9.1 ∧ LR w9 r R S1 ∧ MB R ∧ (∀ q, S1 q → Y.1 ≤ q ∧ q < w_sz w9) ∧ KPd Y w9 kept1 K f S1) ∧ yS9 Y w9 ∧ SC Y w9 p ∧ w_sz w9 ≤ w_sz w1 + 100 ∧ w_sl w9 ≤ w_sl w1 + 3000) ?_ (fun t w9 h => ?_)
  · have stay : (fun (t : Option Nat × Int) w9 => t.2 = 1 ∧ (∃ r R S1 H n x K f T, t.1 = some r ∧ cI R H n x K f 0 T w9.1 ∧ LR w9 r R S1 ∧ MB R ∧ (∀ q, S1 q → Y.1 ≤ q ∧ q < w_sz w9) ∧ KPd Y w9 kept1 K f S1) ∧ yS9 Y w9 ∧ SC Y w9 p ∧ w_sz w9 ≤ w_sz w1 + 100 ∧ w_sl w9 ≤ w_sl w1 + 3000) (some r1, 1) (κ2, d2) := ⟨rfl, ⟨r1, R1, S1', H1, n1, x1, K1, f1, T1, rfl, b1, hL6, a3, hS16, hK6⟩, hS6, hC6, by omega, by omega⟩
    rcases a7 with ⟨rfl, rfl⟩ | ⟨rfl, rfl⟩ | ⟨rfl, rfl, hn1, hH, rfl, rfl, rfl⟩
    · exact yb_R (by decide) (yp_ifT rfl (yp_P stay))
    · exact yb_R (by decide) (yp_ifF (by decide) (yb_R (by decide) (yp_ifT (by decide) (yp_P stay))))
    · refine yb_R (by decide) (yp_ifF (by decide) (yb_R (by decide) (yp_ifF (fun z => z rfl) (yb_R (by decide) (yp_ifF (by decide) (yb_R iR_ybAnd (yp_if (fun _ => yp_P stay) (fun _ => ?_))))))))
      have hn10 : n1 ≤ 10 := b1.2.1.2.1.1
      have lb2 : LR (κa, da) (w_sz w1) R (fun q => w_sz w1 ≤ q ∧ q < w_sz ((κa, da) : yW)) := l2.mono (fun q h1 h2 => ⟨h2, h1⟩)
      have lb5 : LR (κa, d1) (w_sz w1) R (fun q => w_sz w1 ≤ q ∧ q < w_sz ((κa, da) : yW)) := lb2.keep a5 (fun q _ z1 z2 => by have := (hS1 q z2).2; have := z1.1; omega)
      have lb6 : LR (κ1, d2) (w_sz w1) R (fun q => w_sz w1 ≤ q ∧ q < w_sz ((κa, da) : yW)) := LR.keep (w := (κ1, d1)) lb5 b2 (fun _ _ _ z => z)
      have kb2 : KPd Y (κa, da) kept1 K1 f1 (fun q => S1 q ∨ (w_sz w1 ≤ q ∧ q < w_sz ((κa, da) : yW))) := hK.keep g2 (fun _ _ z => z.elim) (fun q hq z => z.elim id (fun u => absurd hq (Nat.not_lt.mpr u.1)))
      have kb5 : KPd Y (κa, d1) kept1 K1 f1 (fun q => w_sz w1 ≤ q ∧ q < w_sz ((κa, da) : yW)) := kb2.keep a5 (fun _ _ z => Or.inl z) (fun _ _ z => Or.inr z)
      have kb6 : KPd Y (κ1, d2) kept1 K1 f1 (fun q => w_sz w1 ≤ q ∧ q < w_sz ((κa, da) : yW)) := KPd.keep (w := (κ1, d1)) kb5 b2 (fun _ _ z => z.elim) (fun _ _ z => z)
      have c4 : couV R1 (n1 : Int) 0 (f1 0 + 2 * f1 1) 4 = (n1 : Int) := rfl
      refine yq_count b1 4 (by decide) (fun κ5 I5 => yb_P ?_)
      rw [c4]
      refine yq_act (ca_undo I5 (S := SS ((n1 - 1 : Nat) : Int) (H1 (n1 - 1)) H1 (n1 - 1) K1 f1 0 T1) (fun z => absurd z hn1) (fun _ => SS_i)) xs0 (fun x6 κ6 I6 => ?_)
      rw [hH] at I6
      refine yp_bind (R := fun v w8 => v = 1 ∧ w8 = (κ6, d2)) (yq_eq (by omega) (iR_small ⟨by omega, by omega⟩) (yp_P ⟨rfl, rfl⟩)) (fun v w8 h => ?_)
      obtain ⟨rfl, rfl⟩ := h
      refine yb_P (yb_P (yq_same (r := w_sz w1) I6 (lb6 : LR (κ6, d2) _ _ _) hMB (fun κ7 d7 I7 g7 => yb_P (yp_P ?_))))
      have e7z : w_sz ((κ7, d7) : yW) ≤ w_sz ((κ6, d2) : yW) + 9 := g7.2.1.2
      have e7l : w_sl ((κ7, d7) : yW) ≤ w_sl ((κ6, d2) : yW) + 811 := g7.2.2.1.2
      have e26 : w_sz ((κ6, d2) : yW) = w_sz ((κ2, d2) : yW) := rfl
      have e26l : w_sl ((κ6, d2) : yW) = w_sl ((κ2, d2) : yW) := rfl
      have hS7 : yS9 Y (κ6, d7) := yS9.keep (w := (κ6, d2)) hS6 g7 (fun _ _ z => z)
      have hC7 : SC Y (κ6, d7) p := SC.keep (w := (κ6, d2)) hC6 g7 (fun _ _ z => z)
      have hL7 : LR (κ6, d7) (w_sz w1) R (fun q => w_sz w1 ≤ q ∧ q < w_sz ((κa, da) : yW)) := LR.keep (w := (κ6, d2)) lb6 g7 (fun _ _ _ z => z)
      have hK7 : KPd Y (κ6, d7) kept1 K1 f1 (fun q => w_sz w1 ≤ q ∧ q < w_sz ((κa, da) : yW)) := KPd.keep (w := (κ6, d2)) kb6 g7 (fun _ _ z => z.elim) (fun _ _ z => z)
      have m1 : w_sz ((κa, da) : yW) ≤ w_sz ((κ1, d1) : yW) := hz5.1
      have m2 : w_sz ((κ1, d1) : yW) ≤ w_sz ((κ2, d2) : yW) := b2.2.1.1
      have m3 : w_sz ((κ6, d2) : yW) ≤ w_sz ((κ7, d7) : yW) := g7.2.1.1
      exact ⟨rfl, ⟨w_sz w1, R, _, H1, n1 - 1, x6, K1, f1, T1, rfl, I7, hL7, hMB, fun q z => ⟨Nat.le_trans hYw z.1, by have := z.2; show q < w_sz ((κ7, d7) : yW); omega⟩, hK7⟩, hS7, hC7, by show w_sz ((κ7, d7) : yW) ≤ _; omega, by show w_sl ((κ7, d7) : yW) ≤ _; omega⟩
  · obtain ⟨t1, t2⟩ := t
    obtain ⟨h1, h2, h3, h4, h5, h6⟩ := h
    dsimp only at h1 h2
    subst h1
    have ei : (i + 1).toNat = i.toNat + 1 := by omega
    have q1 : w_sz w9 ≤ w_sz w + 100 + 100 * (i + 1).toNat := by omega
    have q2 : w_sl w9 ≤ w_sl w + 1000 + 3000 * (i + 1).toNat := by omega
    have q3 : (26 - (i + 1)).toNat < (26 - i).toNat := by omega
    have q4 : 0 ≤ i + 1 ∧ i + 1 ≤ 26 := by omega
    exact yb_P (yp_P ⟨⟨rfl, q4, h2, h3, h4, q1, q2⟩, q3⟩)
