theorem run_some {Y : yY} {w : yW} {p : Nat} {p2 : Int} {Q : Option Nat → yW → Prop} (hSC : SC Y w p) (hp2 : 0 ≤ p2 ∧ p2 ≤ 1000) (k : ∀ w1 R, yG y0 16 100 w w1 → LR w1 (w_sz w) R (fun q => w_sz w ≤ q) → TW R → Q (some (w_sz w)) w1) : yp (kf_LRun_some Y (some p) p2 6) Q w := by
  have hY : Y.1 ≤ w_sz w := hSC.2.1
  unfold kf_LRun_some
  refine yb_no (fun w1 e1 => yb_Kr (Or.inl (by rw [e1.kd])) (run_init e1.kd (by have := e1.sz; omega) (by rw [e1.iv]) (fun w2 g2 l2 => ⟨⟨g2.2.1.1, g2.2.2.1.1⟩, yb_P ?_⟩)))
  have z1 := e1.sz
  have G2 : yG y0 4 46 w w2 := (e1.g.trans (D' := fun q => q = w_sz w) g2 (fun q hq e => by omega)).le (fun _ _ z => z) (by omega) (by decide)
  have L2 : LR w2 (w_sz w) R00 (fun q => w_sz w ≤ q) := l2.mono (fun q _ z => by rcases z with z | z <;> omega)
  have S2 : SC Y w2 p := hSC.keep G2 (fun _ _ z => z)
  obtain ⟨s, rs0, -⟩ := L2.sets
  have kr : ∀ {w9 : yW} {R9 : aRun}, LR w9 (w_sz w) R9 (fun q => w_sz w ≤ q) → w_kd w9 (w_sz w) = (20, 0) := fun h => h.many.1
  have T2 : Sett R00 ∧ rn R00 = 0 := ⟨Sett_00, rfl⟩
  refine yb_gr (kr L2) rs0 (yb_cell S2 ⟨by omega, by omega⟩ (fun x hx => yb_RmP hx (by decide) (fun a ha => yb_set (w0 := w) (by decide) rs0 L2 T2 G2 S2 hY (by unfold lwV hiV; simp; omega) (fun w3 R3 L3 T3 G3 S3 r3 => ?_))))
  have rs3 : w_rv w3 (w_sz w) 0 = some s := by rw [r3]; exact rs0
  refine yb_gr (kr L3) rs3 (yb_cell S3 ⟨by omega, by omega⟩ (fun x hx => yb_RmP hx (by decide) (fun a ha => yb_set (w0 := w) (by decide) rs3 L3 T3 G3 S3 hY (by unfold lwV hiV; simp; omega) (fun w4 R4 L4 T4 G4 S4 r4 => yb_P ?_))))
  have rs4 : w_rv w4 (w_sz w) 0 = some s := by rw [r4]; exact rs3
  refine yp_bind (R := fun _ w5 => ∃ R5, LR w5 (w_sz w) R5 (fun q => w_sz w ≤ q) ∧ (Sett R5 ∧ rn R5 = 0) ∧ yG y0 4 46 w w5 ∧ SC Y w5 p ∧ w_rv w5 (w_sz w) 0 = some s) ?_ (fun _ w5 h5 => ?_)
  · refine yp_Lp (fun i w5 => (2 ≤ i ∧ i ≤ 5) ∧ ∃ R5, LR w5 (w_sz w) R5 (fun q => w_sz w ≤ q) ∧ (Sett R5 ∧ rn R5 = 0) ∧ yG y0 4 46 w w5 ∧ SC Y w5 p ∧ w_rv w5 (w_sz w) 0 = some s) (fun i _ => (5 - i).toNat) ⟨by decide, R4, L4, T4, G4, S4, rs4⟩ (fun i w5 h5 => ?_)
    obtain ⟨⟨i0, i1⟩, R5, L5, T5, G5, S5, rs5⟩ := h5
    refine yb_R2 ⟨iR_small ⟨by omega, by omega⟩, by decide⟩ (yp_if (fun c => yp_P ⟨R5, L5, T5, G5, S5, rs5⟩) (fun c => ?_))
    refine yb_gr (kr L5) rs5 (yb_cell S5 ⟨by omega, by omega⟩ (fun x hx => yb_RmP hx (by decide) (fun a ha => yb_set (w0 := w) ⟨by omega, by omega⟩ rs5 L5 T5 G5 S5 hY ?_ (fun w6 R6 L6 T6 G6 S6 r6 => yb_P (yp_P ⟨⟨⟨by omega, by omega⟩, R6, L6, T6, G6, S6, by rw [r6]; exact rs5⟩, by omega⟩)))))
    have : i = 2 ∨ i = 3 ∨ i = 4 := by omega
    rcases this with rfl | rfl | rfl <;> unfold lwV hiV <;> simp <;> omega
  obtain ⟨R5, L5, T5, G5, S5, rs5⟩ := h5
  refine yb_gr (kr L5) rs5 (yb_cell S5 ⟨by omega, by omega⟩ (fun x hx => yb_RmP hx (by decide) (fun a ha => yb_set (w0 := w) (by decide) rs5 L5 T5 G5 S5 hY (by unfold lwV hiV; simp; omega) (fun w6 R6 L6 T6 G6 S6 r6 => ?_))))
  have rs6 : w_rv w6 (w_sz w) 0 = some s := by rw [r6]; exact rs5
  refine yb_gr (kr L6) rs6 (yb_cell S6 ⟨by omega, by omega⟩ (fun x hx => yb_RmP hx (by decide) (fun a ha => yb_set (w0 := w) (by decide) rs6 L6 T6 G6 S6 hY (by unfold lwV hiV; simp; omega) (fun w7 R7 L7 T7 G7 S7 r7 => ?_))))
  have rs7 : w_rv w7 (w_sz w) 0 = some s := by rw [r7]; exact rs6
  refine yb_gr (kr L7) rs7 (yb_cell S7 ⟨by omega, by omega⟩ (fun x hx => yb_RmP hx (by decide) (fun a ha => yb_set (w0 := w) (by decide) rs7 L7 T7 G7 S7 hY (by unfold lwV hiV; simp; omega) (fun w8 R8 L8 T8 G8 S8 r8 => ?_))))
  refine yb_cell S8 ⟨by omega, by omega⟩ (fun x hx => yb_RmP hx (by decide) (fun n hn => yb_P (yb_P ?_)))
  have I8 : SI Y w p (w_sz w) 0 R8 w8 := ⟨L8, T8.1, T8.2, fun j j0 j1 => by omega, G8, S8, hY⟩
  refine yp_bind (R := fun _ w9 => ∃ (b : Nat) (R9 : aRun), b ≤ 6 ∧ SI Y w p (w_sz w) b R9 w9) ?_ (fun _ w9 h9 => ?_)
  · refine yp_Lp (fun i w9 => ∃ (b : Nat) (R9 : aRun), i = (b : Int) ∧ b ≤ 6 ∧ (b : Int) ≤ 1 + n ∧ SI Y w p (w_sz w) b R9 w9) (fun i _ => (10 - i).toNat) ⟨0, R8, rfl, by decide, by omega, I8⟩ (fun i w9 h9 => ?_)
    obtain ⟨b, R9, rfl, b6, bn, I9⟩ := h9
    refine yb_R2 ⟨iR_small ⟨by omega, by omega⟩, iR_small ⟨by omega, by omega⟩⟩ (yp_if (fun c => yp_P ⟨b, R9, b6, I9⟩) (fun c => ?_))
    refine some_blk I9 (by omega) hp2 (fun w4 h4 => ?_)
    obtain ⟨R4, h4⟩ := h4
    exact ⟨⟨b + 1, R4, by omega, by omega, by omega, h4⟩, by omega⟩
  · obtain ⟨b, R9, b6, hL, hS, hn9, hj, hg, -, -⟩ := h9
    refine yb_Nn (yp_P (k w9 R9 (hg.le (fun _ _ z => z) (by omega) (by omega)) hL ⟨⟨⟨by omega, by omega⟩, fun k k0 k8 => (hS k k0 k8).2, fun j j0 jn => ?_⟩, fun k k0 k8 => (hS k k0 k8).1, fun j j0 jn => ?_⟩))
    · have := hj j j0 (by omega)
      exact ⟨this.1.1, this.2.2⟩
    · have := hj j j0 (by omega)
      exact ⟨this.1, this.2.1⟩
