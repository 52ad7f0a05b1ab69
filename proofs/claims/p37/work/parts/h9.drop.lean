/-! ===== the law's acts: BLOCKS dropped, told again ===== -/
section
variable {Y : yY} {κ : iMem} {d : yD} {r : Nat} {kept : Option Nat} {R : aRun} {S1 : Nat → Prop} {H : Nat → aRun} {n : Nat} {x : Int} {K : Int → aRun} {f9 T : Int → Int} {b is : Int} {Q : aQ9}
/-- k BLOCKS have been moved -/
def DrI (w0 : yW) (S1 : Nat → Prop) (bb kk : Nat) (b k : Int) (w : yW) : Prop :=
  yG S1 0 0 w0 w ∧ w_kd w = w_kd w0 ∧ w_sz w = w_sz w0 ∧ w_iv w = w_iv w0 ∧ w.1 = w0.1 ∧ (∀ q, q ≠ bb → q ≠ kk → w_rv w q = w_rv w0 q) ∧ ∀ j, w_rv w bb j = w_rv w0 bb (if b ≤ j ∧ j < k then j + 1 else j) ∧ w_rv w kk j = w_rv w0 kk (if b ≤ j ∧ j < k then j + 1 else j)
theorem act_drop (hI : cI R H n x K f9 0 T κ) (hL : LR (κ, d) r R S1) (hMB : MB R) (hb : 0 ≤ b ∧ b ≤ rn R) (his : isB R b is)
    (hQ : ∀ κ1 d1 does R1 H1 n1 x1, cI R1 H1 n1 x1 K f9 0 T κ1 → LR (κ1, d1) r R1 S1 → MB R1 → yG S1 0 0 (κ, d) (κ, d1) → (does = 0 ∨ (does = 1 ∧ n1 ≠ 0 ∧ H1 (n1 - 1) = R)) → Q (Sum.inr (Sum.inr (some r, kept, 1, does, 0))) (κ1, d1)) :
    yp (yB (yP is) fun x122 =>
                  yB (yC ([b] : List Int) (iz_Top_drop 0 b)) fun x123 =>
                  yB (α := Int) (
                    yB (yR is) fun _ =>
                    if is = 0 then
                      yP (-1 : Int)
                    else
                      yB (yGt 20 (some r) 1) fun x125 =>
                      yP (x125 - (1 : Int))) fun s124 =>
                  yB (α := Int) (
                    yB (yR2 x123 s124) fun _ =>
                    if ¬ x123 = s124 then
                      yP (0 : Int)
                    else
                      yP (1 : Int)) fun s126 =>
                  yB (yP s126) fun x127 =>
                  yB (yR is) fun _ =>
                  if ¬ is = 0 then
                    yB (yP b) fun x128 =>
                    yB (α := Unit) (
                      yLp (S := Int) (α := Unit) (fun s130 =>
                        yB (yGt 20 (some r) 1) fun x131 =>
                        yB (yR2 (s130 + (1 : Int)) x131) fun _ =>
                        if x131 ≤ (s130 + (1 : Int)) then
                          yP (Sum.inr ())
                        else
                          yB (yGr 20 (some r) 2) fun x132 =>
                          yB (yGr 20 (some r) 2) fun x133 =>
                          yB (yLr 4 x133 (s130 + (1 : Int))) fun x134 =>
                          yB (ySr 4 1 x132 s130 x134) fun _ =>
                          yB (yGr 20 (some r) 3) fun x135 =>
                          yB (yGr 20 (some r) 3) fun x136 =>
                          yB (yLr 4 x136 (s130 + (1 : Int))) fun x137 =>
                          yB (ySr 4 1 x135 s130 x137) fun _ =>
                          yB (yP (s130 + 1)) fun x138 =>
                          yP (Sum.inl x138)) x128) fun s129 =>
                    yB (yGt 20 (some r) 1) fun x139 =>
                    yB (yPt 20 (some r) 1 (x139 - (1 : Int))) fun _ =>
                    yP (Sum.inr (Sum.inr (some r, kept, x127, x122, (0 : Int))))
                  else
                    yP (Sum.inr (Sum.inr (some r, kept, x127, x122, (0 : Int))))) Q (κ, d) := by
  have hw : WF R := hI.2.1.1
  have hn := hw.1
  have hn10 : n ≤ 10 := hI.2.1.2.1.1
  obtain ⟨kr, vr⟩ := hL.many
  have hrS := hL.own
  obtain ⟨bb, kk, r2, kb, r3, kk4, nbk, ⟨sb, lb⟩, ⟨sk9, lk⟩, hrow⟩ := hL.rows
  have ib : iR b := iR_small ⟨by omega, by omega⟩
  have fin1 : ∀ {β : Type} {Q : β → yW → Prop} {g : Int → yM β} {a e : Int} {w : yW}, a = e → iR e → yp (g 1) Q w → yp (yB (α := Int) (yB (yR2 a e) fun _ => if ¬ a = e then yP (0 : Int) else yP (1 : Int)) g) Q w := fun h h2 h3 => yp_B (yq_eq h h2 (yp_P h3))
  refine yb_P ?_
  rcases his with ⟨rfl, hbn⟩ | ⟨rfl, hno⟩
  · obtain ⟨p1, p2⟩ := pu_last (H := H) (R := R) hn10
    refine yq_act (ca_drop hI b (S := SS (rn R - 1) (RD R b) (puH H n R) (puN n) K f9 0 T) (fun _ => SS_i) (fun z => absurd hbn z)) (xs1 ib) (fun x1 κ1 I1 => ?_)
    refine yp_bind (R := fun v w1 => v = rn R - 1 ∧ w1 = (κ1, d)) (yb_R (by decide) (yp_ifF (by decide) (yb_gt (w := ((κ1, d) : yW)) kr vr (yp_P ⟨rfl, rfl⟩)))) (fun v w1 h => ?_)
    obtain ⟨rfl, rfl⟩ := h
    refine fin1 rfl (iR_small ⟨by omega, by omega⟩) (yb_P (yb_R (by decide) (yp_ifT (by decide) (yb_P ?_))))
    have hL1 : LR (κ1, d) r R S1 := hL
    generalize ew : ((κ1, d) : yW) = wd at hL1
    have kr1 : w_kd wd r = (20, 0) := by subst ew; exact kr
    have vr1 : w_iv wd r 1 = rn R := by subst ew; exact vr
    have r21 : w_rv wd r 2 = some bb := by subst ew; exact r2
    have r31 : w_rv wd r 3 = some kk := by subst ew; exact r3
    have kb1 : w_kd wd bb = (4, 17) := by subst ew; exact kb
    have kk1 : w_kd wd kk = (4, 17) := by subst ew; exact kk4
    have row1 : ∀ j, 0 ≤ j → j < rn R → ∃ q m n', w_rv wd bb j = some q ∧ w_rv wd kk j = some m ∧ w_kd wd q = (1, 7) ∧ w_kd wd m = (1, n') := by
      subst ew
      intro j j0 jn
      obtain ⟨q, m, h1, h2, h3, h4, -⟩ := hrow j j0 jn
      obtain ⟨n', h5⟩ := h4.kd
      exact ⟨q, m, n', h1, h2, h3.1, h5⟩
    have nrb : r ≠ bb := fun e => by rw [e] at kr1; rw [kr1] at kb1; cases kb1
    have nrk : r ≠ kk := fun e => by rw [e] at kr1; rw [kr1] at kk1; cases kk1
    have nyb : ¬ ym (w_kd wd bb) := by rw [kb1]; unfold ym; simp
    have nyk : ¬ ym (w_kd wd kk) := by rw [kk1]; unfold ym; simp
    have nyr : ¬ ym (w_kd wd r) := by rw [kr1]; unfold ym; simp
    refine yp_bind (R := fun _ w1 => DrI wd S1 bb kk b (rn R - 1) w1) ?_ (fun _ w1 D9 => ?_)
    · refine yp_Lp (fun k w1 => (b ≤ k ∧ k ≤ rn R - 1) ∧ DrI wd S1 bb kk b k w1) (fun k _ => (rn R - k).toNat) ⟨⟨Int.le_refl _, by omega⟩, yG.refl, rfl, rfl, rfl, rfl, fun _ _ _ => rfl, fun j => ⟨by rw [if_neg (by omega)], by rw [if_neg (by omega)]⟩⟩ (fun k w1 hk => ?_)
      obtain ⟨⟨k0, k1⟩, D⟩ := hk
      obtain ⟨d1, d2, d3, d4, d5, d6, d7⟩ := id D
      have kr2 : w_kd w1 r = (20, 0) := by rw [d2]; exact kr1
      have kb2 : w_kd w1 bb = (4, 17) := by rw [d2]; exact kb1
      have kk2 : w_kd w1 kk = (4, 17) := by rw [d2]; exact kk1
      have r22 : w_rv w1 r 2 = some bb := by rw [d6 r nrb nrk]; exact r21
      have r32 : w_rv w1 r 3 = some kk := by rw [d6 r nrb nrk]; exact r31
      refine yb_gt kr2 (v := rn R) (by rw [d4]; exact vr1) (yb_R2 ⟨iR_small ⟨by omega, by omega⟩, iR_small ⟨by omega, by omega⟩⟩ (yp_if (fun c => yp_P ?_) (fun c => ?_)))
      · have : k = rn R - 1 := by omega
        rw [this] at D; exact D
      · obtain ⟨q, m, n', rq, rm, kq, km⟩ := row1 (k + 1) (by omega) (by omega)
        have rq2 : w_rv w1 bb (k + 1) = some q := by rw [(d7 (k + 1)).1, if_neg (by omega)]; exact rq
        have rm2 : w_rv w1 kk (k + 1) = some m := by rw [(d7 (k + 1)).2, if_neg (by omega)]; exact rm
        have kq2 : w_kd w1 q = (1, 7) := by rw [d2]; exact kq
        have km2 : w_kd w1 m = (1, n') := by rw [d2]; exact km
        refine yb_gr kr2 r22 (yb_gr kr2 r22 (yb_lr kb2 ⟨by omega, by omega⟩ (by decide) rq2 (yb_sr kb2 kq2 ⟨by omega, by omega⟩ (by decide) ?_)))
        refine yb_gr kr2 (r := some kk) ?_ (yb_gr kr2 (r := some kk) ?_ (yb_lr kk2 ⟨by omega, by omega⟩ (by decide) (r := some m) ?_ (yb_sr kk2 km2 ⟨by omega, by omega⟩ (by decide) (yb_P (yp_P ⟨⟨⟨by omega, by omega⟩, (d1.sr (Or.inr ⟨sb, nyb⟩)).sr (Or.inr ⟨sk9, nyk⟩), d2, d3, d4, d5, fun q1 h1 h2 => ?_, fun j => ⟨?_, ?_⟩⟩, by omega⟩)))))
        · simp only [yv_7, yur_at nrb]; exact r32
        · simp only [yv_7, yur_at nrb]; exact r32
        · simp only [yv_7, yur_at (Ne.symm nbk)]; exact rm2
        · simp only [yv_7, yur_at h1, yur_at h2]; exact d6 q1 h1 h2
        · simp only [yv_7, yur_at nbk]
          by_cases e : j = k
          · rw [e, yur_s, if_pos ⟨k0, by omega⟩]; exact rq.symm
          · rw [yur_n e, (d7 j).1]
            by_cases z : b ≤ j ∧ j < k
            · rw [if_pos z, if_pos ⟨z.1, by omega⟩]
            · rw [if_neg z, if_neg (by omega)]
        · simp only [yv_7]
          by_cases e : j = k
          · rw [e, yur_s, if_pos ⟨k0, by omega⟩]; exact rm.symm
          · rw [yur_n e, yur_at (Ne.symm nbk), (d7 j).2]
            by_cases z : b ≤ j ∧ j < k
            · rw [if_pos z, if_pos ⟨z.1, by omega⟩]
            · rw [if_neg z, if_neg (by omega)]
    · obtain ⟨d1, d2, d3, d4, d5, d6, d7⟩ := D9
      have kr2 : w_kd w1 r = (20, 0) := by rw [d2]; exact kr1
      refine yb_gt kr2 (v := rn R) (by rw [d4]; exact vr1) (yb_pt kr2 (yp_P ?_))
      generalize ew5 : y_iv w1 _ = w5
      have l5 : LR w5 r (RD R b) S1 := by
        subst ew5
        refine hL1.rows_of (R' := RD R b) r21 r31 (fun j => if j < b then j else j + 1) (fun j j0 jn => ?_) (fun j l j0 jn l0 ln e => ?_) (by show 0 ≤ R.1 - 1 ∧ R.1 - 1 ≤ 16; have : R.1 = rn R := rfl; omega) (fun _ _ _ => rfl) (fun j i j0 jn => ?_) ⟨d2, d3, fun q hq => ?_, ?_, fun q h1 h2 => d6 q h1 h2⟩ (fun j j0 jn => ⟨?_, ?_⟩)
        · have : j < rn R - 1 := jn
          split <;> omega
        · by_cases z1 : j < b
          · by_cases z2 : l < b
            · rw [if_pos z1, if_pos z2] at e; exact e
            · rw [if_pos z1, if_neg z2] at e; omega
          · by_cases z2 : l < b
            · rw [if_neg z1, if_pos z2] at e; omega
            · rw [if_neg z1, if_neg z2] at e; omega
        · show (if j < b then rc R j i else rc R (j + 1) i) = rc R (if j < b then j else j + 1) i
          split <;> rfl
        · show iu _ _ _ _ q = _
          rw [yu_at hq, d4]
        · show iu _ _ _ _ r 1 = _
          rw [yu_s]; rfl
        · have : j < rn R - 1 := jn
          show w_rv w1 bb j = _
          rw [(d7 j).1]
          by_cases z : j < b
          · rw [if_neg (by omega), if_pos z]
          · rw [if_pos ⟨by omega, this⟩, if_neg z]
        · have : j < rn R - 1 := jn
          show w_rv w1 kk j = _
          rw [(d7 j).2]
          by_cases z : j < b
          · rw [if_neg (by omega), if_pos z]
          · rw [if_pos ⟨by omega, this⟩, if_neg z]
      have g5 : yG S1 0 0 wd w5 := by subst ew5; exact d1.st (Or.inr ⟨hrS.1, nyr⟩)
      have k5 : w5.1 = κ1 := by subst ew5; show w1.1 = _; rw [d5, ← ew]
      obtain ⟨κ5, d5'⟩ := w5
      have : κ5 = κ1 := k5
      subst this
      subst ew
      refine hQ κ5 d5' 1 (RD R b) _ _ x1 I1 l5 (fun j j0 jn => ?_) ⟨rfl, g5.2⟩ (Or.inr ⟨rfl, p1, p2⟩)
      have : j < rn R - 1 := jn
      show -1000 ≤ (if j < b then rc R j 8 else rc R (j + 1) 8) ∧ (if j < b then rc R j 8 else rc R (j + 1) 8) ≤ 1000
      split
      · exact hMB j j0 (by omega)
      · exact hMB (j + 1) (by omega) (by omega)
  · refine yq_act (ca_drop hI b (S := SS (-1) R H n K f9 0 T) (fun z => absurd z hno) (fun _ => SS_i)) (xs1 ib) (fun x1 κ1 I1 => ?_)
    refine yp_bind (R := fun v w1 => v = -1 ∧ w1 = (κ1, d)) (yb_R (by decide) (yp_ifT rfl (yp_P ⟨rfl, rfl⟩))) (fun v w1 h => ?_)
    obtain ⟨rfl, rfl⟩ := h
    exact fin1 rfl (by decide) (yb_P (yb_R (by decide) (yp_ifF (fun z => z rfl) (yp_P (hQ κ1 d 0 R H n x1 I1 hL hMB yG.refl (Or.inl rfl))))))
end
