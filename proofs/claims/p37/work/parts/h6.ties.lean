/-! ===== the law's acts: ties, SPACES ===== -/
theorem MB.put {R : aRun} {b w v : Int} (h : MB R) (hw : w ≠ 8) : MB (RP R b w v) := fun c c0 c1 => by
  have e : rc (RP R b w v) c 8 = rc R c 8 := if_neg (fun z => hw z.2.symm)
  rw [e]; exact h c c0 c1
abbrev aQ9 : Type := (Unit ⊕ (Unit ⊕ (Option Nat × Option Nat × Int × Int × Int))) → yW → Prop
/-- whether a BLOCK is there and plain -/
def isPl (R : aRun) (b pl : Int) : Prop := (pl = 1 ∧ (0 ≤ b ∧ b < rn R) ∧ rc R b 0 ≠ 4) ∨ (pl = 0 ∧ ¬ ((0 ≤ b ∧ b < rn R) ∧ rc R b 0 ≠ 4))
section
variable {κ : iMem} {d : yD} {r : Nat} {kept : Option Nat} {R : aRun} {S1 : Nat → Prop} {H : Nat → aRun} {n : Nat} {x : Int} {K : Int → aRun} {f9 T : Int → Int} {x22 b pl : Int} {Q : aQ9}
theorem act_tie (hI : cI R H n x K f9 0 T κ) (hL : LR (κ, d) r R S1) (hMB : MB R) (hb : 0 ≤ b ∧ b ≤ rn R) (hpl : isPl R b pl)
    (hQ : ∀ κ1 d1 does R1 H1 n1 x1, cI R1 H1 n1 x1 K f9 0 T κ1 → LR (κ1, d1) r R1 S1 → MB R1 → yG S1 0 0 (κ, d) (κ, d1) → (does = 0 ∨ (does = 1 ∧ n1 ≠ 0 ∧ H1 (n1 - 1) = R)) → Q (Sum.inr (Sum.inr (some r, kept, 1, does, 0))) (κ1, d1)) :
    yp (yB (yP (ybAnd (ybUshr x22 (12 : Int)) (1 : Int))) fun x46 =>
                  yB (α := Int) (
                    yB (α := (Unit ⊕ Int)) (
                      yB (yR pl) fun _ =>
                      if pl = 0 then
                        yP (Sum.inl ())
                      else
                        yB (yGr 20 (some r) 2) fun x49 =>
                        yB (yLr 4 x49 b) fun x50 =>
                        yB (yLd 1 x50 (4 : Int)) fun x51 =>
                        yB (yR2 x51 x46) fun _ =>
                        if x51 = x46 then
                          yP (Sum.inl ())
                        else
                          yP (Sum.inr (1 : Int))) (Sum.elim (fun s48 =>
                      yP (0 : Int)) yP)) fun s47 =>
                  yB (yP s47) fun x52 =>
                  yB (α := Int) (
                    yB (yR2 x46 (1 : Int)) fun _ =>
                    if ¬ x46 = (1 : Int) then
                      yP (0 : Int)
                    else
                      yP (1 : Int)) fun s53 =>
                  yB (yC ([b, s53] : List Int) (iz_Top_tie 0 b s53)) fun x54 =>
                  yB (α := Int) (
                    yB (yR pl) fun _ =>
                    if ¬ pl = 0 then
                      yB (yR x52) fun _ =>
                      if x52 = 0 then
                        yP (-2 : Int)
                      else
                        yP (1 : Int)
                    else
                      yP (-1 : Int)) fun s55 =>
                  yB (α := Int) (
                    yB (yR2 x54 s55) fun _ =>
                    if ¬ x54 = s55 then
                      yP (0 : Int)
                    else
                      yP (1 : Int)) fun s56 =>
                  yB (yP s56) fun x57 =>
                  yB (yR x52) fun _ =>
                  if x52 = 0 then
                    yP (Sum.inr (Sum.inr (some r, kept, x57, x52, (0 : Int))))
                  else
                    yB (yGr 20 (some r) 2) fun x58 =>
                    yB (yLr 4 x58 b) fun x59 =>
                    yB (ySt x59 (4 : Int) x46) fun _ =>
                    yP (Sum.inr (Sum.inr (some r, kept, x57, x52, (0 : Int))))) Q (κ, d) := by
  have hw : WF R := hI.2.1.1
  have hn := hw.1
  have hn10 : n ≤ 10 := hI.2.1.2.1.1
  have kr := hL.many.1
  obtain ⟨bb, kk, r2, kb, -, -, -, -, -, hrow⟩ := hL.rows
  have hm := and1_in (ybUshr x22 12)
  have ib : iR b := iR_small ⟨by omega, by omega⟩
  refine yb_P ?_
  generalize ybAnd (ybUshr x22 12) 1 = m at hm
  have im : iR m := iR_small ⟨by omega, by omega⟩
  have fin1 : ∀ {β : Type} {Q : β → yW → Prop} {g : Int → yM β} {a e : Int} {w : yW}, a = e → iR e → yp (g 1) Q w → yp (yB (α := Int) (yB (yR2 a e) fun _ => if ¬ a = e then yP (0 : Int) else yP (1 : Int)) g) Q w := fun h h2 h3 => yp_B (yq_eq h h2 (yp_P h3))
  have mk : ∀ {β : Type} {Q : β → yW → Prop} {g : Int → yM β} {w : yW}, yp (g m) Q w → yp (yB (α := Int) (yB (yR2 m (1 : Int)) fun _ => if ¬ m = (1 : Int) then yP (0 : Int) else yP (1 : Int)) g) Q w := fun {β Q g w} h => by
    refine yp_B (yb_R2 ⟨im, by decide⟩ (yp_if (fun c => ?_) (fun c => ?_)))
    · have e : m = 0 := by omega
      rw [e] at h; exact yp_P h
    · have e : m = 1 := Classical.not_not.mp c
      rw [e] at h; exact yp_P h
  rcases hpl with ⟨rfl, hbn, h4⟩ | ⟨rfl, hno⟩
  · obtain ⟨q, mm, rq, -, ⟨kq, vq⟩, -⟩ := hrow b hbn.1 hbn.2
    have wb := (hw.2.2.1 b hbn.1 hbn.2).2.2.2.2.2.2.2.1
    by_cases c : rc R b 4 = m
    · refine yp_bind (R := fun v w1 => v = 0 ∧ w1 = (κ, d)) (yp_bind (R := fun v w1 => v = Sum.inl () ∧ w1 = (κ, d)) (yb_R (by decide) (yp_ifF (by decide) (yb_gr kr r2 (yb_lr (p := bb) (n := 17) kb ⟨hbn.1, by omega⟩ (by decide) rq (yb_ld (p := q) (n := 7) kq (by decide) (by decide) (vq 4 (by decide) (by decide)) (yb_R2 ⟨by rw [c]; exact im, im⟩ (yp_ifT c (yp_P ⟨rfl, rfl⟩)))))))) (fun v w1 h => by obtain ⟨rfl, rfl⟩ := h; exact yp_P ⟨rfl, rfl⟩)) (fun v w1 h => ?_)
      obtain ⟨rfl, rfl⟩ := h
      refine yb_P (mk (yq_act (ca_tie hI b m hm (S := SS (-2) R H n K f9 0 T) (fun _ _ => SS_i) (fun _ z => absurd c z) (fun z => absurd ⟨hbn, h4⟩ z)) (xs2 ib im) (fun x1 κ1 I1 => ?_)))
      refine yp_bind (R := fun v w1 => v = -2 ∧ w1 = (κ1, d)) (yb_R (by decide) (yp_ifT (by decide) (yb_R (by decide) (yp_ifT rfl (yp_P ⟨rfl, rfl⟩))))) (fun v w1 h => ?_)
      obtain ⟨rfl, rfl⟩ := h
      exact fin1 rfl (by decide) (yb_P (yb_R (by decide) (yp_ifT rfl (yp_P (hQ κ1 d 0 R H n x1 I1 hL hMB yG.refl (Or.inl rfl))))))
    · obtain ⟨p1, p2⟩ := pu_last (H := H) (R := R) hn10
      refine yp_bind (R := fun v w1 => v = 1 ∧ w1 = (κ, d)) (yp_bind (R := fun v w1 => v = Sum.inr 1 ∧ w1 = (κ, d)) (yb_R (by decide) (yp_ifF (by decide) (yb_gr kr r2 (yb_lr (p := bb) (n := 17) kb ⟨hbn.1, by omega⟩ (by decide) rq (yb_ld (p := q) (n := 7) kq (by decide) (by decide) (vq 4 (by decide) (by decide)) (yb_R2 ⟨iR_small ⟨by omega, by omega⟩, im⟩ (yp_ifF c (yp_P ⟨rfl, rfl⟩)))))))) (fun v w1 h => by obtain ⟨rfl, rfl⟩ := h; exact yp_P ⟨rfl, rfl⟩)) (fun v w1 h => ?_)
      obtain ⟨rfl, rfl⟩ := h
      refine yb_P (mk (yq_act (ca_tie hI b m hm (S := SS 1 (RP R b 4 m) (puH H n R) (puN n) K f9 0 T) (fun _ z => absurd z c) (fun _ _ => SS_i) (fun z => absurd ⟨hbn, h4⟩ z)) (xs2 ib im) (fun x1 κ1 I1 => ?_)))
      refine yp_bind (R := fun v w1 => v = 1 ∧ w1 = (κ1, d)) (yb_R (by decide) (yp_ifT (by decide) (yb_R (by decide) (yp_ifF (by decide) (yp_P ⟨rfl, rfl⟩))))) (fun v w1 h => ?_)
      obtain ⟨rfl, rfl⟩ := h
      have hL1 : LR (κ1, d) r R S1 := hL
      obtain ⟨l3, g3⟩ := hL1.putB (j := b) (i := 4) (x := m) r2 rq hbn.1 hbn.2 (by decide) (by decide)
      exact fin1 rfl (by decide) (yb_P (yb_R (by decide) (yp_ifF (by decide) (yb_gr kr r2 (yb_lr (p := bb) (n := 17) kb ⟨hbn.1, by omega⟩ (by decide) rq (yb_st (p := q) (n := 7) kq (by decide) (by decide) (yp_P (hQ κ1 _ 1 _ _ _ x1 I1 l3 (hMB.put (by decide)) ⟨rfl, g3.2⟩ (Or.inr ⟨rfl, p1, p2⟩)))))))))
  · refine yp_bind (R := fun v w1 => v = 0 ∧ w1 = (κ, d)) (yp_bind (R := fun v w1 => v = Sum.inl () ∧ w1 = (κ, d)) (yb_R (by decide) (yp_ifT rfl (yp_P ⟨rfl, rfl⟩))) (fun v w1 h => by obtain ⟨rfl, rfl⟩ := h; exact yp_P ⟨rfl, rfl⟩)) (fun v w1 h => ?_)
    obtain ⟨rfl, rfl⟩ := h
    refine yb_P (mk (yq_act (ca_tie hI b m hm (S := SS (-1) R H n K f9 0 T) (fun z => absurd z hno) (fun z => absurd z hno) (fun _ => SS_i)) (xs2 ib im) (fun x1 κ1 I1 => ?_)))
    refine yp_bind (R := fun v w1 => v = -1 ∧ w1 = (κ1, d)) (yb_R (by decide) (yp_ifF (fun z => z rfl) (yp_P ⟨rfl, rfl⟩))) (fun v w1 h => ?_)
    obtain ⟨rfl, rfl⟩ := h
    exact fin1 rfl (by decide) (yb_P (yb_R (by decide) (yp_ifT rfl (yp_P (hQ κ1 d 0 R H n x1 I1 hL hMB yG.refl (Or.inl rfl))))))
end
