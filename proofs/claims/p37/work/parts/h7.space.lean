/-! ===== the law's acts: SPACES ===== -/
section
variable {κ : iMem} {d : yD} {r : Nat} {kept : Option Nat} {R : aRun} {S1 : Nat → Prop} {H : Nat → aRun} {n : Nat} {x : Int} {K : Int → aRun} {f9 T : Int → Int} {x22 b pl : Int} {Q : aQ9}
theorem act_space (hI : cI R H n x K f9 0 T κ) (hL : LR (κ, d) r R S1) (hMB : MB R) (hb : 0 ≤ b ∧ b ≤ rn R) (hpl : isPl R b pl)
    (hQ : ∀ κ1 d1 does R1 H1 n1 x1, cI R1 H1 n1 x1 K f9 0 T κ1 → LR (κ1, d1) r R1 S1 → MB R1 → yG S1 0 0 (κ, d) (κ, d1) → (does = 0 ∨ (does = 1 ∧ n1 ≠ 0 ∧ H1 (n1 - 1) = R)) → Q (Sum.inr (Sum.inr (some r, kept, 1, does, 0))) (κ1, d1)) :
    yp (yB (yRm (ybUshr x22 (12 : Int)) (9 : Int)) fun x60 =>
                  yB (yP x60) fun x61 =>
                  yB (α := Int) (
                    yB (α := (Unit ⊕ Int)) (
                      yB (yR pl) fun _ =>
                      if pl = 0 then
                        yP (Sum.inl ())
                      else
                        yB (yGr 20 (some r) 2) fun x64 =>
                        yB (yLr 4 x64 b) fun x65 =>
                        yB (yLd 1 x65 (6 : Int)) fun x66 =>
                        yB (yR2 x66 x61) fun _ =>
                        if x66 = x61 then
                          yP (Sum.inl ())
                        else
                          yP (Sum.inr (1 : Int))) (Sum.elim (fun s63 =>
                      yP (0 : Int)) yP)) fun s62 =>
                  yB (yP s62) fun x67 =>
                  yB (yC ([b, x61] : List Int) (iz_Top_space 0 b x61)) fun x68 =>
                  yB (α := Int) (
                    yB (yR pl) fun _ =>
                    if ¬ pl = 0 then
                      yB (yR x67) fun _ =>
                      if x67 = 0 then
                        yP (-2 : Int)
                      else
                        yB (yGr 20 (some r) 2) fun x70 =>
                        yB (yLr 4 x70 b) fun x71 =>
                        yB (yLd 1 x71 (6 : Int)) fun x72 =>
                        yP x72
                    else
                      yP (-1 : Int)) fun s69 =>
                  yB (α := Int) (
                    yB (α := (Unit ⊕ Int)) (
                      yB (yR2 x68 s69) fun _ =>
                      if ¬ x68 = s69 then
                        yP (Sum.inl ())
                      else
                        yB (yC ([b, (31 : Int)] : List Int) (iz_Top_space 0 b (31 : Int))) fun x75 =>
                        yB (yR2 x75 (-1 : Int)) fun _ =>
                        if ¬ x75 = (-1 : Int) then
                          yP (Sum.inl ())
                        else
                          yP (Sum.inr (1 : Int))) (Sum.elim (fun s74 =>
                      yP (0 : Int)) yP)) fun s73 =>
                  yB (yP s73) fun x76 =>
                  yB (yR x67) fun _ =>
                  if x67 = 0 then
                    yP (Sum.inr (Sum.inr (some r, kept, x76, x67, (0 : Int))))
                  else
                    yB (yGr 20 (some r) 2) fun x77 =>
                    yB (yLr 4 x77 b) fun x78 =>
                    yB (ySt x78 (6 : Int) x61) fun _ =>
                    yP (Sum.inr (Sum.inr (some r, kept, x76, x67, (0 : Int))))) Q (κ, d) := by
  have hw : WF R := hI.2.1.1
  have hn := hw.1
  have hn10 : n ≤ 10 := hI.2.1.2.1.1
  have kr := hL.many.1
  obtain ⟨bb, kk, r2, kb, -, -, -, -, -, hrow⟩ := hL.rows
  have ib : iR b := iR_small ⟨by omega, by omega⟩
  refine yb_RmP (ushr_in (k := 12) ⟨by decide, by decide⟩) (by decide) (fun m hm => yb_P ?_)
  have im : iR m := iR_small ⟨by omega, by omega⟩
  have hm30 : 0 ≤ m ∧ m ≤ 30 := by omega
  have n31 : ¬ (0 ≤ (31 : Int) ∧ (31 : Int) ≤ 30) := by decide
  -- the refused SPACE behind the act
  have ref : ∀ {κ1 : iMem} {R1 : aRun} {H1 : Nat → aRun} {n1 : Nat} {x1 : Int} {β : Type} {Q : β → yW → Prop} {g : Int → yM β} {a e : Int}, cI R1 H1 n1 x1 K f9 0 T κ1 → a = e → iR e → (∀ κ2 x2, cI R1 H1 n1 x2 K f9 0 T κ2 → yp (g 1) Q (κ2, d)) → yp (yB (α := Int) (
                    yB (α := (Unit ⊕ Int)) (
                      yB (yR2 a e) fun _ =>
                      if ¬ a = e then
                        yP (Sum.inl ())
                      else
                        yB (yC ([b, (31 : Int)] : List Int) (iz_Top_space 0 b (31 : Int))) fun x75 =>
                        yB (yR2 x75 (-1 : Int)) fun _ =>
                        if ¬ x75 = (-1 : Int) then
                          yP (Sum.inl ())
                        else
                          yP (Sum.inr (1 : Int))) (Sum.elim (fun s74 =>
                      yP (0 : Int)) yP)) g) Q (κ1, d) := fun {κ1 R1 H1 n1 x1 β Q g a e} I1 h1 h2 h3 => by
    refine yp_bind (R := fun v w1 => v = 1 ∧ ∃ κ2 x2, w1 = (κ2, d) ∧ cI R1 H1 n1 x2 K f9 0 T κ2) ?_ (fun v w1 h => by obtain ⟨rfl, κ2, x2, rfl, I2⟩ := h; exact h3 κ2 x2 I2)
    refine yp_bind (R := fun v w1 => v = Sum.inr 1 ∧ ∃ κ2 x2, w1 = (κ2, d) ∧ cI R1 H1 n1 x2 K f9 0 T κ2) ?_ (fun v w1 h => by obtain ⟨rfl, h⟩ := h; exact yp_P ⟨rfl, h⟩)
    refine yq_eq h1 h2 ?_
    exact yq_act (ca_space I1 b 31 (S := SS (-1) R1 H1 n1 K f9 0 T) (fun _ z => absurd z n31) (fun _ z => absurd z n31) (fun _ _ => SS_i) (fun _ => SS_i)) (xs2 ib (by decide)) (fun x2 κ2 I2 => yq_eq rfl (by decide) (yp_P ⟨rfl, κ2, x2, rfl, I2⟩))
  rcases hpl with ⟨rfl, hbn, h4⟩ | ⟨rfl, hno⟩
  · obtain ⟨q, mm, rq, -, ⟨kq, vq⟩, -⟩ := hrow b hbn.1 hbn.2
    have wb := (hw.2.2.1 b hbn.1 hbn.2).2.2.2.2.2.2.2.2.2.1
    have i6 : iR (rc R b 6) := iR_small ⟨by omega, by omega⟩
    by_cases c : rc R b 6 = m
    · refine yp_bind (R := fun v w1 => v = 0 ∧ w1 = (κ, d)) (yp_bind (R := fun v w1 => v = Sum.inl () ∧ w1 = (κ, d)) (yb_R (by decide) (yp_ifF (by decide) (yb_gr kr r2 (yb_lr (p := bb) (n := 17) kb ⟨hbn.1, by omega⟩ (by decide) rq (yb_ld (p := q) (n := 7) kq (by decide) (by decide) (vq 6 (by decide) (by decide)) (yb_R2 ⟨i6, im⟩ (yp_ifT c (yp_P ⟨rfl, rfl⟩)))))))) (fun v w1 h => by obtain ⟨rfl, rfl⟩ := h; exact yp_P ⟨rfl, rfl⟩)) (fun v w1 h => ?_)
      obtain ⟨rfl, rfl⟩ := h
      refine yb_P (yq_act (ca_space hI b m (S := SS (-2) R H n K f9 0 T) (fun _ _ _ => SS_i) (fun _ _ z => absurd c z) (fun _ z => absurd hm30 z) (fun z => absurd ⟨hbn, h4⟩ z)) (xs2 ib im) (fun x1 κ1 I1 => ?_))
      refine yp_bind (R := fun v w1 => v = -2 ∧ w1 = (κ1, d)) (yb_R (by decide) (yp_ifT (by decide) (yb_R (by decide) (yp_ifT rfl (yp_P ⟨rfl, rfl⟩))))) (fun v w1 h => ?_)
      obtain ⟨rfl, rfl⟩ := h
      exact ref I1 rfl (by decide) (fun κ2 x2 I2 => yb_P (yb_R (by decide) (yp_ifT rfl (yp_P (hQ κ2 d 0 R H n x2 I2 hL hMB yG.refl (Or.inl rfl))))))
    · obtain ⟨p1, p2⟩ := pu_last (H := H) (R := R) hn10
      refine yp_bind (R := fun v w1 => v = 1 ∧ w1 = (κ, d)) (yp_bind (R := fun v w1 => v = Sum.inr 1 ∧ w1 = (κ, d)) (yb_R (by decide) (yp_ifF (by decide) (yb_gr kr r2 (yb_lr (p := bb) (n := 17) kb ⟨hbn.1, by omega⟩ (by decide) rq (yb_ld (p := q) (n := 7) kq (by decide) (by decide) (vq 6 (by decide) (by decide)) (yb_R2 ⟨i6, im⟩ (yp_ifF c (yp_P ⟨rfl, rfl⟩)))))))) (fun v w1 h => by obtain ⟨rfl, rfl⟩ := h; exact yp_P ⟨rfl, rfl⟩)) (fun v w1 h => ?_)
      obtain ⟨rfl, rfl⟩ := h
      refine yb_P (yq_act (ca_space hI b m (S := SS (rc R b 6) (RP R b 6 m) (puH H n R) (puN n) K f9 0 T) (fun _ _ z => absurd z c) (fun _ _ _ => SS_i) (fun _ z => absurd hm30 z) (fun z => absurd ⟨hbn, h4⟩ z)) (xs2 ib im) (fun x1 κ1 I1 => ?_))
      refine yp_bind (R := fun v w1 => v = rc R b 6 ∧ w1 = (κ1, d)) (yb_R (by decide) (yp_ifT (by decide) (yb_R (by decide) (yp_ifF (by decide) (yb_gr kr r2 (yb_lr (p := bb) (n := 17) kb ⟨hbn.1, by omega⟩ (by decide) rq (yb_ld (p := q) (n := 7) kq (by decide) (by decide) (vq 6 (by decide) (by decide)) (yp_P ⟨rfl, rfl⟩)))))))) (fun v w1 h => ?_)
      obtain ⟨rfl, rfl⟩ := h
      refine ref I1 rfl i6 (fun κ2 x2 I2 => ?_)
      have hL1 : LR (κ2, d) r R S1 := hL
      obtain ⟨l3, g3⟩ := hL1.putB (j := b) (i := 6) (x := m) r2 rq hbn.1 hbn.2 (by decide) (by decide)
      exact yb_P (yb_R (by decide) (yp_ifF (by decide) (yb_gr kr r2 (yb_lr (p := bb) (n := 17) kb ⟨hbn.1, by omega⟩ (by decide) rq (yb_st (p := q) (n := 7) kq (by decide) (by decide) (yp_P (hQ κ2 _ 1 _ _ _ x2 I2 l3 (hMB.put (by decide)) ⟨rfl, g3.2⟩ (Or.inr ⟨rfl, p1, p2⟩))))))))
  · refine yp_bind (R := fun v w1 => v = 0 ∧ w1 = (κ, d)) (yp_bind (R := fun v w1 => v = Sum.inl () ∧ w1 = (κ, d)) (yb_R (by decide) (yp_ifT rfl (yp_P ⟨rfl, rfl⟩))) (fun v w1 h => by obtain ⟨rfl, rfl⟩ := h; exact yp_P ⟨rfl, rfl⟩)) (fun v w1 h => ?_)
    obtain ⟨rfl, rfl⟩ := h
    refine yb_P (yq_act (ca_space hI b m (S := SS (-1) R H n K f9 0 T) (fun z => absurd z hno) (fun z => absurd z hno) (fun z => absurd z hno) (fun _ => SS_i)) (xs2 ib im) (fun x1 κ1 I1 => ?_))
    refine yp_bind (R := fun v w1 => v = -1 ∧ w1 = (κ1, d)) (yb_R (by decide) (yp_ifF (fun z => z rfl) (yp_P ⟨rfl, rfl⟩))) (fun v w1 h => ?_)
    obtain ⟨rfl, rfl⟩ := h
    exact ref I1 rfl (by decide) (fun κ2 x2 I2 => yb_P (yb_R (by decide) (yp_ifT rfl (yp_P (hQ κ2 d 0 R H n x2 I2 hL hMB yG.refl (Or.inl rfl))))))
end
