/-! ===== the law's acts: BLOCKS told again ===== -/
section
variable {Y : yY} {κ : iMem} {d : yD} {r : Nat} {kept : Option Nat} {R : aRun} {S1 : Nat → Prop} {H : Nat → aRun} {n : Nat} {x : Int} {K : Int → aRun} {f9 T : Int → Int} {b is : Int} {Q : aQ9}
theorem act_again (hI : cI R H n x K f9 0 T κ) (hL : LR (κ, d) r R S1) (hMB : MB R) (hb : 0 ≤ b ∧ b ≤ rn R) (his : isB R b is)
    (hQ : ∀ κ1 d1 does R1 H1 n1 x1 S2, cI R1 H1 n1 x1 K f9 0 T κ1 → LR (κ1, d1) r R1 S2 → (∀ q, S2 q → (S1 q ∧ q < w_sz ((κ, d) : yW)) ∨ w_sz ((κ, d) : yW) ≤ q) → MB R1 → yG S1 1 7 (κ, d) (κ, d1) → (does = 0 ∨ (does = 1 ∧ n1 ≠ 0 ∧ H1 (n1 - 1) = R)) → Q (Sum.inr (Sum.inr (some r, kept, 1, does, 0))) (κ1, d1)) :
    yp (yB (α := Int) (
                    yB (α := (Unit ⊕ Int)) (
                      yB (yR is) fun _ =>
                      if is = 0 then
                        yP (Sum.inl ())
                      else
                        yB (yGt 20 (some r) 1) fun x105 =>
                        yB (yR2 x105 (16 : Int)) fun _ =>
                        if (16 : Int) ≤ x105 then
                          yP (Sum.inl ())
                        else
                          yB (yKr 20 (some r) (kf_LRun_pieces Y (some r))) fun x106 =>
                          yB (yGr 20 (some r) 2) fun x107 =>
                          yB (yLr 4 x107 b) fun x108 =>
                          yB (yLd 1 x108 (1 : Int)) fun x109 =>
                          yB (yR2 (x106 + x109) (90 : Int)) fun _ =>
                          if (90 : Int) < (x106 + x109) then
                            yP (Sum.inl ())
                          else
                            yP (Sum.inr (1 : Int))) (Sum.elim (fun s104 =>
                      yP (0 : Int)) yP)) fun s103 =>
                  yB (yP s103) fun x110 =>
                  yB (yC ([b] : List Int) (iz_Top_again 0 b)) fun x111 =>
                  yB (α := Int) (
                    yB (yR is) fun _ =>
                    if ¬ is = 0 then
                      yB (yR x110) fun _ =>
                      if x110 = 0 then
                        yP (-2 : Int)
                      else
                        yB (yGt 20 (some r) 1) fun x113 =>
                        yP (x113 + (1 : Int))
                    else
                      yP (-1 : Int)) fun s112 =>
                  yB (α := Int) (
                    yB (yR2 x111 s112) fun _ =>
                    if ¬ x111 = s112 then
                      yP (0 : Int)
                    else
                      yP (1 : Int)) fun s114 =>
                  yB (yP s114) fun x115 =>
                  yB (yR x110) fun _ =>
                  if x110 = 0 then
                    yP (Sum.inr (Sum.inr ((some r), kept, x115, x110, (0 : Int))))
                  else
                    yB (yGr 20 (some r) 2) fun x116 =>
                    yB (yLr 4 x116 b) fun x117 =>
                    yB (yCl x117) fun x118 =>
                    yB (yKd 1 x118) fun _ =>
                    yB (yGr 20 (some r) 3) fun x119 =>
                    yB (yLr 4 x119 b) fun x120 =>
                    yB (yKr 20 (some r) (kf_LRun_adds Y (some r) x118 x120)) fun _ =>
                    yP (Sum.inr (Sum.inr ((some r), kept, x115, x110, (0 : Int))))) Q (κ, d) := by
  have hw : WF R := hI.2.1.1
  have hn := hw.1
  have hn10 : n ≤ 10 := hI.2.1.2.1.1
  have hnp := np_ge hw
  have h90 := hw.2.2.2
  obtain ⟨kr, vr⟩ := hL.many
  obtain ⟨bb, kk, r2, kb, r3, kk4, nbk, ⟨sb, lb⟩, ⟨sk9, lk⟩, hrow⟩ := hL.rows
  have ib : iR b := iR_small ⟨by omega, by omega⟩
  have irn : iR (rn R) := iR_small ⟨by omega, by omega⟩
  have h1s : ∀ j, 0 ≤ j → j < rn R → 0 ≤ rc R j 1 ∧ rc R j 1 ≤ 30 := fun j j0 jn => (hw.2.2.1 j j0 jn).2.1
  have fin1 : ∀ {β : Type} {Q : β → yW → Prop} {g : Int → yM β} {a e : Int} {w : yW}, a = e → iR e → yp (g 1) Q w → yp (yB (α := Int) (yB (yR2 a e) fun _ => if ¬ a = e then yP (0 : Int) else yP (1 : Int)) g) Q w := fun h h2 h3 => yp_B (yq_eq h h2 (yp_P h3))
  have hLs : LR (κ, d) r R (fun q => S1 q ∧ q < w_sz ((κ, d) : yW)) := hL.mono (fun q h1 h2 => ⟨h2, h1⟩)
  by_cases cs : (0 ≤ b ∧ b < rn R) ∧ ¬ (rn R = 16 ∨ 90 < np R + rc R b 1)
  · obtain ⟨hbn, hno⟩ := cs
    obtain ⟨p1, p2⟩ := pu_last (H := H) (R := R) hn10
    obtain ⟨q, m, rq, rm, Bq, Mm, sq, lq, lm⟩ := hrow b hbn.1 hbn.2
    have hs1 := h1s b hbn.1 hbn.2
    have e1 : is = 1 := by
      rcases his with z | z
      · exact z.1
      · exact absurd hbn z.2
    subst e1
    refine yp_bind (R := fun v w1 => v = 1 ∧ w1 = (κ, d)) (yp_bind (R := fun v w1 => v = Sum.inr 1 ∧ w1 = (κ, d)) (yb_R (by decide) (yp_ifF (by decide) (yb_gt kr vr (yb_R2 ⟨irn, by decide⟩ (yp_ifF (by omega) (yb_Kr (Or.inl (by rw [kr])) (run_pieces hL h1s ⟨⟨Nat.le_refl _, Nat.le_refl _⟩, yb_gr kr r2 (yb_lr (p := bb) (n := 17) kb ⟨hbn.1, by omega⟩ (by decide) rq (yb_ld (p := q) (n := 7) Bq.1 (by decide) (by decide) (Bq.2 1 (by decide) (by decide)) (yb_R2 ⟨iR_small ⟨by omega, by omega⟩, by decide⟩ (yp_ifF (by omega) (yp_P ⟨rfl, rfl⟩)))))⟩))))))) (fun v w1 h => by obtain ⟨rfl, rfl⟩ := h; exact yp_P ⟨rfl, rfl⟩)) (fun v w1 h => ?_)
    obtain ⟨rfl, rfl⟩ := h
    refine yb_P (yq_act (ca_again hI b (S := SS (rn R + 1) (RA R b) (puH H n R) (puN n) K f9 0 T) (fun _ z => absurd z hno) (fun _ _ => SS_i) (fun z => absurd hbn z)) (xs1 ib) (fun x1 κ1 I1 => ?_))
    have kr1 : w_kd ((κ1, d) : yW) r = (20, 0) := kr
    refine yp_bind (R := fun v w1 => v = rn R + 1 ∧ w1 = (κ1, d)) (yb_R (by decide) (yp_ifT (by decide) (yb_R (by decide) (yp_ifF (by decide) (yb_gt kr1 vr (yp_P ⟨rfl, rfl⟩)))))) (fun v w1 h => ?_)
    obtain ⟨rfl, rfl⟩ := h
    refine fin1 rfl (iR_small ⟨by omega, by omega⟩) (yb_P (yb_R (by decide) (yp_ifF (by decide) ?_)))
    have hL1 : LR (κ1, d) r R (fun q => S1 q ∧ q < w_sz ((κ1, d) : yW)) := hLs
    refine yb_gr kr1 r2 (yb_lr (p := bb) (n := 17) kb ⟨hbn.1, by omega⟩ (by decide) rq (yb_cl (p := q) (n := 7) Bq.1 (fun w2 e2 => ?_)))
    have z2 := e2.sz
    have lq' : q < w_sz ((κ1, d) : yW) := lq
    have lk' : kk < w_sz ((κ1, d) : yW) := lk
    have lm' : m < w_sz ((κ1, d) : yW) := lm
    have lr' : r < w_sz ((κ1, d) : yW) := hL.own.2
    have or := e2.old r (by omega)
    have ok := e2.old kk (by omega)
    have om := e2.old m (by omega)
    have kr2 : w_kd w2 r = (20, 0) := or.1.trans kr1
    refine yb_Kd e2.kd (yb_gr kr2 (r := some kk) (by rw [or.2.2]; exact r3) (yb_lr (ok.1.trans kk4) ⟨hbn.1, by omega⟩ (by decide) (r := some m) (by rw [ok.2.2]; exact rm) (yb_Kr (Or.inl (by rw [kr2])) ?_)))
    have hL2 : LR w2 r R (fun q => S1 q ∧ q < w_sz ((κ1, d) : yW)) := hL1.keep e2.g (fun _ _ _ z => z)
    have eA : ∀ u, rc (RA R b) (rn R) u = rc R b u := fun u => if_pos rfl
    have eO : ∀ c u, c ≠ rn R → rc (RA R b) c u = rc R c u := fun c u h => if_neg h
    refine run_adds (R' := RA R b) hL2 (by omega) rfl (fun _ _ _ => rfl) (fun c i c0 cn _ => eO c i (by omega)) ⟨e2.kd, fun i i0 i7 => ?_⟩ ?_ ⟨fun z => by omega, by omega⟩ (by omega) (fun w4 g4 l4 => ⟨⟨g4.2.1.1, g4.2.2.1.1⟩, yp_P ?_⟩)
    · rw [e2.iv, eA]; exact Bq.2 i i0 i7
    · unfold LMk
      rw [eA 7, eA 8, eA 12, om.1, om.2.1]
      exact Mm
    · have k4 : w4.1 = κ1 := g4.1.trans e2.κ
      obtain ⟨κ4, d4⟩ := w4
      have : κ4 = κ1 := k4
      subst this
      have g9 : yG S1 1 7 (κ4, d) (κ4, d4) := (e2.g.le (D' := S1) (fun _ _ z => z.elim) (Nat.le_refl _) (Nat.le_refl _)).trans g4 (fun q _ z => z.1)
      refine hQ κ4 d4 1 (RA R b) _ _ x1 _ I1 l4 (fun q z => ?_) (fun j j0 jn => ?_) ⟨rfl, g9.2⟩ (Or.inr ⟨rfl, p1, p2⟩)
      · rcases z with z | z
        · exact Or.inl z
        · exact Or.inr (by rw [z]; exact Nat.le_refl _)
      · by_cases e : j = rn R
        · rw [e, eA]; exact hMB b hbn.1 hbn.2
        · rw [eO j 8 e]
          have : j < rn R + 1 := jn
          exact hMB j j0 (by omega)
  · have fin0 : ∀ (v0 : Int), (is ≠ 0 → v0 = -2) → (is = 0 → v0 = -1) → iR v0 → aC (iz_Top_again 0 b) κ (SS v0 R H n K f9 0 T) → yp (yB (yP (0 : Int)) fun x110 =>
                  yB (yC ([b] : List Int) (iz_Top_again 0 b)) fun x111 =>
                  yB (α := Int) (
                    yB (yR is) fun _ =>
                    if ¬ is = 0 then
                      yB (yR x110) fun _ =>
                      if x110 = 0 then
                        yP (-2 : Int)
                      else
                        yB (yGt 20 (some r) 1) fun x113 =>
                        yP (x113 + (1 : Int))
                    else
                      yP (-1 : Int)) fun s112 =>
                  yB (α := Int) (
                    yB (yR2 x111 s112) fun _ =>
                    if ¬ x111 = s112 then
                      yP (0 : Int)
                    else
                      yP (1 : Int)) fun s114 =>
                  yB (yP s114) fun x115 =>
                  yB (yR x110) fun _ =>
                  if x110 = 0 then
                    yP (Sum.inr (Sum.inr ((some r), kept, x115, x110, (0 : Int))))
                  else
                    yB (yGr 20 (some r) 2) fun x116 =>
                    yB (yLr 4 x116 b) fun x117 =>
                    yB (yCl x117) fun x118 =>
                    yB (yKd 1 x118) fun _ =>
                    yB (yGr 20 (some r) 3) fun x119 =>
                    yB (yLr 4 x119 b) fun x120 =>
                    yB (yKr 20 (some r) (kf_LRun_adds Y (some r) x118 x120)) fun _ =>
                    yP (Sum.inr (Sum.inr ((some r), kept, x115, x110, (0 : Int))))) Q (κ, d) := by
      intro v0 h1 h2 i0 hA
      have iis : iR is := by rcases his with z | z <;> rw [z.1] <;> decide
      refine yb_P (yq_act hA (xs1 ib) (fun x1 κ1 I1 => ?_))
      refine yp_bind (R := fun v w1 => v = v0 ∧ w1 = (κ1, d)) (yb_R iis (yp_if (fun c => yb_R (by decide) (yp_ifT rfl (yp_P ⟨(h1 c).symm, rfl⟩))) (fun c => yp_P ⟨(h2 (Classical.not_not.mp c)).symm, rfl⟩))) (fun v w1 h => ?_)
      obtain ⟨rfl, rfl⟩ := h
      exact fin1 rfl i0 (yb_P (yb_R (by decide) (yp_ifT rfl (yp_P (hQ κ1 d 0 R H n x1 _ I1 hLs (fun q z => Or.inl z) hMB (yG.refl.le (fun _ _ z => z) (by decide) (by decide)) (Or.inl rfl))))))
    refine yp_bind (R := fun v w1 => v = 0 ∧ w1 = (κ, d)) (yp_bind (R := fun v w1 => v = Sum.inl () ∧ w1 = (κ, d)) ?_ (fun v w1 h => by obtain ⟨rfl, rfl⟩ := h; exact yp_P ⟨rfl, rfl⟩)) (fun v w1 h => ?_)
    · rcases his with ⟨rfl, hbn⟩ | ⟨rfl, hno⟩
      · obtain ⟨q, m, rq, rm, Bq, Mm, sq, lq, lm⟩ := hrow b hbn.1 hbn.2
        have hs1 := h1s b hbn.1 hbn.2
        exact yb_R (by decide) (yp_ifF (by decide) (yb_gt kr vr (yb_R2 ⟨irn, by decide⟩ (yp_if (fun _ => yp_P ⟨rfl, rfl⟩) (fun c16 => yb_Kr (Or.inl (by rw [kr])) (run_pieces hL h1s ⟨⟨Nat.le_refl _, Nat.le_refl _⟩, yb_gr kr r2 (yb_lr (p := bb) (n := 17) kb ⟨hbn.1, by omega⟩ (by decide) rq (yb_ld (p := q) (n := 7) Bq.1 (by decide) (by decide) (Bq.2 1 (by decide) (by decide)) (yb_R2 ⟨iR_small ⟨by omega, by omega⟩, by decide⟩ (yp_ifT (Classical.byContradiction fun y => cs ⟨hbn, fun z => by omega⟩) (yp_P ⟨rfl, rfl⟩)))))⟩))))))
      · exact yb_R (by decide) (yp_ifT rfl (yp_P ⟨rfl, rfl⟩))
    obtain ⟨rfl, rfl⟩ := h
    by_cases hbn : 0 ≤ b ∧ b < rn R
    · have hy : rn R = 16 ∨ 90 < np R + rc R b 1 := Classical.byContradiction fun z => cs ⟨hbn, z⟩
      refine fin0 (-2) (fun _ => rfl) (fun z => ?_) (by decide) (ca_again hI b (fun _ _ => SS_i) (fun _ z => absurd hy z) (fun z => absurd hbn z))
      rcases his with y | y
      · rw [y.1] at z; cases z
      · exact absurd hbn y.2
    · refine fin0 (-1) (fun z => ?_) (fun _ => rfl) (by decide) (ca_again hI b (fun z => absurd z hbn) (fun z => absurd z hbn) (fun _ => SS_i))
      rcases his with y | y
      · exact absurd y.2 hbn
      · exact absurd y.1 z
end
