/-! ===== the law's acts: BLOCKS swapped ===== -/
def isB (R : aRun) (b v : Int) : Prop := (v = 1 ∧ (0 ≤ b ∧ b < rn R)) ∨ (v = 0 ∧ ¬ (0 ≤ b ∧ b < rn R))
theorem LMk.kd {w : yW} {m : Nat} {R : aRun} {j : Int} (h : LMk w m R j) : ∃ n, w_kd w m = (1, n) := by
  rcases h with z | z
  · exact ⟨0, z.1⟩
  · exact ⟨2, z.1⟩
section
variable {κ : iMem} {d : yD} {r : Nat} {kept : Option Nat} {R : aRun} {S1 : Nat → Prop} {H : Nat → aRun} {n : Nat} {x : Int} {K : Int → aRun} {f9 T : Int → Int} {x22 b is : Int} {Q : aQ9}
theorem act_swap (hI : cI R H n x K f9 0 T κ) (hL : LR (κ, d) r R S1) (hMB : MB R) (hb : 0 ≤ b ∧ b ≤ rn R) (his : isB R b is)
    (hQ : ∀ κ1 d1 does R1 H1 n1 x1, cI R1 H1 n1 x1 K f9 0 T κ1 → LR (κ1, d1) r R1 S1 → MB R1 → yG S1 0 0 (κ, d) (κ, d1) → (does = 0 ∨ (does = 1 ∧ n1 ≠ 0 ∧ H1 (n1 - 1) = R)) → Q (Sum.inr (Sum.inr (some r, kept, 1, does, 0))) (κ1, d1)) :
    yp (yB (yRm (ybUshr x22 (12 : Int)) (7 : Int)) fun x79 =>
                  yB (yP x79) fun x80 =>
                  yB (α := Int) (
                    yB (α := (Unit ⊕ Int)) (
                      yB (yR is) fun _ =>
                      if is = 0 then
                        yP (Sum.inl ())
                      else
                        yB (yGt 20 (some r) 1) fun x83 =>
                        yB (yR2 x80 x83) fun _ =>
                        if x83 ≤ x80 then
                          yP (Sum.inl ())
                        else
                          yB (yR2 x80 b) fun _ =>
                          if x80 = b then
                            yP (Sum.inl ())
                          else
                            yP (Sum.inr (1 : Int))) (Sum.elim (fun s82 =>
                      yP (0 : Int)) yP)) fun s81 =>
                  yB (yP s81) fun x84 =>
                  yB (yC ([b, x80] : List Int) (iz_Top_swap 0 b x80)) fun x85 =>
                  yB (α := Int) (
                    yB (yR x84) fun _ =>
                    if x84 = 0 then
                      yP (-1 : Int)
                    else
                      yP (1 : Int)) fun s86 =>
                  yB (α := Int) (
                    yB (yR2 x85 s86) fun _ =>
                    if ¬ x85 = s86 then
                      yP (0 : Int)
                    else
                      yP (1 : Int)) fun s87 =>
                  yB (yP s87) fun x88 =>
                  yB (yR x84) fun _ =>
                  if ¬ x84 = 0 then
                    yB (yGr 20 (some r) 2) fun x89 =>
                    yB (yLr 4 x89 b) fun x90 =>
                    yB (yP x90) fun x91 =>
                    yB (yGr 20 (some r) 3) fun x92 =>
                    yB (yLr 4 x92 b) fun x93 =>
                    yB (yP x93) fun x94 =>
                    yB (yGr 20 (some r) 2) fun x95 =>
                    yB (yGr 20 (some r) 2) fun x96 =>
                    yB (yLr 4 x96 x80) fun x97 =>
                    yB (ySr 4 1 x95 b x97) fun _ =>
                    yB (yGr 20 (some r) 3) fun x98 =>
                    yB (yGr 20 (some r) 3) fun x99 =>
                    yB (yLr 4 x99 x80) fun x100 =>
                    yB (ySr 4 1 x98 b x100) fun _ =>
                    yB (yGr 20 (some r) 2) fun x101 =>
                    yB (ySr 4 1 x101 x80 x91) fun _ =>
                    yB (yGr 20 (some r) 3) fun x102 =>
                    yB (ySr 4 1 x102 x80 x94) fun _ =>
                    yP (Sum.inr (Sum.inr (some r, kept, x88, x84, (0 : Int))))
                  else
                    yP (Sum.inr (Sum.inr (some r, kept, x88, x84, (0 : Int))))) Q (κ, d) := by
  have hw : WF R := hI.2.1.1
  have hn := hw.1
  have hn10 : n ≤ 10 := hI.2.1.2.1.1
  obtain ⟨kr, vr⟩ := hL.many
  obtain ⟨bb, kk, r2, kb, r3, kk4, nbk, ⟨sb, lb⟩, ⟨sk9, lk⟩, hrow⟩ := hL.rows
  have ib : iR b := iR_small ⟨by omega, by omega⟩
  have irn : iR (rn R) := iR_small ⟨by omega, by omega⟩
  refine yb_RmP (ushr_in (k := 12) ⟨by decide, by decide⟩) (by decide) (fun c hc => yb_P ?_)
  have ic : iR c := iR_small ⟨by omega, by omega⟩
  have fin1 : ∀ {β : Type} {Q : β → yW → Prop} {g : Int → yM β} {a e : Int} {w : yW}, a = e → iR e → yp (g 1) Q w → yp (yB (α := Int) (yB (yR2 a e) fun _ => if ¬ a = e then yP (0 : Int) else yP (1 : Int)) g) Q w := fun h h2 h3 => yp_B (yq_eq h h2 (yp_P h3))
  by_cases cs : (0 ≤ b ∧ b < rn R) ∧ c < rn R ∧ c ≠ b
  · obtain ⟨hbn, hcn, hcb⟩ := cs
    obtain ⟨p1, p2⟩ := pu_last (H := H) (R := R) hn10
    have e1 : is = 1 := by rcases his with z | z; · exact z.1
                           · exact absurd hbn z.2
    subst e1
    refine yp_bind (R := fun v w1 => v = 1 ∧ w1 = (κ, d)) (yp_bind (R := fun v w1 => v = Sum.inr 1 ∧ w1 = (κ, d)) (yb_R (by decide) (yp_ifF (by decide) (yb_gt kr vr (yb_R2 ⟨ic, irn⟩ (yp_ifF (by omega) (yb_R2 ⟨ic, ib⟩ (yp_ifF hcb (yp_P ⟨rfl, rfl⟩)))))))) (fun v w1 h => by obtain ⟨rfl, rfl⟩ := h; exact yp_P ⟨rfl, rfl⟩)) (fun v w1 h => ?_)
    obtain ⟨rfl, rfl⟩ := h
    refine yb_P (yq_act (ca_swap hI b c (S := SS 1 (RX R b c) (puH H n R) (puN n) K f9 0 T) (fun _ _ z => absurd z.symm hcb) (fun _ _ _ => SS_i) (fun _ z => absurd ⟨hc.1, hcn⟩ z) (fun z => absurd hbn z)) (xs2 ib ic) (fun x1 κ1 I1 => ?_))
    refine yp_bind (R := fun v w1 => v = 1 ∧ w1 = (κ1, d)) (yb_R (by decide) (yp_ifF (by decide) (yp_P ⟨rfl, rfl⟩))) (fun v w1 h => ?_)
    obtain ⟨rfl, rfl⟩ := h
    refine fin1 rfl (by decide) (yb_P (yb_R (by decide) (yp_ifT (by decide) ?_)))
    have hL1 : LR (κ1, d) r R S1 := hL
    obtain ⟨q1, m1, rq1, rm1, B1, M1, -⟩ := hrow b hbn.1 hbn.2
    obtain ⟨q2, m2, rq2, rm2, B2, M2, -⟩ := hrow c hc.1 hcn
    obtain ⟨n1, k1⟩ := M1.kd
    obtain ⟨n2, k2⟩ := M2.kd
    have hb17 : 0 ≤ b ∧ b < ((17 : Nat) : Int) := ⟨hbn.1, by omega⟩
    have hc17 : 0 ≤ c ∧ c < ((17 : Nat) : Int) := ⟨hc.1, by omega⟩
    have nrb : r ≠ bb := fun e => by rw [e] at kr; rw [kr] at kb; cases kb
    have nrk : r ≠ kk := fun e => by rw [e] at kr; rw [kr] at kk4; cases kk4
    have kr1 : w_kd ((κ1, d) : yW) r = (20, 0) := kr
    have kb1 : w_kd ((κ1, d) : yW) bb = (4, 17) := kb
    have kk1 : w_kd ((κ1, d) : yW) kk = (4, 17) := kk4
    have kq1 : w_kd ((κ1, d) : yW) q1 = (1, 7) := B1.1
    have kq2 : w_kd ((κ1, d) : yW) q2 = (1, 7) := B2.1
    have km1 : w_kd ((κ1, d) : yW) m1 = (1, n1) := k1
    have km2 : w_kd ((κ1, d) : yW) m2 = (1, n2) := k2
    have r21 : w_rv ((κ1, d) : yW) r 2 = some bb := r2
    have r31 : w_rv ((κ1, d) : yW) r 3 = some kk := r3
    refine yb_gr kr1 r21 (yb_lr kb1 hb17 (by decide) (r := some q1) rq1 (yb_P (yb_gr kr1 r31 (yb_lr kk1 hb17 (by decide) (r := some m1) rm1 (yb_P (yb_gr kr1 r21 (yb_gr kr1 r21 (yb_lr kb1 hc17 (by decide) (r := some q2) rq2 (yb_sr kb1 kq2 hb17 (by decide) ?_)))))))))
    refine yb_gr kr1 (r := some kk) ?_ (yb_gr kr1 (r := some kk) ?_ (yb_lr kk1 hc17 (by decide) (r := some m2) ?_ (yb_sr kk1 km2 hb17 (by decide) ?_)))
    · simp only [yv_7, yur_at nrb]; exact r3
    · simp only [yv_7, yur_at nrb]; exact r3
    · simp only [yv_7, yur_at (Ne.symm nbk)]; exact rm2
    refine yb_gr kr1 (r := some bb) ?_ (yb_sr kb1 kq1 hc17 (by decide) (yb_gr kr1 (r := some kk) ?_ (yb_sr kk1 km1 hc17 (by decide) (yp_P ?_))))
    · simp only [yv_7, yur_at nrb, yur_at nrk]; exact r2
    · simp only [yv_7, yur_at nrb, yur_at nrk]; exact r3
    have nyb : ¬ ym (w_kd ((κ1, d) : yW) bb) := by rw [kb1]; unfold ym; simp
    have nyk : ¬ ym (w_kd ((κ1, d) : yW) kk) := by rw [kk1]; unfold ym; simp
    have gS := (((yG.refl (D := S1) (w := ((κ1, d) : yW))).sr (p := bb) (i := b) (x := some q2) (Or.inr ⟨sb, nyb⟩)).sr (p := kk) (i := b) (x := some m2) (Or.inr ⟨sk9, nyk⟩)).sr (p := bb) (i := c) (x := some q1) (Or.inr ⟨sb, nyb⟩) |>.sr (p := kk) (i := c) (x := some m1) (Or.inr ⟨sk9, nyk⟩)
    refine hQ κ1 _ 1 (RX R b c) _ _ x1 I1 ?_ (fun j j0 jn => ?_) ⟨rfl, gS.2⟩ (Or.inr ⟨rfl, p1, p2⟩)
    · refine hL1.rows_of (R' := RX R b c) r21 r31 (fun j => if j = b then c else if j = c then b else j) (fun j j0 jn => ?_) (fun j l j0 jn l0 ln e => ?_) hn (fun _ _ _ => rfl) (fun j i j0 jn => ?_) ⟨rfl, rfl, fun _ _ => rfl, vr, fun q h1 h2 => ?_⟩ (fun j j0 jn => ⟨?_, ?_⟩)
      · have : j < rn R := jn
        split
        · exact ⟨hc.1, hcn⟩
        · split
          · exact hbn
          · exact ⟨j0, this⟩
      · by_cases y1 : j = b
        · by_cases y2 : l = b
          · omega
          · rw [if_pos y1, if_neg y2] at e
            by_cases y3 : l = c
            · rw [if_pos y3] at e; omega
            · rw [if_neg y3] at e; omega
        · by_cases y2 : l = b
          · rw [if_neg y1, if_pos y2] at e
            by_cases y3 : j = c
            · rw [if_pos y3] at e; omega
            · rw [if_neg y3] at e; omega
          · rw [if_neg y1, if_neg y2] at e
            by_cases y3 : j = c
            · by_cases y4 : l = c
              · omega
              · rw [if_pos y3, if_neg y4] at e; omega
            · by_cases y4 : l = c
              · rw [if_neg y3, if_pos y4] at e; omega
              · rw [if_neg y3, if_neg y4] at e; exact e
      · show (if j = b then rc R c i else if j = c then rc R b i else rc R j i) = rc R (if j = b then c else if j = c then b else j) i
        split
        · rfl
        · split <;> rfl
      · show yur (yur (yur (yur (w_rv ((κ1, d) : yW)) bb b (some q2)) kk b (some m2)) bb c (some q1)) kk c (some m1) q = _
        rw [yur_at h2, yur_at h1, yur_at h2, yur_at h1]
      · show yur (yur (yur (yur (w_rv ((κ1, d) : yW)) bb b (some q2)) kk b (some m2)) bb c (some q1)) kk c (some m1) bb j = w_rv ((κ1, d) : yW) bb (if j = b then c else if j = c then b else j)
        rw [yur_at nbk]
        by_cases y1 : j = b
        · rw [if_pos y1, y1, yur_n (Ne.symm hcb), yur_at nbk, yur_s]; exact rq2.symm
        · rw [if_neg y1]
          by_cases y2 : j = c
          · rw [if_pos y2, y2, yur_s]; exact rq1.symm
          · rw [if_neg y2, yur_n y2, yur_at nbk, yur_n y1]
      · show yur (yur (yur (yur (w_rv ((κ1, d) : yW)) bb b (some q2)) kk b (some m2)) bb c (some q1)) kk c (some m1) kk j = w_rv ((κ1, d) : yW) kk (if j = b then c else if j = c then b else j)
        by_cases y2 : j = c
        · rw [if_neg (show ¬ j = b by omega), if_pos y2, y2, yur_s]; exact rm1.symm
        · rw [yur_n y2, yur_at (Ne.symm nbk)]
          by_cases y1 : j = b
          · rw [if_pos y1, y1, yur_s]; exact rm2.symm
          · rw [if_neg y1, if_neg y2, yur_n y1, yur_at (Ne.symm nbk)]
    · show -1000 ≤ (if j = b then rc R c 8 else if j = c then rc R b 8 else rc R j 8) ∧ (if j = b then rc R c 8 else if j = c then rc R b 8 else rc R j 8) ≤ 1000
      have : j < rn R := jn
      split
      · exact hMB c hc.1 hcn
      · split
        · exact hMB b hbn.1 hbn.2
        · exact hMB j j0 this
  · refine yp_bind (R := fun v w1 => v = 0 ∧ w1 = (κ, d)) (yp_bind (R := fun v w1 => v = Sum.inl () ∧ w1 = (κ, d)) ?_ (fun v w1 h => by obtain ⟨rfl, rfl⟩ := h; exact yp_P ⟨rfl, rfl⟩)) (fun v w1 h => ?_)
    · rcases his with ⟨rfl, hbn⟩ | ⟨rfl, hno⟩
      · exact yb_R (by decide) (yp_ifF (by decide) (yb_gt kr vr (yb_R2 ⟨ic, irn⟩ (yp_if (fun _ => yp_P ⟨rfl, rfl⟩) (fun z => yb_R2 ⟨ic, ib⟩ (yp_ifT (Classical.byContradiction fun y => cs ⟨hbn, by omega, y⟩) (yp_P ⟨rfl, rfl⟩)))))))
      · exact yb_R (by decide) (yp_ifT rfl (yp_P ⟨rfl, rfl⟩))
    obtain ⟨rfl, rfl⟩ := h
    refine yb_P (yq_act (ca_swap hI b c (S := SS (-1) R H n K f9 0 T) (fun _ _ _ => SS_i) (fun z1 z2 z3 => absurd ⟨z1, z2.2, fun e => z3 e.symm⟩ cs) (fun _ _ => SS_i) (fun _ => SS_i)) (xs2 ib ic) (fun x1 κ1 I1 => ?_))
    refine yp_bind (R := fun v w1 => v = -1 ∧ w1 = (κ1, d)) (yb_R (by decide) (yp_ifT rfl (yp_P ⟨rfl, rfl⟩))) (fun v w1 h => ?_)
    obtain ⟨rfl, rfl⟩ := h
    exact fin1 rfl (by decide) (yb_P (yb_R (by decide) (yp_ifF (fun z => z rfl) (yp_P (hQ κ1 d 0 R H n x1 I1 hL hMB yG.refl (Or.inl rfl))))))
end
