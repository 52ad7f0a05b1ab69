/-! ===== a RUN of the script's: all of it ===== -/
section
variable {Y : yY} {w0 w : yW} {p r b : Nat} {R : aRun}
theorem fin0 {β : Type} {Q : β → yW → Prop} {w2 : yW} {f : Unit → yM β} {v0 v1 v2 v3 v4 v5 v6 : Int} (hI : SI Y w0 p r b R w) (hb : b ≤ 5) (g2 : yG y0 1 7 w w2) (z2 : w_sz w2 = w_sz w + 1) (k2 : w_kd w2 (w_sz w) = (1, 7)) (e2 : w_iv w2 (w_sz w) 0 = v0 ∧ w_iv w2 (w_sz w) 1 = v1 ∧ w_iv w2 (w_sz w) 2 = v2 ∧ w_iv w2 (w_sz w) 3 = v3 ∧ w_iv w2 (w_sz w) 4 = v4 ∧ w_iv w2 (w_sz w) 5 = v5 ∧ w_iv w2 (w_sz w) 6 = v6) (hT : TWv v0 v1 v2 v3 v4 v5 v6 0 0 0) (h5 : 0 ≤ v1 ∧ v1 ≤ 5) (h : ∀ w4 R4, SI Y w0 p r (b + 1) R4 w4 → yp (f ()) Q w4) : yp (yB (yNa 1 (0 : Int)) fun x46 => yB (yKr 20 (some r) (kf_LRun_adds Y (some r) (some (w_sz w)) x46)) f) Q w2 := by
  refine yb_na ⟨by decide, by decide⟩ (fun w3 e3 => ?_)
  have z3 := e3.sz
  have o := e3.old (w_sz w) (by omega)
  refine sm_add hI hb ((g2.trans (D' := y0) e3.g (fun _ _ z => z)).le (fun _ _ z => z) (Nat.le_refl _) (by decide)) (by omega) (o.1.trans k2) (by rw [o.2.1]; exact e2) (by omega) (Or.inl ⟨e3.kd, rfl⟩) hT h5 h
theorem fin1 {β : Type} {Q : β → yW → Prop} {w2 : yW} {f : Unit → yM β} {v0 v1 v2 v3 v4 v5 v6 x y : Int} (hI : SI Y w0 p r b R w) (hb : b ≤ 5) (g2 : yG y0 1 7 w w2) (z2 : w_sz w2 = w_sz w + 1) (k2 : w_kd w2 (w_sz w) = (1, 7)) (e2 : w_iv w2 (w_sz w) 0 = v0 ∧ w_iv w2 (w_sz w) 1 = v1 ∧ w_iv w2 (w_sz w) 2 = v2 ∧ w_iv w2 (w_sz w) 3 = v3 ∧ w_iv w2 (w_sz w) 4 = v4 ∧ w_iv w2 (w_sz w) 5 = v5 ∧ w_iv w2 (w_sz w) 6 = v6) (hx : 0 ≤ x ∧ x < 2147483648) (hy : 0 ≤ y ∧ y < 2147483648) (h5 : 1 ≤ v1 ∧ v1 ≤ 5) (hT : ∀ a c, 0 ≤ a → a < v1 → 0 ≤ c → c < 5 → TWv v0 v1 v2 v3 v4 v5 v6 1 (1 + a) (1 + c)) (h : ∀ w4 R4, SI Y w0 p r (b + 1) R4 w4 → yp (f ()) Q w4) : yp (yB (yNa 1 (2 : Int)) fun x63 => yB (yRm x v1) fun x64 => yB (ySt x63 (0 : Int) ((1 : Int) + x64)) fun _ => yB (yRm y (5 : Int)) fun x65 => yB (ySt x63 (1 : Int) ((1 : Int) + x65)) fun _ => yB (yKr 20 (some r) (kf_LRun_adds Y (some r) (some (w_sz w)) x63)) f) Q w2 := by
  refine yb_na ⟨by decide, by decide⟩ (fun w3 e3 => ?_)
  have z3 := e3.sz
  have o := e3.old (w_sz w) (by omega)
  have k3 : w_kd w3 (w_sz w2) = (1, 2) := e3.kd
  refine yb_RmP hx ⟨by omega, by omega⟩ (fun a ha => yb_st k3 ⟨by decide, by decide⟩ (by decide) (yb_RmP hy ⟨by decide, by decide⟩ (fun c hc => yb_st k3 ⟨by decide, by decide⟩ (by decide) ?_)))
  have ne : w_sz w ≠ w_sz w2 := by omega
  have L2 : w_sz w ≤ w_sz w2 := by omega
  refine sm_add (a7 := 1) (a8 := 1 + a) (a12 := 1 + c) hI hb ((((g2.trans (D' := y0) e3.g (fun _ _ z => z)).st (Or.inl L2)).st (Or.inl L2)).le (fun _ _ z => z) (Nat.le_refl _) (by decide)) (by show w_sz w + 1 ≤ w_sz w3; omega) (o.1.trans k2) ?_ (by show w_sz w2 < w_sz w3; omega) (Or.inr ⟨k3, rfl, ?_, ?_⟩) (hT a c ha.1 ha.2 hc.1 hc.2) ⟨by omega, h5.2⟩ h
  · simp only [yv_1, yu_at ne, o.2.1]; exact e2
  · simp only [yv_1, yu_n (show (0 : Int) ≠ 1 by decide), yu_s]
  · simp only [yv_1, yu_s]
theorem some_blk {p2 : Int} {Q : (Int ⊕ Unit) → yW → Prop} (hI : SI Y w0 p r b R w) (hb : b ≤ 5) (hp2 : 0 ≤ p2 ∧ p2 ≤ 1000) (hQ : ∀ w4, (∃ R4, SI Y w0 p r (b + 1) R4 w4) → Q (Sum.inl ((b : Int) + 1)) w4) :
    yp (yB (yK (kf_Law_cell Y (some p) ((p2 + (9 : Int)) + (b : Int)))) fun x32 =>
    yB (yP (ybUshr x32 (1 : Int))) fun x33 =>
    yB (α := Int) (
      yB (yR (ybAnd (ybUshr x33 (3 : Int)) (7 : Int))) fun _ =>
      if ¬ (ybAnd (ybUshr x33 (3 : Int)) (7 : Int)) = 0 then
        yP (0 : Int)
      else
        yP (1 : Int)) fun s34 =>
    yB (yP s34) fun x35 =>
    yB (α := Int) (
      yB (yR (ybAnd (ybUshr x33 (6 : Int)) (3 : Int))) fun _ =>
      if ¬ (ybAnd (ybUshr x33 (6 : Int)) (3 : Int)) = 0 then
        yP (0 : Int)
      else
        yB (yRm (ybUshr x33 (8 : Int)) (4 : Int)) fun x37 =>
        yP ((1 : Int) + x37)) fun s36 =>
    yB (yP s36) fun x38 =>
    yB (yRm (ybUshr x33 (10 : Int)) (5 : Int)) fun x39 =>
    yB (yP ((1 : Int) + x39)) fun x40 =>
    yB (yRm x33 (8 : Int)) fun x41 =>
    yB (α := Unit) (
      yB (α := (Unit ⊕ Unit)) (
        yB (yR x41) fun _ =>
        if x41 = 0 then
          yP (Sum.inl ())
        else
        if x41 = 1 then
          yP (Sum.inl ())
        else
        if x41 = 2 then
          yP (Sum.inl ())
        else
        if x41 = 3 then
          yP (Sum.inl ())
        else
        if x41 = 4 then
          yB (yNa 1 (7 : Int)) fun x44 =>
          yB (ySt x44 (0 : Int) (1 : Int)) fun _ =>
          yB (ySt x44 (1 : Int) (1 : Int)) fun _ =>
          yB (yRm (ybUshr x33 (13 : Int)) (8 : Int)) fun x45 =>
          yB (ySt x44 (2 : Int) ((1 : Int) + x45)) fun _ =>
          yB (ySt x44 (3 : Int) (0 : Int)) fun _ =>
          yB (ySt x44 (4 : Int) x35) fun _ =>
          yB (ySt x44 (5 : Int) (0 : Int)) fun _ =>
          yB (ySt x44 (6 : Int) x38) fun _ =>
          yB (yNa 1 (0 : Int)) fun x46 =>
          yB (yKr 20 (some r) (kf_LRun_adds Y (some r) x44 x46)) fun _ =>
          yP (Sum.inr ())
        else
        if x41 = 5 then
          yB (yNa 1 (7 : Int)) fun x48 =>
          yB (ySt x48 (0 : Int) (2 : Int)) fun _ =>
          yB (ySt x48 (1 : Int) (1 : Int)) fun _ =>
          yB (yRm (ybUshr x33 (13 : Int)) (3 : Int)) fun x49 =>
          yB (ySt x48 (2 : Int) ((1 : Int) + x49)) fun _ =>
          yB (ySt x48 (3 : Int) (0 : Int)) fun _ =>
          yB (ySt x48 (4 : Int) x35) fun _ =>
          yB (ySt x48 (5 : Int) (0 : Int)) fun _ =>
          yB (ySt x48 (6 : Int) x38) fun _ =>
          yB (yNa 1 (0 : Int)) fun x50 =>
          yB (yKr 20 (some r) (kf_LRun_adds Y (some r) x48 x50)) fun _ =>
          yP (Sum.inr ())
        else
        if x41 = 6 then
          yB (yNa 1 (7 : Int)) fun x52 =>
          yB (ySt x52 (0 : Int) (3 : Int)) fun _ =>
          yB (ySt x52 (1 : Int) x40) fun _ =>
          yB (yRm (ybUshr x33 (13 : Int)) (2 : Int)) fun x53 =>
          yB (ySt x52 (2 : Int) ((1 : Int) + x53)) fun _ =>
          yB (yRm (ybUshr x33 (15 : Int)) (3 : Int)) fun x54 =>
          yB (ySt x52 (3 : Int) x54) fun _ =>
          yB (ySt x52 (4 : Int) x35) fun _ =>
          yB (ySt x52 (5 : Int) (0 : Int)) fun _ =>
          yB (ySt x52 (6 : Int) x38) fun _ =>
          yB (yNa 1 (0 : Int)) fun x55 =>
          yB (yKr 20 (some r) (kf_LRun_adds Y (some r) x52 x55)) fun _ =>
          yP (Sum.inr ())
        else
        yB (yNa 1 (7 : Int)) fun x57 =>
        yB (ySt x57 (0 : Int) (4 : Int)) fun _ =>
        yB (ySt x57 (1 : Int) (0 : Int)) fun _ =>
        yB (yRm (ybUshr x33 (13 : Int)) (5 : Int)) fun x58 =>
        yB (ySt x57 (2 : Int) ((1 : Int) + x58)) fun _ =>
        yB (ySt x57 (3 : Int) (0 : Int)) fun _ =>
        yB (ySt x57 (4 : Int) (0 : Int)) fun _ =>
        yB (ySt x57 (5 : Int) (0 : Int)) fun _ =>
        yB (ySt x57 (6 : Int) (0 : Int)) fun _ =>
        yB (yNa 1 (0 : Int)) fun x59 =>
        yB (yKr 20 (some r) (kf_LRun_adds Y (some r) x57 x59)) fun _ =>
        yP (Sum.inr ())) (Sum.elim (fun s43 =>
        yB (yR (ybAnd (ybUshr x33 (20 : Int)) (1 : Int))) fun _ =>
        if ¬ (ybAnd (ybUshr x33 (20 : Int)) (1 : Int)) = 0 then
          yB (yNa 1 (7 : Int)) fun x61 =>
          yB (ySt x61 (0 : Int) (0 : Int)) fun _ =>
          yB (ySt x61 (1 : Int) x40) fun _ =>
          yB (yRm (ybUshr x33 (13 : Int)) (3 : Int)) fun x62 =>
          yB (ySt x61 (2 : Int) ((1 : Int) + x62)) fun _ =>
          yB (ySt x61 (3 : Int) (0 : Int)) fun _ =>
          yB (ySt x61 (4 : Int) x35) fun _ =>
          yB (ySt x61 (5 : Int) (0 : Int)) fun _ =>
          yB (ySt x61 (6 : Int) x38) fun _ =>
          yB (yNa 1 (2 : Int)) fun x63 =>
          yB (yRm (ybUshr x33 (21 : Int)) x40) fun x64 =>
          yB (ySt x63 (0 : Int) ((1 : Int) + x64)) fun _ =>
          yB (yRm (ybUshr x33 (23 : Int)) (5 : Int)) fun x65 =>
          yB (ySt x63 (1 : Int) ((1 : Int) + x65)) fun _ =>
          yB (yKr 20 (some r) (kf_LRun_adds Y (some r) x61 x63)) fun _ =>
          yP ()
        else
          yB (yNa 1 (7 : Int)) fun x67 =>
          yB (ySt x67 (0 : Int) (0 : Int)) fun _ =>
          yB (ySt x67 (1 : Int) x40) fun _ =>
          yB (yRm (ybUshr x33 (13 : Int)) (3 : Int)) fun x68 =>
          yB (ySt x67 (2 : Int) ((1 : Int) + x68)) fun _ =>
          yB (ySt x67 (3 : Int) (0 : Int)) fun _ =>
          yB (ySt x67 (4 : Int) x35) fun _ =>
          yB (α := Int) (
            yB (yR (ybAnd (ybUshr x33 (15 : Int)) (7 : Int))) fun _ =>
            if ¬ (ybAnd (ybUshr x33 (15 : Int)) (7 : Int)) = 0 then
              yP (0 : Int)
            else
              yP (1 : Int)) fun s69 =>
          yB (ySt x67 (5 : Int) s69) fun _ =>
          yB (ySt x67 (6 : Int) x38) fun _ =>
          yB (yNa 1 (0 : Int)) fun x70 =>
          yB (yKr 20 (some r) (kf_LRun_adds Y (some r) x67 x70)) fun _ =>
          yP ()) yP)) fun s42 =>
    yB (yP ((b : Int) + 1)) fun x72 =>
    yP (Sum.inl x72)) Q w := by
  obtain ⟨hL, hS, hn, hj, hg, hSC, hY⟩ := id hI
  refine yb_cell hSC ⟨by omega, by omega⟩ (fun x hx => yb_P ?_)
  generalize ybUshr x 1 = v at hx
  have ui : ∀ k : Nat, 1 ≤ k → k < 32 → 0 ≤ ybUshr v (k : Int) ∧ ybUshr v (k : Int) < 2147483648 := fun k h1 h2 => ushr_in ⟨h1, h2⟩
  refine yp_bind (R := fun q w1 => (q = 0 ∨ q = 1) ∧ w1 = w) (yb_R iR_ybAnd (yp_if (fun _ => yp_P ⟨Or.inl rfl, rfl⟩) (fun _ => yp_P ⟨Or.inr rfl, rfl⟩))) (fun td w1 h1 => ?_)
  obtain ⟨htd, rfl⟩ := h1
  refine yb_P ?_
  refine yp_bind (R := fun q w2 => (0 ≤ q ∧ q ≤ 4) ∧ w2 = w1) (yb_R iR_ybAnd (yp_if (fun _ => yp_P ⟨by decide, rfl⟩) (fun _ => yb_RmP (ui 8 (by decide) (by decide)) (by decide) (fun q hq => yp_P ⟨by omega, rfl⟩)))) (fun sp w2 h2 => ?_)
  obtain ⟨hsp, rfl⟩ := h2
  refine yb_P (yb_RmP (ui 10 (by decide) (by decide)) (by decide) (fun ln hln => yb_P (yb_RmP hx (by decide) (fun kd hkd => ?_))))
  refine yp_bind (R := fun _ w4 => ∃ R4, SI Y w0 p r (b + 1) R4 w4) ?_ (fun _ w4 h4 => yb_P (yp_P ?_))
  · refine yp_bind (R := fun q w4 => (q = Sum.inl () ∧ w4 = w2) ∨ (q = Sum.inr () ∧ ∃ R4, SI Y w0 p r (b + 1) R4 w4)) ?_ (fun q w4 h4 => ?_)
    · refine yb_R (iR_small ⟨by omega, by omega⟩) ?_
      refine yp_if (fun _ => yp_P (Or.inl ⟨rfl, rfl⟩)) (fun n0 => ?_)
      refine yp_if (fun _ => yp_P (Or.inl ⟨rfl, rfl⟩)) (fun n1 => ?_)
      refine yp_if (fun _ => yp_P (Or.inl ⟨rfl, rfl⟩)) (fun n2 => ?_)
      refine yp_if (fun _ => yp_P (Or.inl ⟨rfl, rfl⟩)) (fun n3 => ?_)
      refine yp_if (fun c4 => ?_) (fun n4 => ?_)
      · refine yb_na ⟨by decide, by decide⟩ (fun w5 e5 => ?_)
        have k5 := e5.kd
        refine yb_st k5 (by decide) (by decide) (yb_st k5 (by decide) (by decide) (yb_RmP (ui 13 (by decide) (by decide)) (by decide) (fun h9 hh9 => yb_st k5 (by decide) (by decide) (yb_st k5 (by decide) (by decide) (yb_st k5 (by decide) (by decide) (yb_st k5 (by decide) (by decide) (yb_st k5 (by decide) (by decide) ?_)))))))
        exact row7 e5 (fun w6 g6 z6 k6 v6 => fin0 hI hb g6 z6 k6 v6 (by unfold TWv; omega) (by decide) (fun w7 R7 h7 => yp_P (Or.inr ⟨rfl, R7, h7⟩)))
      refine yp_if (fun c5 => ?_) (fun n5 => ?_)
      · refine yb_na ⟨by decide, by decide⟩ (fun w5 e5 => ?_)
        have k5 := e5.kd
        refine yb_st k5 (by decide) (by decide) (yb_st k5 (by decide) (by decide) (yb_RmP (ui 13 (by decide) (by decide)) (by decide) (fun h9 hh9 => yb_st k5 (by decide) (by decide) (yb_st k5 (by decide) (by decide) (yb_st k5 (by decide) (by decide) (yb_st k5 (by decide) (by decide) (yb_st k5 (by decide) (by decide) ?_)))))))
        exact row7 e5 (fun w6 g6 z6 k6 v6 => fin0 hI hb g6 z6 k6 v6 (by unfold TWv; omega) (by decide) (fun w7 R7 h7 => yp_P (Or.inr ⟨rfl, R7, h7⟩)))
      refine yp_if (fun c6 => ?_) (fun n6 => ?_)
      · refine yb_na ⟨by decide, by decide⟩ (fun w5 e5 => ?_)
        have k5 := e5.kd
        refine yb_st k5 (by decide) (by decide) (yb_st k5 (by decide) (by decide) (yb_RmP (ui 13 (by decide) (by decide)) (by decide) (fun h9 hh9 => yb_st k5 (by decide) (by decide) (yb_RmP (ui 15 (by decide) (by decide)) (by decide) (fun t9 ht9 => yb_st k5 (by decide) (by decide) (yb_st k5 (by decide) (by decide) (yb_st k5 (by decide) (by decide) (yb_st k5 (by decide) (by decide) ?_))))))))
        exact row7 e5 (fun w6 g6 z6 k6 v6 => fin0 hI hb g6 z6 k6 v6 (by unfold TWv; omega) (by omega) (fun w7 R7 h7 => yp_P (Or.inr ⟨rfl, R7, h7⟩)))
      · refine yb_na ⟨by decide, by decide⟩ (fun w5 e5 => ?_)
        have k5 := e5.kd
        refine yb_st k5 (by decide) (by decide) (yb_st k5 (by decide) (by decide) (yb_RmP (ui 13 (by decide) (by decide)) (by decide) (fun h9 hh9 => yb_st k5 (by decide) (by decide) (yb_st k5 (by decide) (by decide) (yb_st k5 (by decide) (by decide) (yb_st k5 (by decide) (by decide) (yb_st k5 (by decide) (by decide) ?_)))))))
        exact row7 e5 (fun w6 g6 z6 k6 v6 => fin0 hI hb g6 z6 k6 v6 (by unfold TWv; omega) (by decide) (fun w7 R7 h7 => yp_P (Or.inr ⟨rfl, R7, h7⟩)))
    · rcases h4 with ⟨rfl, rfl⟩ | ⟨rfl, h4⟩
      · rw [Sum.elim_inl]
        refine yb_R iR_ybAnd (yp_if (fun _ => ?_) (fun _ => ?_))
        · refine yb_na ⟨by decide, by decide⟩ (fun w5 e5 => ?_)
          have k5 := e5.kd
          refine yb_st k5 (by decide) (by decide) (yb_st k5 (by decide) (by decide) (yb_RmP (ui 13 (by decide) (by decide)) (by decide) (fun h9 hh9 => yb_st k5 (by decide) (by decide) (yb_st k5 (by decide) (by decide) (yb_st k5 (by decide) (by decide) (yb_st k5 (by decide) (by decide) (yb_st k5 (by decide) (by decide) ?_)))))))
          exact row7 e5 (fun w6 g6 z6 k6 v6 => fin1 hI hb g6 z6 k6 v6 (ui 21 (by decide) (by decide)) (ui 23 (by decide) (by decide)) (by omega) (fun a c a0 a1 c0 c1 => by unfold TWv; omega) (fun w7 R7 h7 => yp_P ⟨R7, h7⟩))
        · refine yb_na ⟨by decide, by decide⟩ (fun w5 e5 => ?_)
          have k5 := e5.kd
          refine yb_st k5 (by decide) (by decide) (yb_st k5 (by decide) (by decide) (yb_RmP (ui 13 (by decide) (by decide)) (by decide) (fun h9 hh9 => yb_st k5 (by decide) (by decide) (yb_st k5 (by decide) (by decide) (yb_st k5 (by decide) (by decide) ?_)))))
          refine yp_bind (R := fun q w6 => (q = 0 ∨ q = 1) ∧ w6 = _) (yb_R iR_ybAnd (yp_if (fun _ => yp_P ⟨Or.inl rfl, rfl⟩) (fun _ => yp_P ⟨Or.inr rfl, rfl⟩))) (fun wh w6 h6 => ?_)
          obtain ⟨hwh, rfl⟩ := h6
          refine yb_st k5 (by decide) (by decide) (yb_st k5 (by decide) (by decide) ?_)
          exact row7 e5 (fun w6 g6 z6 k6 v6 => fin0 hI hb g6 z6 k6 v6 (by unfold TWv; omega) (by omega) (fun w7 R7 h7 => yp_P ⟨R7, h7⟩))
      · exact yp_P h4
  · exact hQ w4 h4
end
