/-! ===== same: the object answers as the law's own RUN has it ===== -/
theorem run_same {Y : yY} {Q : Int → yW → Prop} {w : yW} {r : Nat} {R : aRun} {S : Nat → Prop} {H : Nat → aRun} {n : Nat} {x : Int} {K : Int → aRun} {f9 : Int → Int} {L : Int} {T : Int → Int} (hI : cI R H n x K f9 L T w.1) (hL : LR w r R S) (hMB : MB R) (k : ∀ w1, yG y0 9 811 w (w.1, w1.2) → cI R H n x K f9 L T w1.1 → Q 1 w1) : yp (kf_Law_same Y (some r)) Q w := by
  have hw : WF R := hI.2.1.1
  have hn := hw.1
  have h90 := hw.2.2.2
  have hnp := np_ge hw
  have hns := ns_in hw
  have ws := hw.2.1
  unfold WFs at ws
  unfold kf_Law_same
  refine yb_no (fun w1 e1 => yb_Kr (Or.inl (by rw [e1.kd])) ?_)
  have L1 : LR w1 r R (fun q => S q ∧ q < w_sz w) := (hL.mono (fun q h1 h2 => ⟨h2, h1⟩)).keep e1.g (fun _ _ _ z => z)
  refine run_flat hMB e1.sz e1.kd (fun i => by rw [e1.iv]) L1 (fun z => by omega) hw (fun w2 g2 z2 F2 => ⟨⟨g2.2.1.1, g2.2.2.1.1⟩, yb_P ?_⟩)
  have L2 : LR w2 r R (fun q => S q ∧ q < w_sz w) := L1.keep g2 (fun q _ z e => by omega)
  have G2 : yG y0 9 811 w w2 := (e1.g.trans (D' := fun q => q = w_sz w) g2 (fun q hq e => by omega)).le (fun _ _ z => z) (by decide) (by decide)
  have I2 : cI R H n x K f9 L T w2.1 := by rw [g2.1, e1.κ]; exact hI
  obtain ⟨κ2, d⟩ := w2
  have G : ∀ κ, yG y0 9 811 w (w.1, ((κ, d) : yW).2) := fun κ => ⟨rfl, G2.2⟩
  clear g2 z2 L1 G2
  generalize w_sz w = A at F2 L2
  have hF : ∀ κ, FL A r R (κ, d) := fun _ => F2
  have hLR : ∀ κ, LR (κ, d) r R (fun q => S q ∧ q < A) := fun _ => L2
  have kr : ∀ κ, w_kd ((κ, d) : yW) r = (20, 0) := fun κ => (hLR κ).many.1
  have vr : ∀ κ, w_iv ((κ, d) : yW) r 1 = rn R := fun κ => (hLR κ).many.2
  have f9' : ∀ κ, w_iv ((κ, d) : yW) A 9 = np R := fun κ => (hF κ).2.2.1.1
  have f10 : ∀ κ, w_iv ((κ, d) : yW) A 10 = ns R := fun κ => (hF κ).2.2.1.2
  have kA : ∀ κ, w_kd ((κ, d) : yW) A = (19, 0) := fun κ => (hF κ).1.1
  have cq : ∀ (a b c k : Int), 10 ≤ k → k < 18 → couV R a b c k = rs R (k - 10) := fun a b c k h1 h2 => if_pos ⟨h1, h2⟩
  have irn : iR (rn R) := iR_small ⟨by omega, by omega⟩
  have inp : iR (np R) := iR_small ⟨by omega, by omega⟩
  have ins : iR (ns R) := iR_small ⟨by omega, by omega⟩
  refine yq_count I2 0 (by decide) (fun κ3 I3 => yb_gt (kr κ3) (vr κ3) ?_)
  refine yp_bind (R := fun q w1 => q = 1 ∧ ∃ κ1, w1 = (κ1, d) ∧ cI R H n x K f9 L T κ1) ?_ (fun q w3 h3 => ?_)
  · refine yp_bind (R := fun q w1 => q = Sum.inr 1 ∧ ∃ κ1, w1 = (κ1, d) ∧ cI R H n x K f9 L T κ1) ?_ (fun q w3 h3 => by obtain ⟨rfl, h3⟩ := h3; exact yp_P ⟨rfl, h3⟩)
    refine yq_eq rfl irn ?_
    refine yq_count I3 1 (by decide) (fun κ4 I4 => yb_gt (kA κ4) (f9' κ4) (yq_eq rfl inp ?_))
    refine yq_count I4 2 (by decide) (fun κ5 I5 => yb_gt (kA κ5) (f10 κ5) (yq_eq rfl ins ?_))
    exact yq_count I5 18 (by decide) (fun κ6 I6 => yq_eq rfl (by decide) (yp_P ⟨rfl, κ6, rfl, I6⟩))
  obtain ⟨rfl, κ7, rfl, I7⟩ := h3
  refine yb_P (yb_P (yb_P (yb_P (yb_P ?_))))
  -- the SETTINGS
  refine yp_bind (R := fun q w1 => q = 1 ∧ ∃ κ1, w1 = (κ1, d) ∧ cI R H n x K f9 L T κ1) ?_ (fun q w3 h3 => ?_)
  · refine yp_Lp (fun s w1 => s.1 = 1 ∧ (0 ≤ s.2 ∧ s.2 ≤ 8) ∧ ∃ κ1, w1 = (κ1, d) ∧ cI R H n x K f9 L T κ1) (fun s _ => (8 - s.2).toNat) ⟨rfl, by decide, κ7, rfl, I7⟩ (fun s w1 hs => ?_)
    obtain ⟨s1, ⟨i, s2⟩⟩ : Int × Int × Unit := (s.1, s.2, ())
    obtain ⟨ok, i⟩ := s
    obtain ⟨h1, ⟨i0, i8⟩, κ8, rfl, I8⟩ := hs
    have h1' : ok = 1 := h1
    subst h1'
    have i0' : 0 ≤ i := i0
    have i8' : i ≤ 8 := i8
    refine yb_R2 ⟨iR_small ⟨by show _ ≤ i; omega, by show i ≤ _; omega⟩, by decide⟩ (yp_if (fun c => yp_P ⟨rfl, κ8, rfl, I8⟩) (fun c => ?_))
    have c' : ¬ (8 : Int) ≤ i := c
    obtain ⟨st, t0, kt, vt, -⟩ := (hLR κ8).sets
    have hk := ws
    refine yb_R (by show iR 1; decide) (yp_ifF (by show ¬ (1 : Int) = 0; decide) ?_)
    refine yq_count I8 (10 + i) (iR_small ⟨by omega, by omega⟩) (fun κ9 I9 => yb_gr (kr κ9) (r := some st) t0 (yb_ld (p := st) (n := 8) kt ⟨i0', by omega⟩ (by decide) (vt i i0' (by omega)) ?_))
    have e9 : couV R n L (f9 0 + 2 * f9 1) (10 + i) = rs R i := by
      rw [cq _ _ _ _ (by omega) (by omega), show 10 + i - 10 = i by omega]
    have irs : iR (rs R i) := by
      have : i = 0 ∨ i = 1 ∨ i = 2 ∨ i = 3 ∨ i = 4 ∨ i = 5 ∨ i = 6 ∨ i = 7 := by omega
      rcases this with rfl | rfl | rfl | rfl | rfl | rfl | rfl | rfl <;> exact iR_small ⟨by omega, by omega⟩
    refine yp_bind (R := fun q w1 => q = 1 ∧ w1 = (κ9, d)) (yq_eq e9 irs (yp_P ⟨rfl, rfl⟩)) (fun q w3 h3 => ?_)
    obtain ⟨rfl, rfl⟩ := h3
    exact yb_P (yb_P (yp_P ⟨⟨rfl, ⟨by show 0 ≤ i + 1; omega, by show i + 1 ≤ 8; omega⟩, κ9, rfl, I9⟩, by show (8 - (i + 1)).toNat < (8 - i).toNat; omega⟩))
  obtain ⟨rfl, κ8, rfl, I8⟩ := h3
  refine yb_P ?_
  -- the BLOCKS
  refine yp_bind (R := fun q w1 => q = (1, sc R (rn R)) ∧ ∃ κ1, w1 = (κ1, d) ∧ cI R H n x K f9 L T κ1) ?_ (fun q w3 h3 => ?_)
  · refine yp_Lp (fun s w1 => (s.1 = 1 ∧ s.2.1 = fs R s.2.2.2 ∧ s.2.2.1 = sc R s.2.2.2) ∧ (0 ≤ s.2.2.2 ∧ s.2.2.2 ≤ rn R) ∧ ∃ κ1, w1 = (κ1, d) ∧ cI R H n x K f9 L T κ1) (fun s _ => (rn R - s.2.2.2).toNat) ⟨⟨rfl, rfl, rfl⟩, ⟨Int.le_refl _, hn.1⟩, κ8, rfl, I8⟩ (fun s w1 hs => ?_)
    obtain ⟨ok, a1, a2, b⟩ := s
    obtain ⟨⟨h1, h2, h3⟩, ⟨b0, b1⟩, κ9, rfl, I9⟩ := hs
    dsimp only at h1 h2 h3 b0 b1
    subst h1 h2 h3
    dsimp only
    refine yb_gt (kr κ9) (vr κ9) (yb_R2 ⟨iR_small ⟨by omega, by omega⟩, irn⟩ (yp_if (fun c => yp_P ⟨?_, κ9, rfl, I9⟩) (fun c => ?_)))
    · rw [show b = rn R by omega]
    have hb : 0 ≤ b ∧ b < rn R := ⟨b0, by omega⟩
    have ib : iR b := iR_small ⟨by omega, by omega⟩
    obtain ⟨bb, kk, r2, kb, r3, kk4, -, -, -, hrow⟩ := (hLR κ9).rows
    obtain ⟨q, m, rq, rm, ⟨kq, vq⟩, hM, -⟩ := hrow b hb.1 hb.2
    have wb := hw.2.2.1 b hb.1 hb.2
    unfold WFb at wb
    have hf1 := fs_ge hw hb.1 (by omega)
    have hf2 := fs_le hw hb.1 (by omega)
    have bq : ∀ i : Int, 0 ≤ i → i < 7 → 0 ≤ i ∧ i < ((7 : Nat) : Int) := fun i h1 h2 => ⟨h1, by omega⟩
    have ir : ∀ i : Int, 0 ≤ i → i < 7 → iR (rc R b i) := fun i h1 h2 => by
      have : i = 0 ∨ i = 1 ∨ i = 2 ∨ i = 3 ∨ i = 4 ∨ i = 5 ∨ i = 6 := by omega
      rcases this with rfl | rfl | rfl | rfl | rfl | rfl | rfl <;> exact iR_small ⟨by omega, by omega⟩
    have ld : ∀ {β : Type} {Q : β → yW → Prop} {f : Int → yM β} (κ : iMem) (i : Int), 0 ≤ i → i < 7 → yp (f (rc R b i)) Q (κ, d) → yp (yB (yLd 1 (some q) i) f) Q (κ, d) := fun κ i h1 h2 h => yb_ld (p := q) (n := 7) kq (bq i h1 h2) (by decide) (vq i h1 h2) h
    refine yb_R (by decide) (yp_ifF (by decide) (yb_gr (kr κ9) r2 (yb_lr kb ⟨hb.1, by omega⟩ (by decide) rq (yb_P ?_))))
    refine yq_block I9 b 0 ib (by decide) (fun κ10 I10 => ld κ10 0 (by decide) (by decide) ?_)
    refine yp_bind (R := fun q w1 => q = 1 ∧ ∃ κ1, w1 = (κ1, d) ∧ cI R H n x K f9 L T κ1) ?_ (fun q w3 h3 => ?_)
    · refine yp_bind (R := fun q w1 => q = Sum.inr 1 ∧ ∃ κ1, w1 = (κ1, d) ∧ cI R H n x K f9 L T κ1) ?_ (fun q w3 h3 => by obtain ⟨rfl, h3⟩ := h3; exact yp_P ⟨rfl, h3⟩)
      refine yq_eq (blk_in hb) (ir 0 (by decide) (by decide)) ?_
      refine yq_block I10 b 1 ib (by decide) (fun κ11 I11 => ld κ11 1 (by decide) (by decide) (yq_eq (blk_in hb) (ir 1 (by decide) (by decide)) ?_))
      refine yq_block I11 b 2 ib (by decide) (fun κ12 I12 => yq_eq (blk_in hb) (iR_small ⟨by omega, by omega⟩) ?_)
      refine yq_block I12 b 3 ib (by decide) (fun κ13 I13 => ld κ13 2 (by decide) (by decide) (yq_eq (blk_in hb) (ir 2 (by decide) (by decide)) ?_))
      refine yq_block I13 b 4 ib (by decide) (fun κ14 I14 => ld κ14 3 (by decide) (by decide) (yq_eq (blk_in hb) (ir 3 (by decide) (by decide)) ?_))
      refine yq_block I14 b 5 ib (by decide) (fun κ15 I15 => ld κ15 4 (by decide) (by decide) (yq_eq (blk_in hb) (ir 4 (by decide) (by decide)) ?_))
      refine yq_block I15 b 6 ib (by decide) (fun κ16 I16 => ld κ16 5 (by decide) (by decide) (yq_eq (blk_in hb) (ir 5 (by decide) (by decide)) ?_))
      refine yq_block I16 b 7 ib (by decide) (fun κ17 I17 => ld κ17 6 (by decide) (by decide) (yq_eq (blk_in hb) (ir 6 (by decide) (by decide)) ?_))
      refine yq_block I17 b 8 ib (by decide) (fun κ18 I18 => yb_gr (kr κ18) r3 (yb_lr (p := kk) (n := 17) kk4 ⟨hb.1, by omega⟩ (by decide) rm ?_))
      have last : yp (yB (yC ([b, (9 : Int)] : List Int) (iz_Top_block 0 b (9 : Int))) fun x55 => yB (yR2 x55 (-1 : Int)) fun _ => if ¬ x55 = (-1 : Int) then yP (Sum.inl ()) else yP (Sum.inr (1 : Int))) (fun (q : Unit ⊕ Int) w1 => q = Sum.inr 1 ∧ ∃ κ1, w1 = (κ1, d) ∧ cI R H n x K f9 L T κ1) (κ18, d) :=
        yq_block I18 b 9 ib (by decide) (fun κ19 I19 => yq_eq (blk_in hb) (by decide) (yp_P ⟨rfl, κ19, rfl, I19⟩))
      rcases hM with ⟨km, e7⟩ | ⟨km, e7, -, -⟩
      · refine yb_ln km (Or.inl rfl) (yb_Dv (by decide) (yq_eq (b := ((0 : Nat) : Int).tdiv 2) ?_ (by decide) last))
        rw [blk_in hb]
        show rc R b 7 = 0
        exact e7
      · refine yb_ln km (Or.inl rfl) (yb_Dv (by decide) (yq_eq (b := ((2 : Nat) : Int).tdiv 2) ?_ (by decide) last))
        rw [blk_in hb]
        show rc R b 7 = 1
        exact e7
    obtain ⟨rfl, κ19, rfl, I19⟩ := h3
    refine yb_P (ld κ19 1 (by decide) (by decide) (yb_P (ld κ19 0 (by decide) (by decide) ?_)))
    refine yp_bind (R := fun q w1 => q = (if rc R b 0 = 4 then 1 else 0) ∧ w1 = (κ19, d)) (yb_R2 ⟨ir 0 (by decide) (by decide), by decide⟩ (yp_if (fun c => yp_P ⟨by rw [if_neg c], rfl⟩) (fun c => yp_P ⟨by rw [if_pos (Classical.not_not.mp c)], rfl⟩))) (fun q w3 h3 => ?_)
    obtain ⟨rfl, rfl⟩ := h3
    refine yb_P (yb_P (yp_P ⟨⟨⟨rfl, ?_, ?_⟩, ⟨by show 0 ≤ b + 1; omega, by show b + 1 ≤ rn R; omega⟩, κ19, rfl, I19⟩, by show (rn R - (b + 1)).toNat < (rn R - b).toNat; omega⟩))
    · show fs R b + rc R b 1 = fs R (b + 1)
      rw [fs_s hb.1]
    · show sc R b + _ = sc R (b + 1)
      rw [sc_s hb.1]
  obtain ⟨rfl, κ9, rfl, I9⟩ := h3
  refine yb_P ?_
  -- the PIECES
  have Fr : ∀ κ (j : Nat), 1 ≤ j ∧ j ≤ 8 → ∀ {β : Type} {Q : β → yW → Prop} {f : Option Nat → yM β}, yp (f (some (A + j))) Q (κ, d) → yp (yB (yGr 19 (some A) (j : Int)) f) Q (κ, d) := fun κ j hj _ _ _ h => fl_row (hF κ) hj h
  have Fl : ∀ κ (j : Nat) (p : Int), 1 ≤ j ∧ j ≤ 6 → 0 ≤ p ∧ p < np R → ∀ {β : Type} {Q : β → yW → Prop} {f : Int → yM β}, yp (f (fv R j p)) Q (κ, d) → yp (yB (yLd 1 (some (A + j)) p) f) Q (κ, d) := fun κ j p hj hp _ _ _ h => fl_ld (hF κ) h90 hj hp h
  refine yp_bind (R := fun q w1 => q = (1, nc R (np R)) ∧ ∃ κ1, w1 = (κ1, d) ∧ cI R H n x K f9 L T κ1) ?_ (fun q w3 h3 => ?_)
  · refine yp_Lp (fun s w1 => (s.1 = 1 ∧ s.2.1 = nc R s.2.2) ∧ (0 ≤ s.2.2 ∧ s.2.2 ≤ np R) ∧ ∃ κ1, w1 = (κ1, d) ∧ cI R H n x K f9 L T κ1) (fun s _ => (np R - s.2.2).toNat) ⟨⟨rfl, rfl⟩, ⟨Int.le_refl _, hnp⟩, κ9, rfl, I9⟩ (fun s w1 hs => ?_)
    obtain ⟨ok, a1, p⟩ := s
    obtain ⟨⟨h1, h2⟩, ⟨p0, p1⟩, κ9, rfl, I9⟩ := hs
    dsimp only at h1 h2 p0 p1
    subst h1 h2
    dsimp only
    refine yb_gt (kA κ9) (f9' κ9) (yb_R2 ⟨iR_small ⟨by omega, by omega⟩, inp⟩ (yp_if (fun c => yp_P ⟨?_, κ9, rfl, I9⟩) (fun c => ?_)))
    · rw [show p = np R by omega]
    have hp : 0 ≤ p ∧ p < np R := ⟨p0, by omega⟩
    have ip : iR p := iR_small ⟨by omega, by omega⟩
    obtain ⟨o1, o2, o3, o4, -⟩ := ow_in hw hp.1 hp.2
    obtain ⟨q1, q2, q3⟩ := pie_small hw hp
    obtain ⟨u1, u2, u3, u4⟩ := pS_in hw hp.1 hp.2
    have wb := hw.2.2.1 _ o1 o2
    unfold WFb at wb
    have ie := enb_in R (p + 1)
    refine yb_R (by decide) (yp_ifF (by decide) (Fr κ9 5 (by decide) (Fl κ9 5 p (by decide) hp ?_)))
    refine yp_bind (R := fun q w1 => q = (if pN R p ≤ 0 then 0 else 1) ∧ w1 = (κ9, d)) (yb_R (by show iR (pN R p); exact iR_small ⟨by omega, by omega⟩) (yp_if (fun c => yp_P ⟨by rw [if_pos (show pN R p ≤ 0 from c)], rfl⟩) (fun c => yp_P ⟨by rw [if_neg (show ¬ pN R p ≤ 0 from c)], rfl⟩))) (fun q w3 h3 => ?_)
    obtain ⟨rfl, rfl⟩ := h3
    refine yb_P ?_
    refine yq_piece I9 p 0 ip (by decide) (fun κ10 I10 => Fr κ10 1 (by decide) (Fl κ10 1 p (by decide) hp ?_))
    refine yp_bind (R := fun q w1 => q = 1 ∧ ∃ κ1, w1 = (κ1, d) ∧ cI R H n x K f9 L T κ1) ?_ (fun q w3 h3 => ?_)
    · refine yp_bind (R := fun q w1 => q = Sum.inr 1 ∧ ∃ κ1, w1 = (κ1, d) ∧ cI R H n x K f9 L T κ1) ?_ (fun q w3 h3 => by obtain ⟨rfl, h3⟩ := h3; exact yp_P ⟨rfl, h3⟩)
      refine yq_eq (pie_in hp) (iR_small ⟨by show _ ≤ ow R p; omega, by show ow R p ≤ _; omega⟩) ?_
      refine yq_piece I10 p 1 ip (by decide) (fun κ11 I11 => Fr κ11 2 (by decide) (Fl κ11 2 p (by decide) hp (yq_eq (pie_in hp) (iR_small ⟨by show _ ≤ nu R p; omega, by show nu R p ≤ _; omega⟩) ?_)))
      refine yq_piece I11 p 2 ip (by decide) (fun κ12 I12 => Fr κ12 3 (by decide) (Fl κ12 3 p (by decide) hp (yq_eq (pie_in hp) (iR_small ⟨by show _ ≤ pH R p; omega, by show pH R p ≤ _; omega⟩) ?_)))
      refine yq_piece I12 p 3 ip (by decide) (fun κ13 I13 => Fr κ13 4 (by decide) (Fl κ13 4 p (by decide) hp (yq_eq (pie_in hp) (iR_small ⟨by show _ ≤ pG R p; omega, by show pG R p ≤ _; omega⟩) ?_)))
      refine yq_piece I13 p 4 ip (by decide) (fun κ14 I14 => Fr κ14 5 (by decide) (Fl κ14 5 p (by decide) hp (yq_eq (pie_in hp) (iR_small ⟨by show _ ≤ pN R p; omega, by show pN R p ≤ _; omega⟩) ?_)))
      refine yq_piece I14 p 5 ip (by decide) (fun κ15 I15 => Fr κ15 6 (by decide) (Fl κ15 6 p (by decide) hp (yb_Kr (Or.inl (by rw [kA κ15])) (run_ends hw (hF κ15) (hLR κ15) u1 u2 ⟨by show bg R (pS R p) ≤ p + 1; omega, by show p + 1 ≤ bg R (pS R p + 1); omega⟩ ⟨⟨Nat.le_refl _, Nat.le_refl _⟩, ?_⟩))))
      refine yp_bind (R := fun q w1 => q = enb R (p + 1) ∧ w1 = (κ15, d)) (yb_R (iR_small ⟨by omega, by omega⟩) (yp_if (fun c => yp_P ⟨c.symm, rfl⟩) (fun c => yp_P ⟨by omega, rfl⟩))) (fun q w3 h3 => ?_)
      obtain ⟨rfl, rfl⟩ := h3
      refine yq_eq (pie_in hp) (iR_small ⟨by omega, by omega⟩) ?_
      refine yq_piece I15 p 6 ip (by decide) (fun κ16 I16 => Fr κ16 6 (by decide) (Fl κ16 6 p (by decide) hp (yq_eq (pie_in hp) (iR_small ⟨by show _ ≤ pS R p; omega, by show pS R p ≤ _; omega⟩) ?_)))
      exact yq_piece I16 p 7 ip (by decide) (fun κ17 I17 => yq_eq (pie_in hp) (by decide) (yp_P ⟨rfl, κ17, rfl, I17⟩))
    obtain ⟨rfl, κ18, rfl, I18⟩ := h3
    refine yb_P (yb_P (yp_P ⟨⟨⟨rfl, ?_⟩, ⟨by show 0 ≤ p + 1; omega, by show p + 1 ≤ np R; omega⟩, κ18, rfl, I18⟩, by show (np R - (p + 1)).toNat < (np R - p).toNat; omega⟩))
    show nc R p + _ = nc R (p + 1)
    unfold nc
    rw [sI_s hp.1]
  obtain ⟨rfl, κ10, rfl, I10⟩ := h3
  refine yb_P ?_
  -- the SECTIONS
  have Ff : ∀ κ (s : Int), 0 ≤ s ∧ s ≤ ns R → ∀ {β : Type} {Q : β → yW → Prop} {f : Int → yM β}, yp (f (bg R s)) Q (κ, d) → yp (yB (yLd 1 (some (A + 7)) s) f) Q (κ, d) := fun κ s hs _ _ _ h => fl_first (hF κ) hs (by omega) h
  refine yp_bind (R := fun q w1 => q = 1 ∧ ∃ κ1, w1 = (κ1, d) ∧ cI R H n x K f9 L T κ1) ?_ (fun q w3 h3 => ?_)
  · refine yp_Lp (fun s w1 => s.1 = 1 ∧ (0 ≤ s.2 ∧ s.2 ≤ ns R) ∧ ∃ κ1, w1 = (κ1, d) ∧ cI R H n x K f9 L T κ1) (fun s _ => (ns R - s.2).toNat) ⟨rfl, ⟨Int.le_refl _, hns.1⟩, κ10, rfl, I10⟩ (fun s w1 hs => ?_)
    obtain ⟨ok, s⟩ := s
    obtain ⟨h1, ⟨s0, s1⟩, κ11, rfl, I11⟩ := hs
    dsimp only at h1 s0 s1
    subst h1
    dsimp only
    refine yb_gt (kA κ11) (f10 κ11) (yb_R2 ⟨iR_small ⟨by omega, by omega⟩, ins⟩ (yp_if (fun c => yp_P ⟨rfl, κ11, rfl, I11⟩) (fun c => ?_)))
    have hs : 0 ≤ s ∧ s < ns R := ⟨s0, by omega⟩
    have is : iR s := iR_small ⟨by omega, by omega⟩
    have b1 := bg_in hw s
    have b2 := bg_in hw (s + 1)
    have b3 := bg_mono hw (s := s) (t := s + 1) (by omega)
    have o9 := ol_small hw (s := s)
    have h9 := sh_small hw hs
    have es9 : esN R s = sI (fun i => enb R (i + bg R s)) (bg R (s + 1) - bg R s + 1) := rfl
    have eb9 := sI_bound (f := fun i => enb R (i + bg R s)) (n := bg R (s + 1) - bg R s + 1) (lo := 0) (hi := 1) (fun i _ _ => enb_in R _) (by omega)
    refine yb_R (by decide) (yp_ifF (by decide) (yb_P (Fr κ11 7 (by decide) (Ff κ11 s ⟨by omega, by omega⟩ (yb_P ?_)))))
    refine yp_bind (R := fun q w1 => q = esN R s ∧ w1 = (κ11, d)) ?_ (fun q w3 h3 => ?_)
    · refine yp_Lp (fun t w1 => t.1 = sI (fun i => enb R (i + bg R s)) (t.2 - bg R s) ∧ (bg R s ≤ t.2 ∧ t.2 ≤ bg R (s + 1) + 1) ∧ w1 = (κ11, d)) (fun t _ => (bg R (s + 1) + 1 - t.2).toNat) ⟨?_, ⟨Int.le_refl _, by show bg R s ≤ _; omega⟩, rfl⟩ (fun t w1 ht => ?_)
      · show (0 : Int) = sI _ (bg R s - bg R s)
        rw [sI_le (by omega)]
      obtain ⟨a1, e⟩ := t
      obtain ⟨h1, ⟨e0, e1⟩, rfl⟩ := ht
      dsimp only at h1 e0 e1
      subst h1
      dsimp only
      refine Fr κ11 7 (by decide) (Ff κ11 (s + 1) ⟨by omega, by omega⟩ (yb_R2 ⟨iR_small ⟨by omega, by omega⟩, iR_small ⟨by omega, by omega⟩⟩ (yp_if (fun c => yp_P ⟨?_, rfl⟩) (fun c => ?_))))
      · rw [es9, show e - bg R s = bg R (s + 1) - bg R s + 1 by omega]
      · have ie := enb_in R e
        refine yb_Kr (Or.inl (by rw [kA κ11])) (run_ends hw (hF κ11) (hLR κ11) hs.1 hs.2 ⟨e0, by omega⟩ ⟨⟨Nat.le_refl _, Nat.le_refl _⟩, ?_⟩)
        refine yp_bind (R := fun q w1 => q = enb R e ∧ w1 = (κ11, d)) (yb_R (iR_small ⟨by omega, by omega⟩) (yp_if (fun c => yp_P ⟨c.symm, rfl⟩) (fun c => yp_P ⟨by omega, rfl⟩))) (fun q w3 h3 => ?_)
        obtain ⟨rfl, rfl⟩ := h3
        refine yb_P (yb_P (yp_P ⟨⟨?_, ⟨by show bg R s ≤ e + 1; omega, by show e + 1 ≤ _; omega⟩, rfl⟩, by show (bg R (s + 1) + 1 - (e + 1)).toNat < (bg R (s + 1) + 1 - e).toNat; omega⟩))
        show sI (fun i => enb R (i + bg R s)) (e - bg R s) + enb R e = sI _ (e + 1 - bg R s)
        rw [show e + 1 - bg R s = e - bg R s + 1 by omega, sI_s (by omega)]
        show _ = _ + enb R (e - bg R s + bg R s)
        rw [show e - bg R s + bg R s = e by omega]
    obtain ⟨rfl, rfl⟩ := h3
    refine yq_sect I11 s 0 is (by decide) (fun κ12 I12 => Fr κ12 7 (by decide) (Ff κ12 s ⟨by omega, by omega⟩ ?_))
    refine yp_bind (R := fun q w1 => q = 1 ∧ ∃ κ1, w1 = (κ1, d) ∧ cI R H n x K f9 L T κ1) ?_ (fun q w3 h3 => ?_)
    · refine yp_bind (R := fun q w1 => q = Sum.inr 1 ∧ ∃ κ1, w1 = (κ1, d) ∧ cI R H n x K f9 L T κ1) ?_ (fun q w3 h3 => by obtain ⟨rfl, h3⟩ := h3; exact yp_P ⟨rfl, h3⟩)
      refine yq_eq (sec_at hs) (iR_small ⟨by omega, by omega⟩) ?_
      refine yq_sect I12 s 1 is (by decide) (fun κ13 I13 => Fr κ13 7 (by decide) (Ff κ13 (s + 1) ⟨by omega, by omega⟩ (yq_eq (sec_at hs) (iR_small ⟨by omega, by omega⟩) ?_)))
      refine yq_sect I13 s 2 is (by decide) (fun κ14 I14 => Fr κ14 8 (by decide) (fl_span (hF κ14) hs (by omega) (yq_eq (sec_at hs) (iR_small ⟨by omega, by omega⟩) ?_)))
      refine yq_sect I14 s 3 is (by decide) (fun κ15 I15 => yq_eq (sec_at hs) (iR_small ⟨by omega, by omega⟩) ?_)
      refine yq_sect I15 s 4 is (by decide) (fun κ16 I16 => Fr κ16 7 (by decide) (Ff κ16 s ⟨by omega, by omega⟩ (Fr κ16 7 (by decide) (Ff κ16 (s + 1) ⟨by omega, by omega⟩ (yb_Kr (Or.inl (by rw [kA κ16])) (run_own hw (hF κ16) ⟨b1.1, b3⟩ b2.2 ⟨⟨Nat.le_refl _, Nat.le_refl _⟩, yq_eq (sec_at hs) (iR_small ⟨by omega, by omega⟩) ?_⟩))))))
      exact yq_sect I16 s 5 is (by decide) (fun κ17 I17 => yq_eq (sec_at hs) (by decide) (yp_P ⟨rfl, κ17, rfl, I17⟩))
    obtain ⟨rfl, κ18, rfl, I18⟩ := h3
    exact yb_P (yb_P (yp_P ⟨⟨rfl, ⟨by show 0 ≤ s + 1; omega, by show s + 1 ≤ ns R; omega⟩, κ18, rfl, I18⟩, by show (ns R - (s + 1)).toNat < (ns R - s).toNat; omega⟩))
  obtain ⟨rfl, κ11, rfl, I11⟩ := h3
  have hsc := sc_in (R := R) hn.1
  have hnc := sI_bound (f := fun q => if pN R q ≤ 0 then 0 else 1) (n := np R) (lo := 0) (hi := 1) (fun i _ _ => by (try dsimp only); split <;> omega) hnp
  have inc : iR (nc R (np R)) := by unfold nc; exact iR_small ⟨by omega, by omega⟩
  have e7 : couV R n L (f9 0 + 2 * f9 1) 7 = sc R (rn R) := by
    show (if ns R = 0 then 0 else ns R - 1) = _
    unfold ns
    by_cases e : rn R ≤ 0
    · rw [if_pos e, if_pos rfl]; omega
    · rw [if_neg e, if_neg (by omega)]; omega
  have bN : ∀ k, blkV R (rn R) k = -1 := fun k => if_neg (by omega)
  have pN9 : ∀ k, pieV R (np R) k = -1 := fun k => if_neg (by omega)
  have sN9 : ∀ k, secV R (ns R) k = -1 := fun k => if_neg (by omega)
  refine yb_R (by decide) (yp_ifF (by decide) ?_)
  refine yq_count I11 3 (by decide) (fun κ12 I12 => yq_eq rfl inc ?_)
  refine yq_count I12 7 (by decide) (fun κ13 I13 => yq_eq e7 (iR_small ⟨by show _ ≤ sc R (rn R); omega, by show sc R (rn R) ≤ _; omega⟩) ?_)
  refine yb_gt (kr κ13) (vr κ13) (yq_block I13 (rn R) 0 irn (by decide) (fun κ14 I14 => yq_eq (bN 0) (by decide) ?_))
  refine yb_gt (kA κ14) (f9' κ14) (yq_piece I14 (np R) 0 inp (by decide) (fun κ15 I15 => yq_eq (pN9 0) (by decide) ?_))
  refine yb_gt (kA κ15) (f10 κ15) (yq_sect I15 (ns R) 0 ins (by decide) (fun κ16 I16 => yq_eq (sN9 0) (by decide) ?_))
  exact yq_ask I16 (xs2 (by decide) (by decide)) (fun τ hi _ => gv_notes hi) (fun κ17 I17 => yq_eq rfl inc (yb_Nw (by decide) (yp_P (k (κ17, d) (G κ17) I17))))
