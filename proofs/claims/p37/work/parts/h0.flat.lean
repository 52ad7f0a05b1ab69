/-! ===== a RUN laid flat: all of it ===== -/
def FL (A r : Nat) (R : aRun) (w : yW) : Prop :=
  (w_kd w A = (19, 0) ∧ w_rv w A 0 = some r) ∧ (∀ k : Nat, 1 ≤ k → k ≤ 8 → w_rv w A (k : Int) = some (A + k) ∧ w_kd w (A + k) = (1, if k ≤ 6 then 100 else 20)) ∧ (w_iv w A 9 = np R ∧ w_iv w A 10 = ns R) ∧
  (∀ k : Nat, 1 ≤ k → k ≤ 6 → ∀ p, 0 ≤ p → p < np R → w_iv w (A + k) p = fv R k p) ∧ (∀ s, 0 ≤ s → s ≤ ns R → w_iv w (A + 7) s = bg R s) ∧ (∀ s, 0 ≤ s → s < ns R → w_iv w (A + 8) s = sh R s)
def sN (R : aRun) (b : Int) : Int := if rn R = 0 then 0 else 1 + sc R b
section
variable {Y : yY} {w0 w : yW} {A r : Nat} {R : aRun} {P Sn : Int} {m : Nat}
theorem fq_at (h : FQ w0 A r R P Sn m w) {x : Nat} (hx : x < w_sz w0) (hA : x ≠ A) : w_kd w x = w_kd w0 x ∧ w_iv w x = w_iv w0 x ∧ w_rv w x = w_rv w0 x := h.1.1.at hx hA
theorem fq_ld {β : Type} {Q : β → yW → Prop} {f : Int → yM β} {q n : Nat} {i x : Int} (h : FQ w0 A r R P Sn m w) (hq : q < w_sz w0) (hA : q ≠ A) (hk : w_kd w0 q = (1, n)) (hi : 0 ≤ i ∧ i < (n : Int)) (hn : n ≤ 100000) (he : w_iv w0 q i = x) (k : yp (f x) Q w) : yp (yB (yLd 1 (some q) i) f) Q w :=
  yb_ld ((fq_at h hq hA).1.trans hk) hi hn (by rw [(fq_at h hq hA).2.1]; exact he) k
theorem fq_lr {β : Type} {Q : β → yW → Prop} {f : Option Nat → yM β} {q n t : Nat} {i : Int} {x : Option Nat} (h : FQ w0 A r R P Sn m w) (hq : q < w_sz w0) (hA : q ≠ A) (hk : w_kd w0 q = (t, n)) (hi : 0 ≤ i ∧ i < (n : Int)) (hn : n ≤ 100000) (he : w_rv w0 q i = x) (k : yp (f x) Q w) : yp (yB (yLr t (some q) i) f) Q w :=
  yb_lr ((fq_at h hq hA).1.trans hk) hi hn (by rw [(fq_at h hq hA).2.2]; exact he) k
theorem fq_gr {β : Type} {Q : β → yW → Prop} {f : Option Nat → yM β} {q n t : Nat} {i : Int} {x : Option Nat} (h : FQ w0 A r R P Sn m w) (hq : q < w_sz w0) (hA : q ≠ A) (hk : w_kd w0 q = (t, n)) (he : w_rv w0 q i = x) (k : yp (f x) Q w) : yp (yB (yGr t (some q) i) f) Q w :=
  yb_gr ((fq_at h hq hA).1.trans hk) (by rw [(fq_at h hq hA).2.2]; exact he) k
/-- a number put into a row, where the row's reference and the place are read first -/
theorem fq_put {β : Type} {Q : β → yW → Prop} {f : Unit → yM β} {x : Int} (h : FQ w0 A r R P Sn m w) (hm : m < 6) (hP : 0 ≤ P ∧ P < 100) (hx : x = fv R (m + 1) P) (k : ∀ w1, FQ w0 A r R P Sn (m + 1) w1 → yp (f ()) Q w1) : yp (yB (ySt (some (A + (m + 1))) P x) f) Q w := by
  subst hx
  refine yb_st ((h.2.2.1 (m + 1) (by omega) (by omega)).2.trans (by rw [if_pos (by omega)])) ⟨hP.1, by omega⟩ (by decide) (k _ (fq_st h hm))
theorem fq_row {β : Type} {Q : β → yW → Prop} {f : Option Nat → yM β} {j : Nat} (h : FQ w0 A r R P Sn m w) (hj : 1 ≤ j ∧ j ≤ 8) (k : yp (f (some (A + j))) Q w) : yp (yB (yGr 19 (some A) (j : Int)) f) Q w := yb_gr h.2.1.1 (h.2.2.1 j hj.1 hj.2).1 k
theorem fq_9 {β : Type} {Q : β → yW → Prop} {f : Int → yM β} (h : FQ w0 A r R P Sn m w) (k : yp (f P) Q w) : yp (yB (yGt 19 (some A) (9 : Int)) f) Q w := yb_gt h.2.1.1 h.2.2.2.1.1 k
theorem fq_10 {β : Type} {Q : β → yW → Prop} {f : Int → yM β} (h : FQ w0 A r R P Sn m w) (k : yp (f Sn) Q w) : yp (yB (yGt 19 (some A) (10 : Int)) f) Q w := yb_gt h.2.1.1 h.2.2.2.1.2 k
/-- the lines at which MARKS stand, as numbers -/
def MB (R : aRun) : Prop := ∀ b, 0 ≤ b → b < rn R → -1000 ≤ rc R b 8 ∧ rc R b 8 ≤ 1000
theorem run_flat {Q : Unit → yW → Prop} {S : Nat → Prop} (h8 : MB R) (hz : w_sz w0 = A + 1) (hk : w_kd w0 A = (19, 0)) (hv : ∀ i, w_iv w0 A i = 0) (hL : LR w0 r R S) (hSA : ¬ S A) (hw : WF R) (k : ∀ w1, yG (fun q => q = A) 8 800 w0 w1 → w_sz w1 = A + 9 → FL A r R w1 → Q () w1) : yp (kf_Flat_init Y (some A) (some r)) Q w0 := by
  obtain ⟨hrS, hr⟩ := hL.own
  obtain ⟨kr, vr⟩ := hL.many
  have hrA : r ≠ A := fun e => hSA (e ▸ hrS)
  obtain ⟨bb, kk, r2, kb, r3, kk4, -, ⟨sbb, hbb⟩, ⟨skk, hkk⟩, hrow⟩ := hL.rows
  have nbb : bb ≠ A := fun e => hSA (e ▸ sbb)
  have nkk : kk ≠ A := fun e => hSA (e ▸ skk)
  have hn := hw.1
  have hnp := hw.2.2.2
  unfold kf_Flat_init
  refine yb_Nn ?_
  have B0 : FB w0 A 0 w0 := ⟨yG.refl, by omega, hz, hk, hv, fun k k1 k0 => by omega⟩
  refine fb_row (j := 0) B0 hk rfl (fun w1 B1 => fb_row (j := 1) B1 hk rfl (fun w2 B2 => fb_row (j := 2) B2 hk rfl (fun w3 B3 => fb_row (j := 3) B3 hk rfl (fun w4 B4 => fb_row (j := 4) B4 hk rfl (fun w5 B5 => fb_row (j := 5) B5 hk rfl (fun w6 B6 => fb_row (j := 6) B6 hk rfl (fun w7 B7 => fb_row (j := 7) B7 hk rfl (fun w8 B8 => ?_))))))))
  obtain ⟨b1, b2, -, b4, b5, b6⟩ := B8
  refine yb_pr b4 ?_
  have ar : w_kd w8 r = w_kd w0 r ∧ w_iv w8 r = w_iv w0 r ∧ w_rv w8 r = w_rv w0 r := b1.at hr hrA
  refine yb_gt (v := rn R) (ar.1.trans kr) (by show w_iv w8 r 1 = _; rw [ar.2.1]; exact vr) ?_
  refine yp_bind (R := fun q w9 => q = sN R 0 ∧ w9 = _) (yb_R (iR_small ⟨by omega, by omega⟩) (yp_if (fun c => yp_P ⟨?_, rfl⟩) (fun c => yp_P ⟨?_, rfl⟩))) (fun q w9 h9 => ?_)
  · unfold sN; rw [if_neg c, sc_0]; rfl
  · unfold sN; rw [if_pos (Classical.not_not.mp c)]
  obtain ⟨rfl, rfl⟩ := h9
  refine yb_pt b4 (yb_P ?_)
  generalize ew : y_iv _ _ = wa
  have FQ0 : FQ w0 A r R (fs R 0) (sN R 0) 0 wa := by
    subst ew
    have n1 : ∀ k : Nat, 1 ≤ k → A + k ≠ A := fun k h => by omega
    have s1 : sN R 0 ≤ 1 := by
      have : sc R 0 = 0 := sc_0
      unfold sN
      split <;> omega
    refine ⟨⟨((b1.sr (Or.inr ⟨rfl, by rw [hk]; unfold ym; simp⟩)).st (Or.inr ⟨rfl, by rw [hk]; unfold ym; simp⟩)).le (fun _ _ z => z) (Nat.le_refl _) (Nat.le_refl _), b2, hz, hk⟩, ⟨b4, ?_⟩, fun k k1 k8 => ⟨?_, (b6 k k1 k8).2.1⟩, ⟨?_, yu_s⟩, fun k k1 k6 p p0 pP => ?_, fun k k1 k0 => by omega, fun p hp => ?_, ⟨?_, fun s s1 s2 => by omega⟩, ?_, fun s s1 s2 => by omega⟩
    · simp only [yv_2, yv_7, yur_s]
    · simp only [yv_2, yv_7, yur_n (show (k : Int) ≠ 0 by omega)]; exact (b6 k k1 k8).1
    · simp only [yv_1, yv_6, yu_n (show (9 : Int) ≠ 10 by decide)]; exact b5 9
    · rw [fs_0] at pP; omega
    · simp only [yv_1, yv_6, yu_at (n1 5 (by decide))]; exact (b6 5 (by decide) (by decide)).2.2 p
    · simp only [yv_1, yv_6, yu_at (n1 7 (by decide))]; exact (b6 7 (by decide) (by decide)).2.2 0
    · simp only [yv_1, yv_6, yu_at (n1 8 (by decide))]; exact (b6 8 (by decide) (by decide)).2.2 0
  clear ew
  refine yp_bind (R := fun _ w9 => FQ w0 A r R (fs R (rn R)) (sN R (rn R)) 0 w9) ?_ (fun _ w9 F9 => ?_)
  · refine yp_Lp (fun b w9 => (0 ≤ b ∧ b ≤ rn R) ∧ FQ w0 A r R (fs R b) (sN R b) 0 w9) (fun b _ => (rn R - b).toNat) ⟨⟨Int.le_refl _, hn.1⟩, FQ0⟩ (fun b w9 h9 => ?_)
    obtain ⟨⟨b0, bn⟩, F⟩ := h9
    refine yb_gt ((fq_at F hr hrA).1.trans kr) (v := rn R) (by rw [(fq_at F hr hrA).2.1]; exact vr) (yb_R2 ⟨iR_small ⟨by omega, by omega⟩, iR_small ⟨by omega, by omega⟩⟩ (yp_if (fun c => yp_P ?_) (fun c => ?_)))
    · have : b = rn R := by omega
      rw [this] at F; exact F
    · have hb : b < rn R := by omega
      obtain ⟨q, mm, rq, rm, ⟨kq, vq⟩, hM, sq, hq, hm⟩ := hrow b b0 hb
      have nq : q ≠ A := fun e => hSA (e ▸ sq)
      have nm : mm ≠ A := fun e => by have := hM.ym; rw [e, hk] at this; unfold ym at this; simp at this
      have bq : ∀ i : Int, 0 ≤ i → i < 7 → 0 ≤ i ∧ i < ((7 : Nat) : Int) := fun i h1 h2 => ⟨h1, by omega⟩
      have wb := hw.2.2.1 b b0 hb
      have hfs0 := fs_ge hw b0 bn
      have hfs1 := fs_le hw (b := b + 1) (by omega) (by omega)
      rw [fs_s b0] at hfs1
      have hsc := sc_in (R := R) b0
      have hsc1 := sc_s (R := R) b0
      have nr0 : rn R ≠ 0 := by omega
      refine fq_gr F hr hrA kr r2 (fq_lr F hbb nbb kb ⟨b0, by omega⟩ (by decide) rq (yb_P (fq_ld F hq nq kq (bq 0 (by decide) (by decide)) (by decide) (vq 0 (by decide) (by decide)) ?_)))
      refine yp_bind (R := fun _ w10 => FQ w0 A r R (fs R b) (sN R (b + 1)) 0 w10) ?_ (fun _ w10 F10 => yb_P ?_)
      · refine yb_R2 ⟨iR_small ⟨by have := wb.1; omega, by have := wb.1; omega⟩, by decide⟩ (yp_if (fun c4 => yp_P ?_) (fun c4 => ?_))
        · have e : sN R (b + 1) = sN R b := by unfold sN; rw [if_neg nr0, if_neg nr0, hsc1, if_neg c4]; omega
          rw [e]; exact F
        · have c4' : rc R b 0 = 4 := Classical.not_not.mp c4
          have eS : sN R b = sc R b + 1 := by unfold sN; rw [if_neg nr0]; omega
          have eS1 : sN R (b + 1) = sN R b + 1 := by unfold sN; rw [if_neg nr0, if_neg nr0, hsc1, if_pos c4']; omega
          have esh : rc R b 2 = sh R (sN R b) := by rw [eS, sh_at b0 hb c4']
          have ebg : bg R (sN R b) = fs R b := by rw [eS, bg_at b0 hb c4']
          have k8 : w_kd w9 (A + 8) = (1, 20) := (F.2.2.1 8 (by decide) (by decide)).2
          have k7 : w_kd w9 (A + 7) = (1, 20) := (F.2.2.1 7 (by decide) (by decide)).2
          have n8A : A ≠ A + 8 := by omega
          have n7A : A ≠ A + 7 := by omega
          refine fq_row (j := 8) F (by decide) (fq_10 F (fq_ld F hq nq kq (bq 2 (by decide) (by decide)) (by decide) (vq 2 (by decide) (by decide)) (yb_st k8 ⟨by omega, by omega⟩ (by decide) ?_)))
          refine yb_gr F.2.1.1 (r := some (A + 7)) (F.2.2.1 7 (by decide) (by decide)).1 (yb_gt F.2.1.1 (v := sN R b) ?_ (yb_gt F.2.1.1 (v := fs R b) ?_ (yb_st k7 ⟨by omega, by omega⟩ (by decide) (yb_gt F.2.1.1 (v := sN R b) ?_ (yb_pt F.2.1.1 (yp_P ?_))))))
          · simp only [yv_1, yu_at n8A]; exact F.2.2.2.1.2
          · simp only [yv_1, yu_at n8A]; exact F.2.2.2.1.1
          · simp only [yv_1, yu_at n7A, yu_at n8A]; exact F.2.2.2.1.2
          · rw [eS1, esh]
            exact fq_sec F (by omega) ebg
      · refine yp_bind (R := fun _ w11 => FQ w0 A r R (fs R (b + 1)) (sN R (b + 1)) 0 w11) ?_ (fun _ w11 F11 => yb_P (yp_P ⟨⟨⟨by omega, by omega⟩, F11⟩, by omega⟩))
        refine yp_Lp (fun i w11 => (0 ≤ i ∧ i ≤ rc R b 1) ∧ FQ w0 A r R (fs R b + i) (sN R (b + 1)) 0 w11) (fun i _ => (rc R b 1 - i).toNat) ⟨⟨Int.le_refl _, wb.2.1.1⟩, by rw [Int.add_zero]; exact F10⟩ (fun i w11 h11 => ?_)
        obtain ⟨⟨i0, i1⟩, G⟩ := h11
        refine fq_ld G hq nq kq (bq 1 (by decide) (by decide)) (by decide) (vq 1 (by decide) (by decide)) (yb_R2 ⟨iR_small ⟨by omega, by have := wb.2.1; omega⟩, iR_small ⟨by have := wb.2.1; omega, by have := wb.2.1; omega⟩⟩ (yp_if (fun d => yp_P ?_) (fun d => ?_)))
        · have : i = rc R b 1 := by omega
          rw [this] at G
          rw [fs_s b0]; exact G
        · have hi : i < rc R b 1 := by omega
          have eo := ow_at hw b0 hb i0 hi
          have en9 := nu_at hw b0 hb i0 hi
          have hP : 0 ≤ fs R b + i ∧ fs R b + i < 100 := ⟨by omega, by omega⟩
          have c4 : rc R b 0 ≠ 4 := fun e => by have := (wb.2.2.1 e).1; omega
          refine fq_row (j := 1) G (by decide) (fq_9 G (fq_put G (by decide) hP (by show b = ow R _; exact eo.symm) (fun w12 G1 => ?_)))
          refine fq_row (j := 2) G1 (by decide) (fq_9 G1 (fq_put G1 (by decide) hP (by show i = nu R _; exact en9.symm) (fun w13 G2 => ?_)))
          refine fq_row (j := 3) G2 (by decide) (fq_9 G2 (fq_ld G2 hq nq kq (bq 2 (by decide) (by decide)) (by decide) (vq 2 (by decide) (by decide)) ?_))
          refine yp_bind (R := fun x w14 => x = (if i = 0 then rc R b 3 else 0) ∧ w14 = w13) (yb_R (iR_small ⟨by omega, by have := wb.2.1; omega⟩) (yp_if (fun e => yp_P ⟨by rw [if_neg e], rfl⟩) (fun e => fq_ld G2 hq nq kq (bq 3 (by decide) (by decide)) (by decide) (vq 3 (by decide) (by decide)) (yp_P ⟨by rw [if_pos (Classical.not_not.mp e)], rfl⟩)))) (fun x w14 h14 => ?_)
          obtain ⟨rfl, rfl⟩ := h14
          refine fq_put G2 (by decide) hP ?_ (fun w15 G3 => ?_)
          · show _ = pH R (fs R b + i)
            unfold pH
            rw [eo, en9]
            by_cases e : i = 0
            · rw [if_pos e, if_pos e]
            · rw [if_neg e, if_neg e, Int.add_zero]
          refine fq_row (j := 4) G3 (by decide) (fq_9 G3 ?_)
          refine yp_bind (R := fun x w16 => x = (if i = 0 then rc R b 6 else 0) ∧ w16 = w15) (yb_R (iR_small ⟨by omega, by have := wb.2.1; omega⟩) (yp_if (fun e => yp_P ⟨by rw [if_neg e], rfl⟩) (fun e => fq_ld G3 hq nq kq (bq 6 (by decide) (by decide)) (by decide) (vq 6 (by decide) (by decide)) (yp_P ⟨by rw [if_pos (Classical.not_not.mp e)], rfl⟩)))) (fun x w16 h16 => ?_)
          obtain ⟨rfl, rfl⟩ := h16
          refine fq_put G3 (by decide) hP ?_ (fun w17 G4 => yb_P ?_)
          · show _ = pG R (fs R b + i)
            unfold pG
            rw [eo, en9]
          have pn : pN R (fs R b + i) = nt R b (i + 1) := by unfold pN; rw [eo, en9]
          refine yp_bind (R := fun _ w18 => FQ w0 A r R (fs R b + i) (sN R (b + 1)) 5 w18) ?_ (fun _ w18 G5 => ?_)
          · rcases hM with ⟨km, e7⟩ | ⟨km, e7, e8, e12⟩
            · refine yp_Lp (fun s w18 => s = 0 ∧ w18 = w17) (fun _ _ => 0) ⟨rfl, rfl⟩ (fun s w18 hs => ?_)
              obtain ⟨rfl, rfl⟩ := hs
              refine fq_gr G4 hr hrA kr r3 (fq_lr G4 hkk nkk kk4 ⟨b0, by omega⟩ (by decide) rm (yb_ln ((fq_at G4 hm nm).1.trans km) (Or.inl rfl) (yb_R2 ⟨by decide, by decide⟩ (yp_ifT (by decide) (yp_P (fq_n0 G4 ?_))))))
              rw [pn]
              unfold nt
              rw [if_neg (by omega), if_neg (by omega), if_neg (by omega), if_neg (by omega)]
            · have w8 : -2000000000 ≤ rc R b 8 ∧ rc R b 8 ≤ 2000000000 ∨ True := Or.inr trivial
              refine yp_Lp (fun s w18 => (s = 0 ∧ w18 = w17) ∨ (s = 2 ∧ FQ w0 A r R (fs R b + i) (sN R (b + 1)) 5 w18)) (fun s _ => (4 - s).toNat) (Or.inl ⟨rfl, rfl⟩) (fun s w18 hs => ?_)
              rcases hs with ⟨rfl, rfl⟩ | ⟨rfl, G5⟩
              · refine fq_gr G4 hr hrA kr r3 (fq_lr G4 hkk nkk kk4 ⟨b0, by omega⟩ (by decide) rm (yb_ln ((fq_at G4 hm nm).1.trans km) (Or.inl rfl) (yb_R2 ⟨by decide, by decide⟩ (yp_ifF (by decide) ?_))))
                refine fq_gr G4 hr hrA kr r3 (fq_lr G4 hkk nkk kk4 ⟨b0, by omega⟩ (by decide) rm (fq_ld G4 hm nm km ⟨by decide, by decide⟩ (by decide) e8 ?_))
                refine yp_bind (R := fun _ w19 => FQ w0 A r R (fs R b + i) (sN R (b + 1)) 5 w19) ?_ (fun _ w19 G5 => yb_P (yp_P ⟨Or.inr ⟨rfl, G5⟩, by decide⟩))
                have ntv : nt R b (i + 1) = if rc R b 8 = i + 1 then rc R b 12 else 0 := by
                  unfold nt
                  by_cases e : rc R b 8 = i + 1
                  · rw [if_pos ⟨by omega, e⟩, if_pos e]
                  · rw [if_neg (fun z => e z.2), if_neg (by omega), if_neg (by omega), if_neg (by omega), if_neg e]
                refine yb_R2 ⟨?_, iR_small ⟨by omega, by have := wb.2.1; omega⟩⟩ (yp_if (fun e => yp_P (fq_n0 G4 ?_)) (fun e => ?_))
                · have := h8 b b0 hb
                  exact iR_small ⟨by omega, by omega⟩
                · rw [pn, ntv, if_neg e]
                · refine fq_row (j := 5) G4 (by decide) (fq_9 G4 (fq_gr G4 hr hrA kr r3 (fq_lr G4 hkk nkk kk4 ⟨b0, by omega⟩ (by decide) rm (fq_ld G4 hm nm km ⟨by decide, by decide⟩ (by decide) e12 (fq_put G4 (by decide) hP ?_ (fun w19 G5 => yp_P G5))))))
                  show _ = pN R _
                  rw [pn, ntv, if_pos (Classical.not_not.mp e)]
              · exact fq_gr G5 hr hrA kr r3 (fq_lr G5 hkk nkk kk4 ⟨b0, by omega⟩ (by decide) rm (yb_ln ((fq_at G5 hm nm).1.trans km) (Or.inl rfl) (yb_R2 ⟨by decide, by decide⟩ (yp_ifT (by decide) (yp_P G5)))))
          refine fq_row (j := 6) G5 (by decide) (fq_9 G5 (fq_10 G5 (fq_put G5 (by decide) hP ?_ (fun w19 G6 => fq_9 G6 (yb_pt G6.2.1.1 (yb_P (yp_P ⟨⟨⟨by omega, by omega⟩, ?_⟩, by omega⟩)))))))
          · show _ = pS R _
            unfold pS sN
            rw [eo, if_neg nr0, hsc1, if_neg c4]; omega
          · rw [show fs R b + (i + 1) = fs R b + i + 1 by omega]
            exact fq_next G6
  · have eN : sN R (rn R) = ns R := by
      unfold sN ns
      by_cases e : rn R = 0
      · rw [if_pos e, if_pos (by omega)]
      · rw [if_neg e, if_neg (by omega)]; omega
    have hsc := sc_in (R := R) hn.1
    have ens : 0 ≤ ns R ∧ ns R ≤ 17 := by
      rw [← eN]; unfold sN; split <;> omega
    rw [eN] at F9
    have k7 : w_kd w9 (A + 7) = (1, 20) := (F9.2.2.1 7 (by decide) (by decide)).2
    refine fq_row (j := 7) F9 (by decide) (fq_10 F9 (fq_9 F9 (yb_st k7 ⟨ens.1, by omega⟩ (by decide) (yp_P (k _ (fq_g F9 (Or.inl (by omega))).1 F9.1.2.1 ⟨F9.2.1, F9.2.2.1, ⟨?_, ?_⟩, fun j j1 j6 p p0 pP => ?_, fun s s0 s1 => ?_, fun s s0 s1 => ?_⟩)))))
    · simp only [yv_1, yu_at (show A ≠ A + 7 by omega)]; exact F9.2.2.2.1.1
    · simp only [yv_1, yu_at (show A ≠ A + 7 by omega)]; exact F9.2.2.2.1.2
    · simp only [yv_1, yu_at (show A + j ≠ A + 7 by omega)]; exact F9.2.2.2.2.1 j j1 j6 p p0 pP
    · simp only [yv_1]
      by_cases e : s = ns R
      · rw [e, yu_s]
        by_cases e0 : rn R = 0
        · have : ns R = 0 := by rw [← eN]; unfold sN; rw [if_pos e0]
          rw [this, bg_0, e0, fs_0]
        · rw [bg_end hn.1 (by rw [← eN]; unfold sN; rw [if_neg e0]; omega)]; rfl
      · rw [yu_n e]
        by_cases e1 : s = 0
        · rw [e1, bg_0]; exact F9.2.2.2.2.2.2.2.1.1
        · exact F9.2.2.2.2.2.2.2.1.2 s (by omega) (by omega)
    · simp only [yv_1, yu_at (show A + 8 ≠ A + 7 by omega)]
      by_cases e1 : s = 0
      · rw [e1, F9.2.2.2.2.2.2.2.2.1]
        unfold sh; rw [if_pos (Int.le_refl _)]
      · exact F9.2.2.2.2.2.2.2.2.2 s (by omega) s1
end
