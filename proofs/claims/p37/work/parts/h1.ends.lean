/-! ===== where a column may end, as the law has it; note lines ===== -/
section
variable {Y : yY} {w : yW} {A r : Nat} {R : aRun} {S : Nat → Prop}
theorem fl_row {β : Type} {Q : β → yW → Prop} {f : Option Nat → yM β} {j : Nat} (h : FL A r R w) (hj : 1 ≤ j ∧ j ≤ 8) (k : yp (f (some (A + j))) Q w) : yp (yB (yGr 19 (some A) (j : Int)) f) Q w := yb_gr h.1.1 (h.2.1 j hj.1 hj.2).1 k
theorem fl_run {β : Type} {Q : β → yW → Prop} {f : Option Nat → yM β} (h : FL A r R w) (k : yp (f (some r)) Q w) : yp (yB (yGr 19 (some A) 0) f) Q w := yb_gr h.1.1 h.1.2 k
theorem fl_ld {β : Type} {Q : β → yW → Prop} {f : Int → yM β} {j : Nat} {p : Int} (h : FL A r R w) (hR : np R ≤ 90) (hj : 1 ≤ j ∧ j ≤ 6) (hp : 0 ≤ p ∧ p < np R) (k : yp (f (fv R j p)) Q w) : yp (yB (yLd 1 (some (A + j)) p) f) Q w :=
  yb_ld ((h.2.1 j hj.1 (by omega)).2.trans (by rw [if_pos hj.2])) ⟨hp.1, by omega⟩ (by decide) (h.2.2.2.1 j hj.1 hj.2 p hp.1 hp.2) k
theorem fl_first {β : Type} {Q : β → yW → Prop} {f : Int → yM β} {s : Int} (h : FL A r R w) (hs : 0 ≤ s ∧ s ≤ ns R) (h17 : ns R ≤ 17) (k : yp (f (bg R s)) Q w) : yp (yB (yLd 1 (some (A + 7)) s) f) Q w :=
  yb_ld ((h.2.1 7 (by decide) (by decide)).2) ⟨hs.1, by show s < ((20 : Nat) : Int); omega⟩ (by decide) (h.2.2.2.2.1 s hs.1 hs.2) k
theorem fl_span {β : Type} {Q : β → yW → Prop} {f : Int → yM β} {s : Int} (h : FL A r R w) (hs : 0 ≤ s ∧ s < ns R) (h17 : ns R ≤ 17) (k : yp (f (sh R s)) Q w) : yp (yB (yLd 1 (some (A + 8)) s) f) Q w :=
  yb_ld ((h.2.1 8 (by decide) (by decide)).2) ⟨hs.1, by show s < ((20 : Nat) : Int); omega⟩ (by decide) (h.2.2.2.2.2 s hs.1 hs.2) k
theorem en_1 {Q : Int → yW → Prop} {e : Int} (h : en R e) (k : Q (enb R e) w) : yp (yB (yNw 1 (1 : Int)) fun _ => yP (1 : Int)) Q w := by
  rw [← enb_is (R := R) (e := e) (r := 1) (Or.inl ⟨rfl, h⟩)] at k
  exact yb_Nw (by decide) (yp_P k)
theorem en_0 {Q : Int → yW → Prop} {e : Int} (h : ¬ en R e) (k : Q (enb R e) w) : yp (yB (yNw 1 (0 : Int)) fun _ => yP (0 : Int)) Q w := by
  rw [← enb_is (R := R) (e := e) (r := 0) (Or.inr ⟨rfl, h⟩)] at k
  exact yb_Nw (by decide) (yp_P k)
theorem run_ends {Q : Int → yW → Prop} {s e : Int} (hw : WF R) (hF : FL A r R w) (hL : LR w r R S) (h0 : 0 ≤ s) (hs : s < ns R) (he : bg R s ≤ e ∧ e ≤ bg R (s + 1)) (k : Q (enb R e) w) : yp (kf_Flat_ends Y (some A) s e) Q w := by
  have hns := ns_in hw
  have hn := hw.1
  have h90 := hw.2.2.2
  have b1 := bg_in hw s
  have b2 := bg_in hw (s + 1)
  have iRe : iR e := iR_small ⟨by omega, by omega⟩
  obtain ⟨kr, vr⟩ := hL.many
  obtain ⟨st, t0, kt, vt, -⟩ := hL.sets
  obtain ⟨bb, kk, r2, kb, -, -, -, -, -, hrow⟩ := hL.rows
  unfold kf_Flat_ends
  refine fl_row (j := 7) hF (by decide) (fl_first hF ⟨h0, by omega⟩ (by omega) (yb_R2 ⟨iRe, iR_small ⟨by omega, by omega⟩⟩ (yp_if (fun c => en_1 (Or.inl ⟨s, h0, hs, Or.inl c⟩) k) (fun c1 => ?_))))
  refine fl_row (j := 7) hF (by decide) (fl_first hF ⟨by omega, by omega⟩ (by omega) (yb_R2 ⟨iRe, iR_small ⟨by omega, by omega⟩⟩ (yp_if (fun c2 => ?_) (fun c2 => en_1 (Or.inl ⟨s, h0, hs, Or.inr (Classical.not_not.mp c2)⟩) k))))
  have hp : 0 ≤ e - 1 ∧ e - 1 < np R := ⟨by omega, by omega⟩
  have hpS : pS R (e - 1) = s := pS_one hw (by omega) (by omega)
  have hen : en R e ↔ eb R (ow R (e - 1)) (nu R (e - 1) + 1) := by
    have := en_piece hw hp.1 hp.2
    rw [hpS, show e - 1 + 1 = e by omega] at this
    rw [this]
    exact ⟨fun z => z.resolve_left c2, Or.inr⟩
  obtain ⟨o1, o2, o3, o4, -⟩ := ow_in hw hp.1 hp.2
  generalize eb9 : ow R (e - 1) = b at hen o1 o2 o4
  generalize ei9 : nu R (e - 1) = i at hen o3 o4
  obtain ⟨q, mm, rq, -, ⟨kq, vq⟩, -⟩ := hrow b o1 o2
  have wb := hw.2.2.1 b o1 o2
  have ws := hw.2.1
  unfold WFs at ws
  have bq : ∀ i : Int, 0 ≤ i → i < 7 → 0 ≤ i ∧ i < ((7 : Nat) : Int) := fun i h1 h2 => ⟨h1, by omega⟩
  have f1 : fv R 1 (e - 1) = b := eb9
  have f2 : fv R 2 (e - 1) = i := ei9
  unfold eb at hen
  refine fl_run hF (yb_gr kr r2 (fl_row (j := 1) hF (by decide) (fl_ld hF h90 (by decide) hp ?_)))
  rw [f1]
  refine yb_lr kb ⟨o1, by omega⟩ (by decide) rq (yb_P (fl_row (j := 2) hF (by decide) (fl_ld hF h90 (by decide) hp ?_)))
  rw [f2]
  refine yb_P (yb_ld kq (bq 1 (by decide) (by decide)) (by decide) (vq 1 (by decide) (by decide)) (yb_R2 ⟨iR_small ⟨by omega, by have := wb.2.1; omega⟩, iR_small ⟨by have := wb.2.1; omega, by have := wb.2.1; omega⟩⟩ (yp_if (fun c3 => ?_) (fun c3 => ?_))))
  · rw [if_neg (by omega)] at hen
    refine yb_ld kq (bq 0 (by decide) (by decide)) (by decide) (vq 0 (by decide) (by decide)) (yb_R2 ⟨iR_small ⟨by have := wb.1; omega, by have := wb.1; omega⟩, by decide⟩ (yp_if (fun c4 => ?_) (fun c4 => ?_)))
    · have k0 : rc R b 0 = 0 := by
        have z1 := wb.1
        have z2 := wb.2.2.2.2.1
        have z3 := wb.2.2.1
        by_cases y1 : rc R b 0 = 1 ∨ rc R b 0 = 2
        · have := z2 y1; omega
        · by_cases y2 : rc R b 0 = 4
          · have := z3 y2; omega
          · omega
      rw [if_pos k0] at hen
      refine fl_row (j := 1) hF (by decide) (fl_ld hF h90 (by decide) hp ?_)
      rw [f1]
      refine yp_bind (R := fun x w1 => w1 = w ∧ ((x = 1 ∧ 0 < b ∧ rc R (b - 1) 0 = 2) ∨ (x = 0 ∧ ¬ (0 < b ∧ rc R (b - 1) 0 = 2)))) ?_ (fun x w1 hx => ?_)
      · refine yp_bind (R := fun x w1 => w1 = w ∧ ((x = Sum.inr 1 ∧ 0 < b ∧ rc R (b - 1) 0 = 2) ∨ (x = Sum.inl () ∧ ¬ (0 < b ∧ rc R (b - 1) 0 = 2)))) ?_ (fun x w1 hx => ?_)
        · refine yb_R (iR_small ⟨by omega, by omega⟩) (yp_if (fun d => yp_P ⟨rfl, Or.inr ⟨rfl, fun z => by omega⟩⟩) (fun d => ?_))
          refine fl_run hF (yb_gr kr r2 (fl_row (j := 1) hF (by decide) (fl_ld hF h90 (by decide) hp ?_)))
          rw [f1]
          obtain ⟨q', mm', rq', -, ⟨kq', vq'⟩, -⟩ := hrow (b - 1) (by omega) (by omega)
          have wb' := hw.2.2.1 (b - 1) (by omega) (by omega)
          exact yb_lr kb ⟨by omega, by omega⟩ (by decide) rq' (yb_ld kq' (bq 0 (by decide) (by decide)) (by decide) (vq' 0 (by decide) (by decide)) (yb_R2 ⟨iR_small ⟨by have := wb'.1; omega, by have := wb'.1; omega⟩, by decide⟩ (yp_if (fun y => yp_P ⟨rfl, Or.inr ⟨rfl, fun z => y z.2⟩⟩) (fun y => yp_P ⟨rfl, Or.inl ⟨rfl, by omega, Classical.not_not.mp y⟩⟩))))
        · obtain ⟨rfl, ⟨rfl, hx⟩ | ⟨rfl, hx⟩⟩ := hx
          · exact yp_P ⟨rfl, Or.inl ⟨rfl, hx⟩⟩
          · exact yp_P ⟨rfl, Or.inr ⟨rfl, hx⟩⟩
      · obtain ⟨rfl, hx⟩ := hx
        have ix : iR x := by rcases hx with ⟨rfl, -⟩ | ⟨rfl, -⟩ <;> decide
        have w5 := wb.2.2.2.2.2.2.2.2.1
        refine yb_P (yb_ld kq (bq 5 (by decide) (by decide)) (by decide) (vq 5 (by decide) (by decide)) (yb_R (iR_small ⟨by omega, by omega⟩) (yp_if (fun d => en_0 (fun z => d (hen.mp z).1) k) (fun d5 => ?_))))
        refine fl_run hF (yb_gr kr t0 (yb_ld kt ⟨by decide, by decide⟩ (by decide) (vt 2 (by decide) (by decide)) (yb_R2 ⟨iR_small ⟨by omega, by have := wb.2.1; omega⟩, iR_small ⟨by omega, by omega⟩⟩ (yp_if (fun d => en_0 (fun z => by have := (hen.mp z).2.1; omega) k) (fun d2 => ?_)))))
        refine yb_ld kq (bq 1 (by decide) (by decide)) (by decide) (vq 1 (by decide) (by decide)) (fl_run hF (yb_gr kr t0 (yb_ld kt ⟨by decide, by decide⟩ (by decide) (vt 3 (by decide) (by decide)) (yb_R2 ⟨iR_small ⟨by have := wb.2.1; omega, by have := wb.2.1; omega⟩, iR_small ⟨by omega, by omega⟩⟩ (yp_if (fun d => en_0 (fun z => by have := (hen.mp z).2.2.2; omega) k) (fun d3 => yb_R ix ?_))))))
        rcases hx with ⟨rfl, hx⟩ | ⟨rfl, hx⟩
        · refine yp_ifF (by decide) (fl_run hF (yb_gr kr t0 (yb_ld kt ⟨by decide, by decide⟩ (by decide) (vt 4 (by decide) (by decide)) (yb_R2 ⟨iR_small ⟨by omega, by have := wb.2.1; omega⟩, iR_small ⟨by omega, by omega⟩⟩ (yp_if (fun d => en_0 (fun z => by have := (hen.mp z).2.2.1 hx.1 hx.2; omega) k) (fun d4 => en_1 (hen.mpr ⟨Classical.not_not.mp d5, by omega, fun _ _ => by omega, by omega⟩) k))))))
        · exact yp_ifT rfl (en_1 (hen.mpr ⟨Classical.not_not.mp d5, by omega, fun z1 z2 => absurd ⟨z1, z2⟩ hx, by omega⟩) k)
    · have c4' := Classical.not_not.mp c4
      rw [if_neg (by omega)] at hen
      exact en_1 (hen.mpr c4') k
  · have c3' : i + 1 = rc R b 1 := Classical.not_not.mp c3
    rw [if_pos (by omega)] at hen
    have w4 := wb.2.2.2.2.2.2.2.1
    refine yb_ld kq (bq 0 (by decide) (by decide)) (by decide) (vq 0 (by decide) (by decide)) (yb_R2 ⟨iR_small ⟨by have := wb.1; omega, by have := wb.1; omega⟩, by decide⟩ (yp_if (fun c4 => en_0 (fun z => (hen.mp z).1 c4) k) (fun c4 => ?_)))
    exact yb_ld kq (bq 4 (by decide) (by decide)) (by decide) (vq 4 (by decide) (by decide)) (yb_R (iR_small ⟨by omega, by omega⟩) (yp_if (fun c5 => en_0 (fun z => c5 (hen.mp z).2) k) (fun c5 => en_1 (hen.mpr ⟨c4, Classical.not_not.mp c5⟩) k)))
theorem run_own {Q : Int → yW → Prop} {a e : Int} (hw : WF R) (hF : FL A r R w) (ha : 0 ≤ a ∧ a ≤ e) (he : e ≤ np R) (k : Q (ol R a e) w) : yp (kf_Flat_own Y (some A) a e) Q w := by
  have h90 := hw.2.2.2
  unfold kf_Flat_own
  refine yb_P (yb_P ?_)
  refine yp_bind (R := fun x w1 => x = ol R a e ∧ w1 = w) ?_ (fun x w1 hx => by obtain ⟨rfl, rfl⟩ := hx; exact yp_P k)
  refine yp_Lp (fun s w1 => (a ≤ s.2 ∧ s.2 ≤ e) ∧ s.1 = lT R s.2 - lT R a ∧ w1 = w) (fun s _ => (e - s.2).toNat) ⟨⟨Int.le_refl _, ha.2⟩, by show (0 : Int) = lT R a - lT R a; omega, rfl⟩ (fun s w1 hs => ?_)
  obtain ⟨⟨s0, s1⟩, s2, rfl⟩ := hs
  refine yb_R2 ⟨iR_small ⟨by omega, by omega⟩, iR_small ⟨by omega, by omega⟩⟩ (yp_if (fun c => yp_P ⟨?_, rfl⟩) (fun c => ?_))
  · have : s.2 = e := by omega
    rw [s2, this]
    unfold ol
    by_cases z : e ≤ a
    · rw [if_pos z, show e = a by omega]; omega
    · rw [if_neg z]
  · refine fl_row (j := 5) hF (by decide) (fl_ld hF h90 (by decide) ⟨by omega, by omega⟩ (yb_P (yb_P (yp_P ⟨⟨⟨by show a ≤ s.2 + 1; omega, by show s.2 + 1 ≤ e; omega⟩, ?_, rfl⟩, by show (e - (s.2 + 1)).toNat < (e - s.2).toNat; omega⟩))))
    show s.1 + pN R s.2 = lT R (s.2 + 1) - lT R a
    have : lT R (s.2 + 1) = lT R s.2 + pN R s.2 := sI_s (by omega)
    rw [s2, this]; omega
end
