/-! ===== laying: the rest ===== -/
def FlB (R : aRun) (fl : Nat) (τ : iMem) : Prop :=
  τ fl 0 = np R ∧ τ fl 1 = ns R ∧ FlA R fl τ (np R) ∧ (∀ b, 0 ≤ b → b < rn R → τ (fl + 1) b = fs R b) ∧ (∀ s, 0 ≤ s → s < ns R → τ (fl + 13) s = bg R s ∧ τ (fl + 14) s = bg R (s + 1) ∧ τ (fl + 15) s = sh R s)
def FlE (R : aRun) (fl : Nat) (τ : iMem) : Prop := ∀ e, 0 ≤ e → e ≤ np R → 0 < rn R → (τ (fl + 12) e ≠ 0 ↔ en R e)
theorem ns_in {R : aRun} (hw : WF R) : 0 ≤ ns R ∧ ns R ≤ rn R + 1 := by
  have := sc_in (R := R) hw.1.1
  unfold ns
  split <;> omega
theorem bg_ns {R : aRun} (hw : WF R) (hn : 0 < rn R) : bg R (ns R) = np R := by
  unfold ns
  rw [if_neg (by omega)]
  exact bg_end hw.1.1 (by omega)
theorem ip_endsBehind {τ : iMem} {fl ru : Nat} {R : aRun} {b i : Int} {Q : Int → iMem → Prop} (hf : isFlow fl ru) (hw : WF R) (hR : RunC τ ru R) (h0 : 0 ≤ b) (hb : b < rn R) (hi : 0 ≤ i) (hi2 : i ≤ 100)
    (hQ : ∀ r, (r = 1 ∧ eb R b i) ∨ (r = 0 ∧ ¬ eb R b i) → Q r τ) : ip (iz_Flow_endsBehind fl b i) Q τ := by
  have hn := hw.1.2
  have hr := fl_r hf
  have hbw := (hw.2.2.1 b h0 hb).2.1
  unfold iz_Flow_endsBehind
  rw [fl_3 hf, ip_B, ip_cellC hr hR hn h0 hb (by omega) (by omega), ip_B, ip_cellC hr hR hn h0 hb (by omega) (by omega), ip_A]
  refine ⟨⟨by omega, by omega⟩, ?_⟩
  rw [ip_B, ip_P]
  by_cases c1 : rc R b 1 ≤ i
  · rw [ip_ifF (by omega)]
    by_cases c2 : rc R b 0 = 2
    · rw [ip_ifT c2, ip_P]
      exact hQ 0 (Or.inr ⟨rfl, by unfold eb; rw [if_pos c1]; omega⟩)
    · rw [ip_ifF c2, ip_B, ip_cellC hr hR hn h0 hb (by omega) (by omega)]
      by_cases c3 : rc R b 4 = 0
      · rw [ip_ifF (by omega), ip_P]
        exact hQ 1 (Or.inl ⟨rfl, by unfold eb; rw [if_pos c1]; omega⟩)
      · rw [ip_ifT c3, ip_P]
        exact hQ 0 (Or.inr ⟨rfl, by unfold eb; rw [if_pos c1]; omega⟩)
  · rw [ip_ifT (by omega)]
    by_cases c2 : rc R b 0 = 0
    · rw [ip_ifT c2, ip_B]
      refine ip_mono (Q := fun r τ' => τ' = τ ∧ (r = 0 ∨ r = 1) ∧ (r = 1 ↔ (0 < b ∧ rc R (b - 1) 0 = 2))) ?_ ?_
      · rw [ip_B]
        by_cases d : b ≤ 0
        · rw [ip_ifT d, ip_P]
          simp only [Sum.elim_inl]
          rw [ip_P]
          exact ⟨rfl, Or.inl rfl, by omega⟩
        · rw [ip_ifF d, ip_A]
          refine ⟨⟨by omega, by omega⟩, ?_⟩
          rw [ip_B, ip_cellC hr hR hn (by omega) (by omega) (by omega) (by omega)]
          by_cases d2 : rc R (b - 1) 0 = 2
          · rw [ip_ifF (by omega), ip_P]
            simp only [Sum.elim_inr]
            rw [ip_P]
            exact ⟨rfl, Or.inr rfl, by omega⟩
          · rw [ip_ifT d2, ip_P]
            simp only [Sum.elim_inl]
            rw [ip_P]
            exact ⟨rfl, Or.inl rfl, by omega⟩
      · intro hd τ' ⟨e, h01, hh⟩
        subst e
        rw [ip_B, ip_cellC hr hR hn h0 hb (by omega) (by omega)]
        by_cases c3 : rc R b 5 = 0
        · rw [ip_ifF (by omega), ip_B, ip_settingC hr hR (by omega) (by omega)]
          by_cases c4 : i < rs R 2
          · rw [ip_ifT c4, ip_P]
            exact hQ 0 (Or.inr ⟨rfl, by unfold eb; rw [if_neg c1, if_pos c2]; omega⟩)
          · rw [ip_ifF c4, ip_B]
            refine ip_mono (Q := fun r τ'' => τ'' = τ' ∧ ((r = Sum.inr 0 ∧ (0 < b ∧ rc R (b - 1) 0 = 2) ∧ i < rs R 4) ∨ (r = Sum.inl () ∧ (0 < b → rc R (b - 1) 0 = 2 → rs R 4 ≤ i)))) ?_ ?_
            · by_cases c5 : hd = 0
              · rw [ip_ifT c5, ip_P]
                exact ⟨rfl, Or.inr ⟨rfl, by omega⟩⟩
              · rw [ip_ifF c5, ip_B, ip_settingC hr hR (by omega) (by omega)]
                by_cases c6 : i < rs R 4
                · rw [ip_ifT c6, ip_P]
                  exact ⟨rfl, Or.inl ⟨rfl, by omega, c6⟩⟩
                · rw [ip_ifF c6, ip_P]
                  exact ⟨rfl, Or.inr ⟨rfl, by omega⟩⟩
            · intro r τ'' ⟨e, hc⟩
              subst e
              rcases hc with ⟨e, c5, c6⟩ | ⟨e, c5⟩
              · subst e
                simp only [Sum.elim_inr]
                rw [ip_P]
                exact hQ 0 (Or.inr ⟨rfl, by unfold eb; rw [if_neg c1, if_pos c2]; intro q; have := q.2.2.1 c5.1 c5.2; omega⟩)
              · subst e
                simp only [Sum.elim_inl]
                rw [ip_B, ip_settingC hr hR (by omega) (by omega)]
                by_cases c7 : rc R b 1 - i < rs R 3
                · rw [ip_ifT c7, ip_P]
                  exact hQ 0 (Or.inr ⟨rfl, by unfold eb; rw [if_neg c1, if_pos c2]; omega⟩)
                · rw [ip_ifF c7, ip_P]
                  exact hQ 1 (Or.inl ⟨rfl, by unfold eb; rw [if_neg c1, if_pos c2]; exact ⟨c3, by omega, c5, by omega⟩⟩)
        · rw [ip_ifT c3, ip_P]
          exact hQ 0 (Or.inr ⟨rfl, by unfold eb; rw [if_neg c1, if_pos c2]; omega⟩)
    · rw [ip_ifF c2]
      by_cases c3 : rc R b 0 = 3
      · rw [ip_ifF (by omega), ip_P]
        exact hQ 1 (Or.inl ⟨rfl, by unfold eb; rw [if_neg c1, if_neg c2]; exact c3⟩)
      · rw [ip_ifT c3, ip_P]
        exact hQ 0 (Or.inr ⟨rfl, by unfold eb; rw [if_neg c1, if_neg c2]; exact c3⟩)
theorem ip_markEnd {τ : iMem} {fl ru : Nat} {e : Int} {Q : Unit → iMem → Prop} (hf : isFlow fl ru) (h0 : 0 ≤ e) (h1 : e < 91) : ip (iz_Flow_markEnd fl e) Q τ ↔ Q () (iu τ (fl + 12) e 1) := by
  have := fl_m hf
  unfold iz_Flow_markEnd
  rw [ip_ifF (by omega), ip_ifF (by omega), ip_B, ip_Sz, fl_15 hf, fl_l12 hf]
  simp only [ip_P]
  exact ⟨fun q => q.2, fun q => ⟨⟨⟨⟨h0, h1⟩, by omega⟩, by first | trivial | exact Or.inr rfl⟩, q⟩⟩
theorem ip_markEnds {τ : iMem} {fl ru : Nat} {R : aRun} {Q : Unit → iMem → Prop} (hf : isFlow fl ru) (hw : WF R) (hR : RunC τ ru R) (hB : FlB R fl τ)
    (hQ : ∀ τ', FlE R fl τ' → (∀ a k, a ≠ fl + 12 → τ' a k = τ a k) → Q () τ') : ip (iz_Flow_markEnds fl) Q τ := by
  have hn := hw.1.2
  have hr := fl_r hf
  have ha := fl_a hf
  have hmm := fl_m hf
  have h90 := hw.2.2.2
  have hns := ns_in hw
  obtain ⟨B0, B1, BA, Bf, Bs⟩ := hB
  unfold iz_Flow_markEnds
  rw [ip_B]
  refine ip_mono (Q := fun _ τ' => (∀ a k, a ≠ fl + 12 → τ' a k = τ a k) ∧ ∀ e, 0 < e → e ≤ np R → (τ' (fl + 12) e ≠ 0 ↔ eb R (ow R (e - 1)) (nu R (e - 1) + 1))) ?_ ?_
  · refine ip_W (fun s τ' => 0 ≤ s ∧ s ≤ np R ∧ (∀ a k, a ≠ fl + 12 → τ' a k = τ a k) ∧ ∀ e, 0 < e → e ≤ s → (τ' (fl + 12) e ≠ 0 ↔ eb R (ow R (e - 1)) (nu R (e - 1) + 1))) (fun s _ => (np R - s).toNat) ?_ ⟨Int.le_refl _, np_ge hw, fun _ _ _ => rfl, fun e h1 h2 => by omega⟩
    intro s τ' ⟨g0, g1, gf, gE⟩
    rw [ip_B, ip_Gt, gf fl 0 (by omega), B0]
    by_cases c1 : np R ≤ s
    · rw [ip_ifT c1, ip_P]
      exact ⟨gf, fun e h1 h2 => gE e h1 (by omega)⟩
    · have hA := BA.1 s g0 (by omega)
      obtain ⟨o1, o2, o3, o4, o5⟩ := ow_in hw g0 (by omega : s < np R)
      have hbw := (hw.2.2.1 _ o1 o2).2.1
      rw [ip_ifF c1, ip_ifF (by omega), ip_B, ip_Ld, fl_5 hf, fl_l2 hf]
      refine ⟨⟨by omega, by omega⟩, ?_⟩
      rw [gf (fl + 2) s (by omega), hA.1, ip_B, ip_Ld, fl_6 hf, fl_l3 hf]
      refine ⟨⟨by omega, by omega⟩, ?_⟩
      rw [gf (fl + 3) s (by omega), hA.2.1, ip_A]
      refine ⟨⟨by omega, by omega⟩, ?_⟩
      rw [ip_B]
      refine ip_endsBehind hf hw (hR.frame (fun a k _ _ => gf a k (by omega))) o1 o2 (by omega) (by omega) (fun r hr => ?_)
      simp only [ip_A, ip_B, ip_Sz, ip_P, fl_15 hf, fl_l12 hf]
      refine ⟨⟨by omega, by omega⟩, ⟨⟨⟨by omega, by omega⟩, by omega⟩, by omega⟩, ⟨by omega, by omega⟩, ?_⟩
      simp only [Sum.elim_inl]
      refine ⟨⟨by omega, by omega, fun a k h => (iu_ne (Or.inl h)).trans (gf a k h), fun e h1 h2 => ?_⟩, by omega⟩
      by_cases c2 : e = s + 1
      · subst c2
        rw [iu_eq, show s + 1 - 1 = s by omega]
        rcases hr with ⟨q1, q2⟩ | ⟨q1, q2⟩
        · exact ⟨fun _ => q2, fun _ => by omega⟩
        · exact ⟨fun q => absurd q1 q, fun q => absurd q q2⟩
      · rw [iu_ne (Or.inr c2)]
        exact gE e h1 (by omega)
  · intro _ τ1 ⟨f1, E1⟩
    rw [ip_B]
    refine ip_mono (Q := fun _ τ' => FlE R fl τ' ∧ (∀ a k, a ≠ fl + 12 → τ' a k = τ a k)) ?_ (fun _ τ' h => by rw [ip_P]; exact hQ τ' h.1 h.2)
    refine ip_W (fun t τ' => 0 ≤ t ∧ t ≤ ns R ∧ (∀ a k, a ≠ fl + 12 → τ' a k = τ a k) ∧ ∀ e, 0 ≤ e → e ≤ np R → (0 < e ∨ 0 < t) → (τ' (fl + 12) e ≠ 0 ↔ ((∃ s, 0 ≤ s ∧ s < t ∧ (e = bg R s ∨ e = bg R (s + 1))) ∨ (0 < e ∧ e ≤ np R ∧ eb R (ow R (e - 1)) (nu R (e - 1) + 1))))) (fun t _ => (ns R - t).toNat) ?_ ⟨Int.le_refl _, hns.1, f1, fun e h1 h2 h3 => ?_⟩
    · intro t τ' ⟨g0, g1, gf, gE⟩
      rw [ip_B, ip_Gt, gf fl 1 (by omega), B1]
      by_cases c1 : ns R ≤ t
      · rw [ip_ifT c1, ip_P]
        refine ⟨fun e h1 h2 h3 => ?_, gf⟩
        have : t = ns R := by omega
        subst this
        refine gE e h1 h2 (Or.inr ?_)
        have := sc_in (R := R) hw.1.1
        unfold ns
        rw [if_neg (by omega)]
        omega
      · have hs := Bs t g0 (by omega)
        have b1 := bg_in hw t
        have b2 := bg_in hw (t + 1)
        rw [ip_ifF c1, ip_ifF (by omega), ip_B, ip_Ld, fl_16 hf, fl_l13 hf]
        refine ⟨⟨by omega, by omega⟩, ?_⟩
        rw [gf (fl + 13) t (by omega), hs.1, ip_B, ip_markEnd hf (by omega) (by omega), ip_B, ip_Ld, fl_17 hf, fl_l14 hf]
        refine ⟨⟨by omega, by omega⟩, ?_⟩
        rw [iu_ne (Or.inl (by omega)), gf (fl + 14) t (by omega), hs.2.1, ip_B, ip_markEnd hf (by omega) (by omega), ip_A]
        refine ⟨⟨by omega, by omega⟩, ?_⟩
        rw [ip_B, ip_P, ip_P]
        refine ⟨⟨by omega, by omega, fun a k h => by rw [iu_ne (Or.inl h), iu_ne (Or.inl h)]; exact gf a k h, fun e h1 h2 h3 => ?_⟩, by omega⟩
        by_cases d1 : e = bg R (t + 1)
        · rw [iu_at, if_pos ⟨rfl, d1⟩]
          exact ⟨fun _ => Or.inl ⟨t, g0, by omega, Or.inr d1⟩, fun _ => by omega⟩
        · rw [iu_ne (Or.inr d1)]
          by_cases d2 : e = bg R t
          · rw [iu_at, if_pos ⟨rfl, d2⟩]
            exact ⟨fun _ => Or.inl ⟨t, g0, by omega, Or.inl d2⟩, fun _ => by omega⟩
          · rw [iu_ne (Or.inr d2)]
            have h4 : 0 < e ∨ 0 < t := by
              by_cases z : t = 0
              · subst z
                rw [bg_0] at d2
                omega
              · omega
            rw [gE e h1 h2 h4]
            constructor
            · rintro (⟨s, q1, q2, q3⟩ | q)
              · exact Or.inl ⟨s, q1, by omega, q3⟩
              · exact Or.inr q
            · rintro (⟨s, q1, q2, q3⟩ | q)
              · by_cases z : s = t
                · subst z
                  exact absurd q3 (by omega)
                · exact Or.inl ⟨s, q1, by omega, q3⟩
              · exact Or.inr q
    · rw [E1 e (by omega) h2]
      constructor
      · intro q
        exact Or.inr ⟨by omega, h2, q⟩
      · rintro (⟨s, q1, q2, q3⟩ | q)
        · omega
        · exact q.2.2
theorem ip_openSection {τ : iMem} {fl ru : Nat} {h s p : Int} {Q : Unit → iMem → Prop} (hf : isFlow fl ru) (hs : τ fl 1 = s) (hp : τ fl 0 = p) (h0 : 0 ≤ s) (h1 : s < 17)
    (hQ : Q () (iu (iu (iu (iu τ (fl + 13) s p) (fl + 14) s p) (fl + 15) s h) fl 1 (s + 1))) : ip (iz_Flow_openSection fl h) Q τ := by
  have hmm := fl_m hf
  unfold iz_Flow_openSection
  rw [ip_B, ip_Gt, hs, ip_ifF (by omega)]
  simp (disch := omega) only [ip_B, ip_Gt, ip_Pt, ip_St, ip_Ld, ip_A, ip_P, fl_16 hf, fl_17 hf, fl_18 hf, fl_l13 hf, fl_l14 hf, fl_l15 hf, iu_ne, iu_eq, hs, hp, iR]
  repeat refine ⟨by omega, ?_⟩
  exact hQ
def FlZ (fl : Nat) (τ : iMem) : Prop := τ (fl + 9) 0 = 0 ∧ τ (fl + 10) 0 = 0 ∧ τ (fl + 11) 0 = 0
set_option maxHeartbeats 2000000 in
theorem ip_lay {τ : iMem} {fl ru : Nat} {R : aRun} {Q : Unit → iMem → Prop} (hf : isFlow fl ru) (hw : WF R) (hR : RunC τ ru R) (hZ : FlZ fl τ)
    (hQ : ∀ τ', FlB R fl τ' → FlE R fl τ' → (∀ a k, a < fl ∨ fl + 16 < a → τ' a k = τ a k) → Q () τ') : ip (iz_Flow_lay fl) Q τ := by
  have hn := hw.1.2
  have hr := fl_r hf
  have ha := fl_a hf
  have hmm := fl_m hf
  have h90 := hw.2.2.2
  have hn0 := hw.1.1
  unfold iz_Flow_lay
  rw [ip_B, ip_Pt, ip_B, ip_Pt, ip_B, ip_Pt, ip_B, ip_Gt, fl_3 hf]
  rw [iu_ne (Or.inl (by omega)), iu_ne (Or.inl (by omega)), iu_ne (Or.inl (by omega)), hR.1]
  generalize hτ : iu (iu (iu τ fl 0 0) fl 1 0) fl 2 0 = τ0
  have e0 : τ0 fl 0 = 0 := by rw [← hτ]; simp (disch := omega) only [iu_ne, iu_eq]
  have e1 : τ0 fl 1 = 0 := by rw [← hτ]; simp (disch := omega) only [iu_ne, iu_eq]
  have e2 : τ0 fl 2 = 0 := by rw [← hτ]; simp (disch := omega) only [iu_ne, iu_eq]
  have ef : ∀ a k, a ≠ fl → τ0 a k = τ a k := by intro a k h; rw [← hτ]; simp (disch := omega) only [iu_ne]
  have eA : FlA R fl τ0 0 := by
    refine ⟨fun q a1 a2 => by omega, fun q a1 a2 => ?_, e2, fun q a1 a2 => by omega⟩
    have : q = 0 := by omega
    subst this
    rw [ef _ _ (by omega), ef _ _ (by omega), ef _ _ (by omega)]
    exact hZ
  rw [ip_B]
  refine ip_mono (Q := fun _ τ' => (0 < rn R → τ' fl 0 = fs R 0 ∧ τ' fl 1 = sc R 0 + 1 ∧ τ' (fl + 13) 0 = bg R 0 ∧ τ' (fl + 15) 0 = sh R 0 ∧ τ' (fl + 14) 0 = fs R 0) ∧ (rn R ≤ 0 → τ' fl 0 = 0 ∧ τ' fl 1 = 0) ∧ FlA R fl τ' (fs R 0) ∧ (∀ a k, a < fl ∨ fl + 16 < a → τ' a k = τ a k)) ?_ ?_
  · by_cases c : rn R ≤ 0
    · rw [ip_ifT c, ip_P]
      exact ⟨fun h => by omega, fun _ => ⟨e0, e1⟩, eA, fun a k h => ef a k (by omega)⟩
    · rw [ip_ifF c, ip_B]
      refine ip_openSection hf e1 e0 (by omega) (by omega) ?_
      rw [ip_P]
      refine ⟨fun _ => ?_, fun h => by omega, ?_, fun a k h => ?_⟩
      · simp (disch := omega) only [iu_ne, iu_eq]
        exact ⟨e0, rfl, rfl, rfl, rfl⟩
      · refine eA.frame ?_ (fun a k _ _ _ _ _ _ => ?_)
        · simp (disch := omega) only [iu_ne]
        · simp (disch := omega) only [iu_ne]
      · simp (disch := omega) only [iu_ne]
        exact ef a k (by omega)
  · intro _ τ1 ⟨p1, p2, pA, pf⟩
    rw [ip_B]
    refine ip_mono (Q := fun _ τ' => FlB R fl τ' ∧ (∀ a k, a < fl ∨ fl + 16 < a → τ' a k = τ a k)) ?_ ?_
    · refine ip_W (fun b τ' => 0 ≤ b ∧ b ≤ rn R ∧ τ' fl 0 = fs R b ∧ (0 < rn R → τ' fl 1 = sc R b + 1 ∧ (∀ s, 0 ≤ s → s ≤ sc R b → τ' (fl + 13) s = bg R s ∧ τ' (fl + 15) s = sh R s) ∧ (∀ s, 0 ≤ s → s < sc R b → τ' (fl + 14) s = bg R (s + 1)) ∧ τ' (fl + 14) (sc R b) = fs R b) ∧ (rn R ≤ 0 → τ' fl 1 = 0) ∧ FlA R fl τ' (fs R b) ∧ (∀ b', 0 ≤ b' → b' < b → τ' (fl + 1) b' = fs R b') ∧ (∀ a k, a < fl ∨ fl + 16 < a → τ' a k = τ a k)) (fun b _ => (rn R - b).toNat) ?_ ⟨Int.le_refl _, hn0, ?_, ?_, fun h => (p2 h).2, pA, fun b' h1 h2 => by omega, pf⟩
      · intro b τ' ⟨g0, g1, gp, gs, gz, gA, gb, gf⟩
        rw [ip_B, ip_Gt, gf ru 0 (Or.inl (by omega)), hR.1]
        by_cases c1 : rn R ≤ b
        · have e : b = rn R := by omega
          subst e
          rw [ip_ifT c1, ip_P]
          refine ⟨⟨gp, ?_, gA, gb, fun s h1 h2 => ?_⟩, gf⟩
          · unfold ns
            by_cases z : rn R ≤ 0
            · rw [if_pos z]; exact gz z
            · rw [if_neg z]; exact (gs (by omega)).1
          · unfold ns at h2
            by_cases z : rn R ≤ 0
            · rw [if_pos z] at h2; omega
            · rw [if_neg z] at h2
              obtain ⟨-, q1, q2, q3⟩ := gs (by omega)
              refine ⟨(q1 s h1 (by omega)).1, ?_, (q1 s h1 (by omega)).2⟩
              by_cases y : s < sc R (rn R)
              · exact q2 s h1 y
              · have : s = sc R (rn R) := by omega
                rw [this, q3, bg_end hn0 (by omega)]
                rfl
        · obtain ⟨q0, q1, q2, q3⟩ := gs (by omega)
          have hsc := sc_in (R := R) g0
          have hbw := hw.2.2.1 b g0 (by omega)
          have hbm := hbw.2.1
          have hg := fs_ge hw g0 (by omega)
          rw [ip_ifF c1, ip_ifF (by omega), ip_B, ip_Gt, gp, ip_B, ip_St, fl_4 hf, fl_l1 hf]
          refine ⟨⟨⟨by omega, by omega⟩, by omega⟩, ?_⟩
          have hR2 : RunC (iu τ' (fl + 1) b (fs R b)) ru R := hR.frame (fun a k _ _ => by rw [iu_ne (Or.inl (by omega))]; exact gf a k (Or.inl (by omega)))
          rw [ip_B, ip_cellC hr hR2 hn g0 (by omega) (by omega) (by omega), ip_B]
          refine ip_mono (Q := fun _ τ2 => τ2 fl 0 = fs R (b + 1) ∧ (τ2 fl 1 = sc R (b + 1) + 1 ∧ (∀ s, 0 ≤ s → s ≤ sc R (b + 1) → τ2 (fl + 13) s = bg R s ∧ τ2 (fl + 15) s = sh R s) ∧ (∀ s, 0 ≤ s → s < sc R (b + 1) → τ2 (fl + 14) s = bg R (s + 1)) ∧ τ2 (fl + 14) (sc R (b + 1)) = fs R (b + 1)) ∧ FlA R fl τ2 (fs R (b + 1)) ∧ (∀ k, τ2 (fl + 1) k = iu τ' (fl + 1) b (fs R b) (fl + 1) k) ∧ (∀ a k, a < fl ∨ fl + 16 < a → τ2 a k = τ a k)) ?_ ?_
          rotate_left
          · intro _ τ2 ⟨w1, w2, w3, w4, w5⟩
            rw [ip_A]
            refine ⟨⟨by omega, by omega⟩, ?_⟩
            rw [ip_B, ip_P, ip_P]
            simp only [Sum.elim_inl]
            refine ⟨⟨by omega, by omega, w1, fun _ => w2, fun h => by omega, w3, fun b' h1 h2 => ?_, w5⟩, by omega⟩
            rw [w4]
            by_cases c : b' = b
            · subst c; rw [iu_eq]
            · rw [iu_ne (Or.inr c)]; exact gb b' h1 (by omega)
          by_cases c2 : rc R b 0 = 4
          · rw [ip_ifF (by omega), ip_B, ip_cellC hr hR2 hn g0 (by omega) (by omega) (by omega), ip_B]
            have hz : rc R b 1 = 0 := (hbw.2.2.1 c2).1
            have es : sc R (b + 1) = sc R b + 1 := by rw [sc_s g0, if_pos c2]
            have ep : fs R (b + 1) = fs R b := by rw [fs_s g0, hz]; omega
            have eb1 := bg_at g0 (by omega) c2
            have eb2 := sh_at g0 (by omega) c2
            refine ip_openSection (s := sc R b + 1) (p := fs R b) hf (by rw [iu_ne (Or.inl (by omega))]; exact q0) (by rw [iu_ne (Or.inl (by omega))]; exact gp) (by omega) (by omega) ?_
            rw [ip_P]
            refine ⟨?_, ?_, ?_, ?_, ?_⟩
            · simp (disch := omega) only [iu_ne]; rw [ep]; exact gp
            · rw [es, ep]
              refine ⟨?_, fun s h1 h2 => ?_, fun s h1 h2 => ?_, ?_⟩
              · rw [iu_eq]
              · by_cases y : s = sc R b + 1
                · subst y
                  simp (disch := omega) only [iu_ne, iu_eq]
                  exact ⟨eb1.symm, eb2.symm⟩
                · simp (disch := omega) only [iu_ne]
                  exact q1 s h1 (by omega)
              · simp (disch := omega) only [iu_ne]
                by_cases y : s = sc R b
                · subst y
                  rw [q3, eb1]
                · exact q2 s h1 (by omega)
              · simp (disch := omega) only [iu_ne, iu_eq]
            · rw [ep]
              exact gA.frame (by simp (disch := omega) only [iu_ne]) (fun a k _ _ _ _ _ _ => by simp (disch := omega) only [iu_ne])
            · intro k
              simp (disch := omega) only [iu_ne]
            · intro a k h
              simp (disch := omega) only [iu_ne]
              exact gf a k h
          · rw [ip_ifT c2, ip_B]
            have es : sc R (b + 1) = sc R b := by rw [sc_s g0, if_neg c2]; omega
            refine ip_layPieces hf hw hR2 g0 (by omega) c2 (by rw [iu_ne (Or.inl (by omega))]; exact gp) (by rw [iu_ne (Or.inl (by omega))]; exact q0) (gA.frame (by rw [iu_ne (Or.inl (by omega))]) (fun a k _ _ _ _ _ _ => by rw [iu_ne (Or.inl (by omega))])) (fun τ2 w1 w2 w3 w4 w5 w6 => ?_)
            rw [ip_P]
            refine ⟨w1, ?_, w2, fun k => w6 _ k (by omega), fun a k h => ?_⟩
            · rw [es]
              refine ⟨?_, fun s h1 h2 => ?_, fun s h1 h2 => ?_, w3⟩
              · rw [w5, iu_ne (Or.inl (by omega))]; exact q0
              · rw [w6 (fl + 13) s (by omega), w6 (fl + 15) s (by omega), iu_ne (Or.inl (by omega)), iu_ne (Or.inl (by omega))]
                exact q1 s h1 h2
              · rw [w4 s (by omega), iu_ne (Or.inl (by omega))]
                exact q2 s h1 h2
            · rw [w6 a k (by omega), iu_ne (Or.inl (by omega))]
              exact gf a k h
      · by_cases z : rn R ≤ 0
        · exact (p2 z).1
        · exact (p1 (by omega)).1
      · intro z
        obtain ⟨z0, z1, z2, z3, z4⟩ := p1 z
        refine ⟨z1, fun s h1 h2 => ?_, fun s h1 h2 => ?_, z4⟩
        · rw [sc_0] at h2
          have : s = 0 := by omega
          subst this
          exact ⟨z2, z3⟩
        · rw [sc_0] at h2; omega
    · intro _ τ2 ⟨hB, hfr⟩
      rw [ip_B]
      refine ip_markEnds hf hw (hR.frame (fun a k _ _ => hfr a k (Or.inl (by omega)))) hB (fun τ3 hE hf3 => ?_)
      rw [ip_P]
      obtain ⟨B0, B1, BA, Bf, Bs⟩ := hB
      refine hQ τ3 ⟨(hf3 _ _ (by omega)).trans B0, (hf3 _ _ (by omega)).trans B1, BA.frame (hf3 _ _ (by omega)) (fun a k _ _ _ _ _ _ => hf3 a k (by omega)), fun b h1 h2 => (hf3 _ _ (by omega)).trans (Bf b h1 h2), fun s h1 h2 => ?_⟩ hE (fun a k h => (hf3 a k (by omega)).trans (hfr a k h))
      rw [hf3 _ s (by omega), hf3 (fl + 14) s (by omega), hf3 (fl + 15) s (by omega)]
      exact Bs s h1 h2
