theorem ip_MmayEnd {τ : iMem} {R : aRun} {p : Int} {Q : Int → iMem → Prop} (hw : WF R) (hR : RunM τ 368 0 R) (h0 : 0 ≤ p) (hp : p < np R) (h3 : τ 373 p = ow R p) (h4 : τ 374 p = nu R p)
    (hQ : ∀ r, (r = 1 ∧ eb R (ow R p) (nu R p + 1)) ∨ (r = 0 ∧ ¬ eb R (ow R p) (nu R p + 1)) → Q r τ) : ip (iz_Model_mayEnd 367 p) Q τ := by
  have hn := hw.1.2
  obtain ⟨o1, o2, o3, o4, o5⟩ := ow_in hw h0 hp
  have hbw := hw.2.2.1 _ o1 o2
  have hbm := hbw.2.1
  have hb4 := hbw.2.2.2.1
  have hb5 := hbw.2.2.2.2.1
  have hk := hbw.1
  have hwh := hbw.2.2.2.2.2.2.2.2.1
  have h90 := hw.2.2.2
  unfold iz_Model_mayEnd
  rw [ip_B, ip_Ld, m_6, l_373]
  refine ⟨⟨by omega, by omega⟩, ?_⟩
  rw [h3, ip_B, ip_Ld, m_7, l_374]
  refine ⟨⟨by omega, by omega⟩, ?_⟩
  rw [h4, ip_A]
  refine ⟨⟨by omega, by omega⟩, ?_⟩
  rw [ip_B, ip_P, ip_B, ip_of hR hn o1 o2 (by omega) (by omega)]
  have key : ∀ c : Prop, (rc R (ow R p) 1 ≤ nu R p + 1) ↔ (nu R p + 1 = rc R (ow R p) 1) := fun c => by omega
  by_cases c1 : nu R p + 1 = rc R (ow R p) 1
  · rw [ip_ifF (by omega), ip_B, ip_of hR hn o1 o2 (by omega) (by omega)]
    by_cases c2 : rc R (ow R p) 0 = 2
    · rw [ip_ifT c2, ip_P]
      exact hQ 0 (Or.inr ⟨rfl, by unfold eb; rw [if_pos (by omega)]; omega⟩)
    · rw [ip_ifF c2, ip_B, ip_of hR hn o1 o2 (by omega) (by omega)]
      by_cases c3 : rc R (ow R p) 4 = 0
      · rw [ip_ifF (by omega), ip_P]
        exact hQ 1 (Or.inl ⟨rfl, by unfold eb; rw [if_pos (by omega)]; exact ⟨c2, c3⟩⟩)
      · rw [ip_ifT c3, ip_P]
        exact hQ 0 (Or.inr ⟨rfl, by unfold eb; rw [if_pos (by omega)]; exact fun q => c3 q.2⟩)
  · rw [ip_ifT c1, ip_B, ip_of hR hn o1 o2 (by omega) (by omega)]
    by_cases c2 : rc R (ow R p) 0 = 3
    · rw [ip_ifF (by omega), ip_P]
      exact hQ 1 (Or.inl ⟨rfl, by unfold eb; rw [if_neg (by omega), if_neg (by omega)]; exact c2⟩)
    · have hk0 : rc R (ow R p) 0 = 0 := by
        have : rc R (ow R p) 0 ≠ 1 ∧ rc R (ow R p) 0 ≠ 2 := ⟨fun e => by have := hb5 (Or.inl e); omega, fun e => by have := hb5 (Or.inr e); omega⟩
        have : rc R (ow R p) 0 ≠ 4 := fun e => by have := hbw.2.2.1 e; omega
        omega
      have fin : ∀ r, ((r = 1 ∧ (rc R (ow R p) 5 = 0 ∧ rs R 2 ≤ nu R p + 1 ∧ (0 < ow R p → rc R (ow R p - 1) 0 = 2 → rs R 4 ≤ nu R p + 1) ∧ rs R 3 ≤ rc R (ow R p) 1 - (nu R p + 1))) ∨ (r = 0 ∧ ¬ (rc R (ow R p) 5 = 0 ∧ rs R 2 ≤ nu R p + 1 ∧ (0 < ow R p → rc R (ow R p - 1) 0 = 2 → rs R 4 ≤ nu R p + 1) ∧ rs R 3 ≤ rc R (ow R p) 1 - (nu R p + 1)))) → Q r τ := by
        intro r hr
        refine hQ r ?_
        have e : eb R (ow R p) (nu R p + 1) ↔ (rc R (ow R p) 5 = 0 ∧ rs R 2 ≤ nu R p + 1 ∧ (0 < ow R p → rc R (ow R p - 1) 0 = 2 → rs R 4 ≤ nu R p + 1) ∧ rs R 3 ≤ rc R (ow R p) 1 - (nu R p + 1)) := by
          unfold eb; rw [if_neg (by omega), if_pos hk0]
        rw [e]
        exact hr
      rw [ip_ifT c2, ip_B, ip_of hR hn o1 o2 (by omega) (by omega)]
      by_cases c3 : rc R (ow R p) 5 = 1
      · rw [ip_ifT c3, ip_P]
        exact fin 0 (Or.inr ⟨rfl, fun q => by omega⟩)
      · rw [ip_ifF c3, ip_B, ip_Ld, m_0, l_368]
        refine ⟨⟨by omega, by omega⟩, ?_⟩
        rw [rm_s hR (by omega) (by omega)]
        by_cases c4 : nu R p + 1 < rs R 2
        · rw [ip_ifT c4, ip_P]
          exact fin 0 (Or.inr ⟨rfl, fun q => by omega⟩)
        · rw [ip_ifF c4, ip_B, ip_Ld, l_368]
          refine ⟨⟨by omega, by omega⟩, ?_⟩
          rw [rm_s hR (by omega) (by omega), ip_A]
          refine ⟨⟨by omega, by omega⟩, ?_⟩
          by_cases c5 : rs R 3 ≤ rc R (ow R p) 1 - (nu R p + 1)
          · rw [ip_ifT c5]
            by_cases c6 : ow R p = 0
            · rw [ip_ifT c6, ip_P]
              exact fin 1 (Or.inl ⟨rfl, by omega, by omega, fun q => by omega, c5⟩)
            · rw [ip_ifF c6, ip_A]
              refine ⟨⟨by omega, by omega⟩, ?_⟩
              rw [ip_B, ip_of hR hn (by omega) (by omega) (by omega) (by omega)]
              by_cases c7 : rc R (ow R p - 1) 0 = 2
              · rw [ip_ifF (by omega), ip_B, ip_Ld, l_368]
                refine ⟨⟨by omega, by omega⟩, ?_⟩
                rw [rm_s hR (by omega) (by omega)]
                by_cases c8 : nu R p + 1 < rs R 4
                · rw [ip_ifT c8, ip_P]
                  exact fin 0 (Or.inr ⟨rfl, fun q => by have := q.2.2.1 (by omega) c7; omega⟩)
                · rw [ip_ifF c8, ip_P]
                  exact fin 1 (Or.inl ⟨rfl, by omega, by omega, fun _ _ => by omega, c5⟩)
              · rw [ip_ifT c7, ip_P]
                exact fin 1 (Or.inl ⟨rfl, by omega, by omega, fun _ q => absurd q c7, c5⟩)
          · rw [ip_ifF c5, ip_P]
            exact fin 0 (Or.inr ⟨rfl, fun q => c5 q.2.2.2⟩)
theorem en_piece {R : aRun} (hw : WF R) {p : Int} (h0 : 0 ≤ p) (hp : p < np R) : en R (p + 1) ↔ (p + 1 = bg R (pS R p + 1) ∨ eb R (ow R p) (nu R p + 1)) := by
  obtain ⟨s1, s2, s3, s4⟩ := pS_in hw h0 hp
  unfold en
  rw [show p + 1 - 1 = p by omega]
  constructor
  · rintro (⟨s, a1, a2, a3⟩ | ⟨-, -, q⟩)
    · refine Or.inl ?_
      have key : ∀ t, p + 1 = bg R t → p + 1 = bg R (pS R p + 1) := by
        intro t e
        by_cases c : t ≤ pS R p
        · have := bg_mono hw c; omega
        · have := bg_mono hw (show pS R p + 1 ≤ t by omega); omega
      rcases a3 with e | e
      · exact key s e
      · exact key (s + 1) e
    · exact Or.inr q
  · rintro (e | q)
    · exact Or.inl ⟨pS R p, s1, s2, Or.inr e⟩
    · exact Or.inr ⟨by omega, by omega, q⟩
theorem ip_laysSums {τ : iMem} {R : aRun} {Q : Unit → iMem → Prop} (hw : WF R) (hp : τ 367 13 = np R) (hA : MlA R τ (np R))
    (hQ : ∀ τ', MlS R τ' (np R) → (∀ a k, ¬ (383 ≤ a ∧ a ≤ 386) → τ' a k = τ a k) → Q () τ') : ip (iz_Model_laysSums 367) Q τ := by
  have h90 := hw.2.2.2
  have hnp := np_ge hw
  unfold iz_Model_laysSums
  simp (disch := omega) only [ip_B, ip_St, m_18, m_19, m_20, m_21, l_383, l_384, l_385, l_386]
  repeat refine ⟨by omega, ?_⟩
  refine ip_mono (Q := fun _ τ' => MlS R τ' (np R) ∧ (∀ a k, ¬ (383 ≤ a ∧ a ≤ 386) → τ' a k = τ a k)) ?_ (fun _ τ' h => by rw [ip_P]; exact hQ τ' h.1 h.2)
  refine ip_W (fun s τ' => 0 ≤ s ∧ s ≤ np R ∧ MlS R τ' s ∧ (∀ a k, ¬ (383 ≤ a ∧ a ≤ 386) → τ' a k = τ a k)) (fun s _ => (np R - s).toNat) ?_ ⟨Int.le_refl _, hnp, fun q a1 a2 => ?_, fun a k h => by simp (disch := omega) only [iu_ne]⟩
  · intro s τ' ⟨g0, g1, gS, gf⟩
    rw [ip_B, ip_Gt, gf 367 13 (by omega), hp]
    by_cases c1 : np R ≤ s
    · have e : s = np R := by omega
      subst e
      rw [ip_ifT c1, ip_P]
      exact ⟨gS, gf⟩
    · rw [ip_ifF c1]
      have A := hA s g0 (by omega)
      have S := gS s g0 (Int.le_refl _)
      have hN := pN_in hw g0 (by omega)
      have hH := pH_in hw g0 (by omega)
      have hG := pG_in hw g0 (by omega)
      have b1 := hH_in hw g0 (by omega)
      have b2 := hG_in hw g0 (by omega)
      have b3 := lT_in hw g0 (by omega)
      have e5 := (gf 375 s (by omega)).trans A.2.2.1
      have e6 := (gf 376 s (by omega)).trans A.2.2.2.1
      have e7 := (gf 377 s (by omega)).trans A.2.2.2.2.1
      by_cases cN : pN R s ≤ 0
      · simp (disch := omega) only [ip_Gt, ip_Ld, ip_St, ip_A, ip_B, ip_P, ip_ifT, m_8, m_9, m_10, l_375, l_376, l_377, m_18, m_19, m_20, m_21, l_383, l_384, l_385, l_386, iu_ne, iu_eq, e5, e6, e7, S.1, S.2.1, S.2.2.1, S.2.2.2, iR]
        repeat refine ⟨by omega, ?_⟩
        simp only [Sum.elim_inl]
        refine ⟨⟨by omega, by omega, fun q a1 a2 => ?_, fun a k h => ?_⟩, by omega⟩
        · by_cases c : q = s + 1
          · subst c
            simp (disch := omega) only [iu_ne, iu_eq]
            rw [hH_s g0, hG_s g0, lT_s g0, ll_s g0, if_pos cN]
            exact ⟨rfl, rfl, rfl, rfl⟩
          · simp (disch := omega) only [iu_ne]
            exact gS q a1 (by omega)
        · simp (disch := omega) only [iu_ne]
          exact gf a k h
      · simp (disch := omega) only [ip_Gt, ip_Ld, ip_St, ip_A, ip_B, ip_P, ip_ifF, m_8, m_9, m_10, l_375, l_376, l_377, m_18, m_19, m_20, m_21, l_383, l_384, l_385, l_386, iu_ne, iu_eq, e5, e6, e7, S.1, S.2.1, S.2.2.1, S.2.2.2, iR]
        repeat refine ⟨by omega, ?_⟩
        simp only [Sum.elim_inl]
        refine ⟨⟨by omega, by omega, fun q a1 a2 => ?_, fun a k h => ?_⟩, by omega⟩
        · by_cases c : q = s + 1
          · subst c
            simp (disch := omega) only [iu_ne, iu_eq]
            rw [hH_s g0, hG_s g0, lT_s g0, ll_s g0, if_neg cN]
            exact ⟨rfl, rfl, rfl, rfl⟩
          · simp (disch := omega) only [iu_ne]
            exact gS q a1 (by omega)
        · simp (disch := omega) only [iu_ne]
          exact gf a k h
  · have : q = 0 := by omega
    subst this
    simp (disch := omega) only [iu_ne, iu_eq]
    exact ⟨rfl, rfl, rfl, rfl⟩
set_option maxHeartbeats 2000000 in
theorem ip_lays {τ : iMem} {R : aRun} {Q : Unit → iMem → Prop} (hw : WF R) (hR : RunM τ 368 0 R)
    (hQ : ∀ τ', FlM R τ' → (∀ a k, ¬ mlw a k → τ' a k = τ a k) → Q () τ') : ip (iz_Model_lays 367) Q τ := by
  have hn := hw.1.2
  have hn0 := hw.1.1
  have h90 := hw.2.2.2
  have hnp := np_ge hw
  have hscn := sc_in (R := R) hn0
  unfold iz_Model_lays
  simp (disch := omega) only [ip_B, ip_Pt, ip_St, m_14, m_15, l_380, l_381]
  repeat refine ⟨by omega, ?_⟩
  refine ip_mono (Q := fun _ τ' => τ' 367 13 = np R ∧ τ' 367 16 = sc R (rn R) ∧ MlA R τ' (np R) ∧ (∀ s, 0 ≤ s → s ≤ sc R (rn R) → τ' 380 s = bg R s ∧ τ' 381 s = sh R s) ∧ (∀ b, 0 ≤ b → b < rn R → τ' 382 b = fs R b) ∧ (∀ a k, ¬ mlw a k → τ' a k = τ a k)) ?_ ?_
  · refine ip_W (fun b τ' => 0 ≤ b ∧ b ≤ rn R ∧ τ' 367 13 = fs R b ∧ τ' 367 16 = sc R b ∧ MlA R τ' (fs R b) ∧ (∀ s, 0 ≤ s → s ≤ sc R b → τ' 380 s = bg R s ∧ τ' 381 s = sh R s) ∧ (∀ b', 0 ≤ b' → b' < b → τ' 382 b' = fs R b') ∧ (∀ a k, ¬ mlw a k → τ' a k = τ a k)) (fun b _ => (rn R - b).toNat) ?_ ⟨Int.le_refl _, hn0, ?_, ?_, fun q a1 a2 => ?_, fun s a1 a2 => ?_, fun b' a1 a2 => by omega, fun a k h => ?_⟩
    · intro b τ' ⟨g0, g1, gp, gs, gA, gS, gb, gf⟩
      simp only [ip_B]
      rw [ip_blocks, gf 368 8 (by unfold mlw; omega), rm_n hR]
      by_cases c1 : rn R ≤ b
      · have e : b = rn R := by omega
        subst e
        rw [ip_ifT c1, ip_P]
        exact ⟨gp, gs, gA, gS, gb, gf⟩
      · have hbw := hw.2.2.1 b g0 (by omega)
        have hbm := hbw.2.1
        have hb2 := hbw.2.2.2.2.2.1
        have hg := fs_ge hw g0 (by omega)
        have hsc := sc_in (R := R) g0
        have hle := fs_le hw (b := b + 1) (by omega) (by omega)
        rw [fs_s g0] at hle
        rw [ip_ifF c1]
        simp only [ip_B]
        rw [ip_Gt, gp, ip_St, m_17, l_382]
        refine ⟨⟨⟨by omega, by omega⟩, by omega⟩, ?_⟩
        have hR2 : RunM (iu τ' 382 b (fs R b)) 368 0 R := hR.frame (fun k => by rw [iu_ne (Or.inl (by omega))]; exact gf _ _ (by unfold mlw; omega))
        rw [ip_of hR2 hn g0 (by omega) (by omega) (by omega)]
        refine ip_mono (Q := fun _ τ2 => τ2 367 13 = fs R (b + 1) ∧ τ2 367 16 = sc R (b + 1) ∧ MlA R τ2 (fs R (b + 1)) ∧ (∀ s, 0 ≤ s → s ≤ sc R (b + 1) → τ2 380 s = bg R s ∧ τ2 381 s = sh R s) ∧ (∀ k, τ2 382 k = iu τ' 382 b (fs R b) 382 k) ∧ (∀ a k, ¬ mlw a k → τ2 a k = τ a k)) ?_ ?_
        · by_cases c2 : rc R b 0 = 4
          · have hz : rc R b 1 = 0 := (hbw.2.2.1 c2).1
            have es : sc R (b + 1) = sc R b + 1 := by rw [sc_s g0, if_pos c2]
            have ep : fs R (b + 1) = fs R b := by rw [fs_s g0, hz]; omega
            have eb1 := bg_at g0 (by omega) c2
            have eb2 := sh_at g0 (by omega) c2
            have hc2 := rm_c (b := b) (w := 2) hR2 g0 (by omega) (by omega) (by omega)
            rw [ip_ifF (by omega)]
            simp (disch := omega) only [ip_B, ip_Gt, ip_Pt, ip_St, ip_A, ip_P, ip_ofr, m_14, m_15, l_380, l_381, iu_ne, iu_eq, gs, gp, iR]
            simp (disch := omega) only [iu_ne] at hc2
            rw [hc2]
            repeat refine ⟨by omega, ?_⟩
            refine ⟨?_, fun s a1 a2 => ?_, fun k => trivial, fun a k h => ?_⟩
            · rw [ep]
              exact gA.frame (fun a k _ _ => by simp (disch := omega) only [iu_ne])
            · by_cases y : s = sc R b + 1
              · subst y
                simp (disch := omega) only [iu_ne, iu_eq]
                exact ⟨eb1.symm, eb2.symm⟩
              · simp (disch := omega) only [iu_ne]
                exact gS s a1 (by omega)
            · have h2 := h
              unfold mlw at h
              simp (disch := omega) only [iu_ne]
              exact gf a k h2
          · have es : sc R (b + 1) = sc R b := by rw [sc_s g0, if_neg c2]; omega
            rw [ip_ifT c2]
            refine ip_W (fun i τ2 => 0 ≤ i ∧ i ≤ rc R b 1 ∧ τ2 367 13 = fs R b + i ∧ MlA R τ2 (fs R b + i) ∧ (∀ a k, ¬ ((a = 367 ∧ k = 13) ∨ (373 ≤ a ∧ a ≤ 378)) → τ2 a k = iu τ' 382 b (fs R b) a k)) (fun i _ => (rc R b 1 - i).toNat) ?_ ⟨Int.le_refl _, hbm.1, ?_, ?_, fun a k _ => rfl⟩
            · intro i τ2 ⟨i0, i1, ip', iA', if'⟩
              have hR3 : RunM τ2 368 0 R := hR2.frame (fun k => if' 368 k (by omega))
              rw [ip_B, ip_of hR3 hn g0 (by omega) (by omega) (by omega)]
              by_cases d : rc R b 1 ≤ i
              · have e : i = rc R b 1 := by omega
                rw [ip_ifT d, ip_P]
                simp only [Sum.elim_inr]
                rw [fs_s g0, es, ← e]
                refine ⟨ip', ?_, iA', fun s a1 a2 => ?_, fun k => if' 382 k (by omega), fun a k h => ?_⟩
                · rw [if' 367 16 (by omega), iu_ne (Or.inl (by omega))]; exact gs
                · rw [if' 380 s (by omega), if' 381 s (by omega), iu_ne (Or.inl (by omega)), iu_ne (Or.inl (by omega))]
                  exact gS s a1 a2
                · have h2 := h
                  unfold mlw at h
                  rw [if' a k (by omega), iu_ne (Or.inl (by omega))]
                  exact gf a k h2
              · rw [ip_ifF d, ip_B]
                refine ip_laysPiece hw hR3 g0 (by omega) i0 (by omega) ip' (by rw [if' 367 16 (by omega), iu_ne (Or.inl (by omega))]; exact gs) iA' (fun τ3 w1 w2 w3 => ?_)
                rw [ip_A]
                refine ⟨⟨by omega, by omega⟩, ?_⟩
                rw [ip_B, ip_P, ip_P]
                simp only [Sum.elim_inl]
                refine ⟨⟨by omega, by omega, by omega, ?_, fun a k h => (w3 a k h).trans (if' a k h)⟩, by omega⟩
                rw [show fs R b + (i + 1) = fs R b + i + 1 by omega]
                exact w1
            · rw [iu_ne (Or.inl (by omega)), Int.add_zero]; exact gp
            · rw [Int.add_zero]
              exact gA.frame (fun a k _ _ => by rw [iu_ne (Or.inl (by omega))])
        · intro _ τ2 ⟨w1, w2, w3, w4, w5, w6⟩
          simp only [ip_A, ip_B, ip_P]
          try simp only [Sum.elim_inl]
          refine ⟨⟨by omega, by omega⟩, ⟨by omega, by omega, w1, w2, w3, w4, fun b' h1 h2 => ?_, w6⟩, by omega⟩
          rw [w5]
          by_cases c : b' = b
          · subst c; rw [iu_eq]
          · rw [iu_ne (Or.inr c)]; exact gb b' h1 (by omega)
    · simp (disch := omega) only [iu_ne, iu_eq]; rfl
    · simp (disch := omega) only [iu_ne, iu_eq]; rfl
    · rw [fs_0] at a2; omega
    · rw [sc_0] at a2
      have : s = 0 := by omega
      subst this
      simp (disch := omega) only [iu_ne, iu_eq]
      exact ⟨rfl, rfl⟩
    · unfold mlw at h
      simp (disch := omega) only [iu_ne]
  · intro _ τ1 ⟨w1, w2, w3, w4, w5, w6⟩
    have hR1 : RunM τ1 368 0 R := hR.frame (fun k => w6 368 k (by unfold mlw; omega))
    rw [ip_Gt, w2, ip_blocks, rm_n hR1]
    refine ip_mono (Q := fun r τ' => r = (if ¬ rn R = 0 then 1 else 0) ∧ τ' = τ1) ?_ ?_
    · rw [ip_ifP]
      exact ⟨rfl, rfl⟩
    · intro r τ' ⟨er, et⟩
      subst et
      have hns : sc R (rn R) + r = ns R := by
        unfold ns
        rw [er]
        by_cases z : rn R = 0
        · rw [if_neg (by omega), if_pos (by omega), z, sc_0]; rfl
        · rw [if_pos z, if_neg (by omega)]
      have hr01 : r = 0 ∨ r = 1 := by rw [er]; split <;> omega
      rw [ip_A]
      refine ⟨⟨by omega, by omega⟩, ?_⟩
      simp only [ip_B]
      rw [hns, ip_Pt, ip_Gt, iu_eq, ip_Gt, iu_ne (Or.inr (by omega)), w1, ip_St, l_380]
      refine ⟨⟨⟨by omega, by omega⟩, by omega⟩, ?_⟩
      generalize hτ2 : iu (iu τ' 367 16 (ns R)) 380 (ns R) (np R) = τ2
      have f2 : ∀ a k, ¬ ((a = 367 ∧ k = 16) ∨ a = 380) → τ2 a k = τ' a k := fun a k h => by rw [← hτ2]; simp (disch := omega) only [iu_ne]
      have p2 : τ2 367 13 = np R := (f2 _ _ (by omega)).trans w1
      have s2 : τ2 367 16 = ns R := by rw [← hτ2]; simp (disch := omega) only [iu_ne, iu_eq]
      have A2 : MlA R τ2 (np R) := w3.frame (fun a k _ _ => f2 a k (by omega))
      have R2 : RunM τ2 368 0 R := hR1.frame (fun k => f2 368 k (by omega))
      have S2 : ∀ s, 0 ≤ s → s ≤ ns R → τ2 380 s = bg R s := by
        intro s a1 a2
        by_cases c : s = ns R
        · subst c
          rw [← hτ2, iu_eq]
          by_cases z : rn R = 0
          · have : ns R = 0 := by unfold ns; rw [if_pos (by omega)]
            rw [this, bg_0]
            unfold np
            rw [z, fs_0]
          · rw [bg_ns hw (by omega)]
        · rw [← hτ2, iu_ne (Or.inr c), iu_ne (Or.inl (by omega))]
          exact (w4 s a1 (by omega)).1
      refine ip_mono (Q := fun _ τ3 => (∀ q, 0 ≤ q → q < np R → ((τ3 379 q = 0 ∨ τ3 379 q = 1) ∧ (τ3 379 q ≠ 0 ↔ en R (q + 1)))) ∧ (∀ a k, a ≠ 379 → τ3 a k = τ2 a k)) ?_ ?_
      · refine ip_W (fun s τ3 => 0 ≤ s ∧ s ≤ np R ∧ (∀ q, 0 ≤ q → q < s → ((τ3 379 q = 0 ∨ τ3 379 q = 1) ∧ (τ3 379 q ≠ 0 ↔ en R (q + 1)))) ∧ (∀ a k, a ≠ 379 → τ3 a k = τ2 a k)) (fun s _ => (np R - s).toNat) ?_ ⟨Int.le_refl _, hnp, fun q a1 a2 => by omega, fun a k _ => rfl⟩
        intro s τ3 ⟨g0, g1, gE, gf⟩
        rw [ip_B, ip_Gt, gf 367 13 (by omega), p2]
        by_cases c1 : np R ≤ s
        · have e : s = np R := by omega
          subst e
          rw [ip_ifT c1, ip_P]
          exact ⟨gE, gf⟩
        · have A := A2 s g0 (by omega)
          obtain ⟨t1, t2, t3, t4⟩ := pS_in hw g0 (by omega : s < np R)
          have hbs := bg_in hw (pS R s + 1)
          rw [ip_ifF c1, ip_B, ip_Ld, m_11, l_378]
          refine ⟨⟨by omega, by omega⟩, ?_⟩
          rw [gf 378 s (by omega), A.2.2.2.2.2, ip_A]
          refine ⟨⟨by omega, by omega⟩, ?_⟩
          rw [ip_B, ip_Ld, l_380]
          refine ⟨⟨by omega, by omega⟩, ?_⟩
          rw [gf 380 _ (by omega), S2 _ (by omega) (by omega), ip_B]
          refine ip_mono (Q := fun r τ4 => τ4 = τ3 ∧ ((r = 1 ∧ en R (s + 1)) ∨ (r = 0 ∧ ¬ en R (s + 1)))) ?_ ?_
          · rw [ip_B, ip_A]
            refine ⟨⟨by omega, by omega⟩, ?_⟩
            rw [en_piece hw g0 (by omega)]
            by_cases d : s + 1 = bg R (pS R s + 1)
            · rw [ip_ifT d, ip_P]
              simp only [Sum.elim_inl]
              rw [ip_P]
              exact ⟨rfl, Or.inl ⟨rfl, Or.inl d⟩⟩
            · rw [ip_ifF d, ip_B]
              refine ip_MmayEnd hw (R2.frame (fun k => gf 368 k (by omega))) g0 (by omega) ((gf 373 s (by omega)).trans A.1) ((gf 374 s (by omega)).trans A.2.1) (fun r hr => ?_)
              rcases hr with ⟨q1, q2⟩ | ⟨q1, q2⟩
              · rw [q1, ip_ifF (by omega), ip_P]
                simp only [Sum.elim_inl]
                rw [ip_P]
                exact ⟨rfl, Or.inl ⟨rfl, Or.inr q2⟩⟩
              · rw [q1, ip_ifT rfl, ip_P]
                simp only [Sum.elim_inr]
                rw [ip_P]
                exact ⟨rfl, Or.inr ⟨rfl, fun q => q.elim d q2⟩⟩
          · intro r τ4 ⟨e4, hr⟩
            subst e4
            simp only [ip_A, ip_B, ip_Sz, ip_P, m_12, l_379]
            refine ⟨⟨⟨⟨by omega, by omega⟩, by omega⟩, by omega⟩, ⟨by omega, by omega⟩, ?_⟩
            simp only [Sum.elim_inl]
            refine ⟨⟨by omega, by omega, fun q a1 a2 => ?_, fun a k h => (iu_ne (Or.inl h)).trans (gf a k h)⟩, by omega⟩
            by_cases c : q = s
            · subst c
              rw [iu_eq]
              rcases hr with ⟨q1, q2⟩ | ⟨q1, q2⟩
              · exact ⟨Or.inr q1, fun _ => q2, fun _ => by omega⟩
              · exact ⟨Or.inl q1, fun q => absurd q1 q, fun q => absurd q q2⟩
            · rw [iu_ne (Or.inr c)]
              exact gE q a1 (by omega)
      · intro _ τ3 ⟨E3, f3⟩
        have A3 : MlA R τ3 (np R) := A2.frame (fun a k _ _ => f3 a k (by omega))
        refine ip_laysSums hw ((f3 _ _ (by omega)).trans p2) A3 (fun τ4 hS f4 => ?_)
        rw [ip_P]
        have f : ∀ a k, a ≠ 379 → ¬ (383 ≤ a ∧ a ≤ 386) → τ4 a k = τ2 a k := fun a k h1 h2 => (f4 a k h2).trans (f3 a k h1)
        refine hQ τ4 ⟨(f _ _ (by omega) (by omega)).trans p2, (f _ _ (by omega) (by omega)).trans s2, A3.frame (fun a k _ _ => f4 a k (by omega)), hS, fun q a1 a2 => ?_, fun s a1 a2 => ?_, fun s a1 a2 => ?_, fun b a1 a2 => ?_⟩ (fun a k h => ?_)
        · rw [f4 379 q (by omega)]; exact E3 q a1 a2
        · rw [f 380 s (by omega) (by omega)]; exact S2 s a1 a2
        · rw [f 381 s (by omega) (by omega), f2 381 s (by omega)]; exact (w4 s a1 (by omega)).2
        · rw [f 382 b (by omega) (by omega), f2 382 b (by omega)]; exact w5 b a1 a2
        · have h2 := h
          unfold mlw at h
          rw [f a k (by omega) (by omega), f2 a k (by omega)]
          exact w6 a k h2
