/-! ===== the object reads: BLOCKS, SETTINGS, all ===== -/
def tsB (told ts : Int) : Prop := (0 ≤ told ∧ told < 131072) ∧ ∀ j, 0 ≤ j → j < 8 → bt told j = bt ts j
def PB (L : Int) (T : Int → Int) (N : Nat) (τ0 : iMem) (ts : Int) (W : Int ⊕ (Int × aRun)) (τ : iMem) : Prop :=
  (∃ f, W = Sum.inl f ∧ Dd N τ0 f τ) ∨ (∃ q R told, W = Sum.inr (q, R) ∧ tsB told ts ∧ Lv L T N τ0 q told R τ) ∨ (∃ q R, W = Sum.inr (q, R) ∧ (sn L T q = 1 ∨ sn L T q = 3) ∧ Dd N τ0 (8 * q + 1) τ)
def PP (L : Int) (T : Int → Int) (N : Nat) (τ0 : iMem) (W : Int ⊕ (Int × aRun × Int)) (τ : iMem) : Prop :=
  (∃ f, W = Sum.inl f ∧ Dd N τ0 f τ) ∨ (∃ q R ts told, W = Sum.inr (q, R, ts) ∧ tsB told ts ∧ Lv L T N τ0 q told R τ) ∨ (∃ q R ts, W = Sum.inr (q, R, ts) ∧ (sn L T q = 1 ∨ sn L T q = 3) ∧ Dd N τ0 (8 * q + 1) τ)
section
variable {L : Int} {T : Int → Int} {N : Nat} {τ0 τ : iMem} {q told f kd n sp ts : Int} {R : aRun} {B : Int → Int}
theorem ip_mostHigh {Q : Int → iMem → Prop} : ip (iz_Teller_mostHigh kd) Q τ ↔ Q (hiK kd) τ := by
  unfold iz_Teller_mostHigh hiK
  by_cases c1 : kd = 1
  · rw [ip_ifT c1, ip_P, if_pos c1]
  · rw [ip_ifF c1, if_neg c1]
    by_cases c2 : kd = 2
    · rw [ip_ifT c2, ip_P, if_pos c2]
    · rw [ip_ifF c2, if_neg c2]
      by_cases c3 : kd = 3
      · rw [ip_ifT c3, ip_P, if_neg (by omega)]
      · rw [ip_ifF c3]
        by_cases c4 : kd = 4
        · rw [ip_ifT c4, ip_P, if_pos c4]
        · rw [ip_ifF c4, ip_P, if_neg c4]
theorem ip_addL {Q : Int → iMem → Prop} (h : Lv L T N τ0 q told R τ) (n0 : 0 ≤ rn R) (n1 : rn R < 16) (hQ : ∀ τ', Lv L T N τ0 q told (RB R (newB kd 0 0 0)) τ' → Q (rn R) τ') : ip (iz_Run_add 7 kd) Q τ := by
  obtain ⟨d1, ⟨i, i1, i2, i3⟩, d2, hC, d4⟩ := h
  unfold iz_Run_add
  rw [ip_B, ip_Gt, hC.1, ip_ifF (by omega), ip_B]
  refine ip_mono (Q := fun _ τ1 => (∀ w, 0 ≤ w → w < 16 → τ1 9 (16 * rn R + w) = 0) ∧ ∀ a k, ¬ (a = 9 ∧ 16 * rn R ≤ k ∧ k < 16 * rn R + 16) → τ1 a k = τ a k) ?_ (fun _ τ1 g => ?_)
  · refine ip_W (fun j τ1 => (0 ≤ j ∧ j ≤ 16) ∧ (∀ w, 0 ≤ w → w < j → τ1 9 (16 * rn R + w) = 0) ∧ (∀ a k, ¬ (a = 9 ∧ 16 * rn R ≤ k ∧ k < 16 * rn R + 16) → τ1 a k = τ a k)) (fun j _ => (16 - j).toNat) ?_ ⟨⟨Int.le_refl _, by omega⟩, fun w w0 w1 => by omega, fun _ _ _ => rfl⟩
    intro j τ1 ⟨g1, g2, g3⟩
    by_cases d : 16 ≤ j
    · rw [ip_ifT d, ip_P]
      simp only [Sum.elim_inr]
      exact ⟨fun w w0 w1 => g2 w w0 (by omega), g3⟩
    · rw [ip_ifF d, ip_B, ip_putCell isRun_7 (by omega) n0 n1 g1.1 (by omega), ip_A]
      refine ⟨⟨by omega, by omega⟩, ?_⟩
      rw [ip_B, ip_P, ip_P]
      simp only [Sum.elim_inl]
      refine ⟨⟨⟨by omega, by omega⟩, fun w w0 w1 => ?_, fun a k z => ?_⟩, by omega⟩
      · by_cases z : w = j
        · rw [z, show 16 * rn R + j = rn R * 16 + j by omega, iu_eq]
        · rw [iu_ne (Or.inr (by omega))]; exact g2 w w0 (by omega)
      · rw [iu_ne (by omega)]; exact g3 a k z
  · rw [ip_B, ip_putCell isRun_7 (by omega) n0 n1 (by omega) (by omega), ip_B, ip_Gt, iu_ne (Or.inl (by omega)), g.2 _ _ (by omega), hC.1, ip_A]
    refine ⟨⟨by omega, by omega⟩, ?_⟩
    rw [ip_B, ip_Pt, ip_P]
    have hf : ∀ a k, ¬ ((a = 7 ∧ k = 0) ∨ (a = 9 ∧ 16 * rn R ≤ k ∧ k < 16 * rn R + 16)) → iu (iu τ1 (7 + 2) (rn R * 16 + 0) kd) 7 0 (rn R + 1) a k = τ a k := fun a k z => by rw [iu_ne (by omega), iu_ne (by omega), g.2 a k (by omega)]
    refine hQ _ ⟨(hf _ _ (by omega)).trans d1, ⟨i, (hf _ _ (by omega)).trans i1, i2, i3⟩, (hf _ _ (by omega)).trans d2, ⟨iu_eq, fun k k0 k1 => (hf _ _ (by omega)).trans (hC.2.1 k k0 k1), fun c u c0 c1 u0 u1 => ?_⟩, fun a k z => (hf a k (by omega)).trans (d4 a k z)⟩
    have en : rn (RB R (newB kd 0 0 0)) = rn R + 1 := rfl
    rw [en] at c1
    rw [RB_rc]
    by_cases z : c = rn R
    · rw [if_pos z, z, iu_ne (Or.inl (by omega))]
      by_cases y : u = 0
      · rw [y, show 16 * rn R + 0 = rn R * 16 + 0 by omega, iu_eq]; rfl
      · rw [iu_ne (Or.inr (by omega)), g.1 u u0 u1]
        unfold newB
        omega
    · rw [if_neg z, hf _ _ (by omega)]
      exact hC.2.2 c u c0 (by omega) u0 u1
theorem newB_1 {n h t v : Int} : bup (newB kd n h t) 1 v = newB kd v h t := by
  funext u
  unfold bup newB
  omega
theorem newB_2 {n h t v : Int} : bup (newB kd n h t) 2 v = newB kd n v t := by
  funext u
  unfold bup newB
  omega
theorem newB_3 {n h t v : Int} : bup (newB kd n h t) 3 v = newB kd n h v := by
  funext u
  unfold bup newB
  omega
theorem ip_readBlock {Q : Unit → iMem → Prop} {q0 : Int} (hW : TaW L T) (hK : TK L T N τ0) (hw : WF R) (hk : 0 ≤ kd ∧ kd ≤ 4) (h : Lv L T N τ0 q told R τ) (q00 : 0 ≤ q0) (q01 : q0 ≤ 400) (ht : tsB told ts)
    (hQ : ∀ τ', PB L T N τ0 ts (if 16 ≤ rn R ∨ ((kd = 1 ∨ kd = 2) ∧ 90 ≤ np R) then Sum.inl (8 * q0 + 3) else blT L T R kd q) τ' → Q () τ') : ip (iz_Teller_readBlock 6 kd q0) Q τ := by
  have hL := hW.1
  have hq := h.at hW hK
  have hnp := hw.2.2.2
  have hnp0 := np_ge hw
  have n0 := hw.1.1
  generalize hW0 : (if 16 ≤ rn R ∨ ((kd = 1 ∨ kd = 2) ∧ 90 ≤ np R) then Sum.inl (8 * q0 + 3) else blT L T R kd q) = W0 at hQ
  unfold iz_Teller_readBlock
  rw [u_1, ip_B]
  refine ip_mono (Q := fun v τ1 => τ1 = τ ∧ ((v = 1 ∧ (kd = 1 ∨ kd = 2)) ∨ (v = 0 ∧ ¬ (kd = 1 ∨ kd = 2)))) ?_ (fun s1 τ1 e1 => ?_)
  · rw [ip_B]
    by_cases c1 : kd = 1
    · rw [ip_ifT c1, ip_P]
      simp only [Sum.elim_inl, ip_P]
      exact ⟨trivial, Or.inl ⟨trivial, Or.inl c1⟩⟩
    · by_cases c2 : kd = 2
      · rw [ip_ifF c1, ip_ifF (fun z => z c2), ip_P]
        simp only [Sum.elim_inl, ip_P]
        exact ⟨trivial, Or.inl ⟨trivial, Or.inr c2⟩⟩
      · rw [ip_ifF c1, ip_ifT c2, ip_P]
        simp only [Sum.elim_inr, ip_P]
        exact ⟨trivial, Or.inr ⟨trivial, by omega⟩⟩
  · obtain ⟨et, e1⟩ := e1
    subst et
    rw [ip_B]
    refine ip_allPieces isRun_7 hw h.2.2.2.1 ?_
    rw [ip_B, ip_Gt, h.2.2.2.1.1, ip_B]
    have full : (16 ≤ rn R ∨ ((kd = 1 ∨ kd = 2) ∧ 90 ≤ np R)) → ip (iB (iz_Teller_wrong 6 q0 3) fun _ => iP ()) Q τ1 := by
      intro z
      rw [ip_B]
      refine ip_wrong h q00 q01 (by omega) (by omega) (fun τ2 hd => ?_)
      rw [ip_P]
      exact hQ τ2 (Or.inl ⟨_, by rw [← hW0, if_pos z], hd⟩)
    by_cases c16 : 16 ≤ rn R
    · rw [ip_ifT c16, ip_P]
      simp only [Sum.elim_inl]
      exact full (Or.inl c16)
    · rw [ip_ifF c16, ip_B]
      by_cases c90 : (kd = 1 ∨ kd = 2) ∧ 90 ≤ np R
      · rw [ip_ifF (by omega), ip_ifF (by omega), ip_P]
        simp only [Sum.elim_inr, ip_P, Sum.elim_inl]
        exact full (Or.inr c90)
      · rw [if_neg (by omega)] at hW0
        have test : ∀ {Q : (Unit ⊕ (Unit ⊕ Unit)) → iMem → Prop}, Q (Sum.inl ()) τ1 → ip (if s1 = 0 then iP (Sum.inl ()) else if np R < 90 then iP (Sum.inl ()) else iP (Sum.inr (Sum.inl ()))) Q τ1 := by
          intro Q hq
          by_cases z : s1 = 0
          · rw [ip_ifT z, ip_P]; exact hq
          · rw [ip_ifF z, ip_ifT (by omega), ip_P]; exact hq
        refine test ?_
        simp only [Sum.elim_inl]
        have n1 : rn R < 16 := by omega
        -- its BLOCK
        rw [ip_B]
        refine ip_addL h n0 n1 (fun τ2 h2 => ?_)
        rw [ip_B]
        refine ip_mono (Q := fun _ τ3 => (∃ f, W0 = Sum.inl f ∧ Dd N τ0 f τ3) ∨ ∃ q t, W0 = blN L T R kd q t ∧ (0 ≤ q ∧ q ≤ L) ∧ (0 ≤ t ∧ t ≤ 9) ∧ Lv L T N τ0 q told (RB R (newB kd 0 0 t)) τ3) ?_ (fun _ τ3 g3 => ?_)
        · by_cases c3 : kd = 3
          · rw [ip_ifF (fun z => z c3), ip_B]
            refine ip_num hW hK h2 (fun e τ3 h3 => ?_) (fun e τ3 hd => ?_)
            · have hn := numF_ok e hq.1
              have hq3 := h3.at hW hK
              rw [ip_B]
              refine ip_setB h3 n0 n1 (by omega) (by omega) (fun τ4 h4 => ?_)
              rw [ip_P]
              rw [newB_3] at h4
              exact Or.inr ⟨_, _, by rw [← hW0]; unfold blT; rw [if_pos c3, if_neg (fun z => z e)], hq3, hn.2, h4⟩
            · rw [ip_B]
              refine ip_setD hd n0 n1 (by omega) (by omega) (fun τ4 hd4 => ?_)
              rw [ip_P]
              exact Or.inl ⟨_, by rw [← hW0]; unfold blT; rw [if_pos c3, if_pos e], hd4⟩
          · rw [ip_ifT c3, ip_P]
            exact Or.inr ⟨q, 0, by rw [← hW0]; unfold blT; rw [if_neg c3], hq, ⟨by omega, by omega⟩, h2⟩
        · rw [ip_B]
          refine ip_mono (Q := fun v τ4 => τ4 = τ3 ∧ v = s1) ?_ (fun s10 τ4 e4 => ?_)
          · by_cases z : s1 = 0
            · rw [ip_ifT z, ip_P]; exact ⟨rfl, z.symm⟩
            · rw [ip_ifF z, ip_P]; exact ⟨rfl, by omega⟩
          · obtain ⟨et, e4⟩ := e4
            subst et e4
            rw [ip_B]
            refine ip_mono (Q := fun v τ5 => (∃ f, W0 = Sum.inl f ∧ Dd N τ0 f τ5) ∨ ∃ q t, W0 = blH L T R kd q v t ∧ (0 ≤ q ∧ q ≤ L) ∧ (0 ≤ t ∧ t ≤ 9) ∧ Lv L T N τ0 q told (RB R (newB kd 0 0 t)) τ5) ?_ (fun v τ5 g5 => ?_)
            · rw [ip_B]
              by_cases c03 : kd = 0 ∨ kd = 3
              · have test2 : ∀ {Q : (Unit ⊕ Int) → iMem → Prop}, Q (Sum.inl ()) τ4 → ip (if kd = 0 then iP (Sum.inl ()) else if ¬ kd = 3 then iP (Sum.inr s10) else iP (Sum.inl ())) Q τ4 := by
                  intro Q hq
                  by_cases z : kd = 0
                  · rw [ip_ifT z, ip_P]; exact hq
                  · rw [ip_ifF z, ip_ifF (by omega), ip_P]; exact hq
                refine test2 ?_
                simp only [Sum.elim_inl]
                rw [ip_B]
                rcases g3 with ⟨g, g1, g2⟩ | ⟨q, t, g1, g2, g3, g4⟩
                · refine ip_placeD hW hK g2 (fun v => ?_)
                  rw [ip_B]
                  refine ip_numD g2 ?_
                  rw [ip_A]
                  refine ⟨⟨by omega, by omega⟩, ?_⟩
                  rw [ip_ifT (by omega), ip_P]
                  exact Or.inl ⟨g, g1, g2⟩
                · have eN : blN L T R kd q t = if numF L T q 1 30 ≠ -1 then Sum.inl (numF L T q 1 30) else if 90 < np R + va L T q then Sum.inl (8 * q + 3) else blH L T R kd (nx L T q) (va L T q) t := by
                    unfold blN
                    rw [if_pos c03]
                  rw [ip_place hW hK g4, ip_B]
                  refine ip_num hW hK g4 (fun e τ5 h5 => ?_) (fun e τ5 hd => ?_)
                  · have hn := numF_ok e g2.1
                    have hq5 := h5.at hW hK
                    rw [ip_A]
                    refine ⟨⟨by omega, by omega⟩, ?_⟩
                    by_cases z : np R + va L T q ≤ 90
                    · rw [ip_ifT z, ip_P]
                      exact Or.inr ⟨_, t, by rw [g1, eN, if_neg (fun z => z e), if_neg (by omega)], hq5, g3, h5⟩
                    · rw [ip_ifF z, ip_B]
                      refine ip_wrong h5 g2.1 (by omega) (by omega) (by omega) (fun τ6 hd => ?_)
                      rw [ip_P]
                      exact Or.inl ⟨_, by rw [g1, eN, if_neg (fun z => z e), if_pos (by omega)], hd⟩
                  · rw [ip_A]
                    refine ⟨⟨by omega, by omega⟩, ?_⟩
                    rw [ip_ifT (by omega), ip_P]
                    exact Or.inl ⟨_, by rw [g1, eN, if_pos e], hd⟩
              · rw [ip_ifF (by omega), ip_ifT (by omega), ip_P]
                simp only [Sum.elim_inr, ip_P]
                rcases g3 with ⟨g, g1, g2⟩ | ⟨q, t, g1, g2, g3, g4⟩
                · exact Or.inl ⟨g, g1, g2⟩
                · refine Or.inr ⟨q, t, ?_, g2, g3, g4⟩
                  rw [g1]
                  unfold blN
                  rw [if_neg c03]
                  by_cases z : kd = 4
                  · rw [if_pos z, show s10 = 0 by omega]
                  · rw [if_neg z, show s10 = 1 by omega]
            · rw [ip_B]
              refine ip_mono (Q := fun _ τ6 => (∃ f, W0 = Sum.inl f ∧ Dd N τ0 f τ6) ∨ ∃ q t, W0 = blH L T R kd q v t ∧ (0 ≤ q ∧ q ≤ L) ∧ (0 ≤ t ∧ t ≤ 9) ∧ Lv L T N τ0 q told (RB R (newB kd v 0 t)) τ6) ?_ (fun _ τ6 g6 => ?_)
              · rcases g5 with ⟨g, g1, g2⟩ | ⟨q, t, g1, g2, g3, g4⟩
                · exact ip_setD g2 n0 n1 (by omega) (by omega) (fun τ6 hd => Or.inl ⟨g, g1, hd⟩)
                · exact ip_setB g4 n0 n1 (by omega) (by omega) (fun τ6 h6 => Or.inr ⟨q, t, g1, g2, g3, by rw [newB_1] at h6; exact h6⟩)
              · rw [ip_B, ip_mostHigh, ip_B]
                have hh := hiK_in (kd := kd)
                rcases g6 with ⟨g, g1, g2⟩ | ⟨q, t, g1, g2, g3, g4⟩
                · refine ip_numD g2 ?_
                  rw [ip_B]
                  refine ip_setD g2 n0 n1 (by omega) (by omega) (fun τ7 hd => ?_)
                  have out := hQ τ7 (Or.inl ⟨g, g1, hd⟩)
                  by_cases c4 : kd = 4
                  · rw [ip_ifT c4, ip_P]
                    simp only [Sum.elim_inr, ip_P]
                    exact out
                  · rw [ip_ifF c4, ip_B]
                    unfold iz_Teller_readWords
                    rw [ip_B, ip_Gt, ip_B, ip_Pt, ip_B]
                    have hd7 : Dd N τ0 g (iu τ7 6 7 (ibAnd (τ7 6 7) 255)) := by
                      obtain ⟨d1, d2, ⟨i, i1, i2⟩, d3⟩ := hd
                      exact ⟨(iu_ne (Or.inr (by omega))).trans d1, d2, ⟨i, (iu_ne (Or.inr (by omega))).trans i1, i2⟩, fun a k z => (iu_ne (by omega)).trans (d3 a k z)⟩
                    refine ip_mono (Q := fun _ τ8 => Dd N τ0 g τ8) ?_ (fun _ τ8 hd8 => ?_)
                    · refine ip_W (fun _ τ8 => Dd N τ0 g τ8) (fun _ _ => 0) ?_ hd7
                      intro s τ8 hd8
                      rw [ip_B, ip_Gt, hd8.1, ip_ifT (by have := hd8.2.1; omega), ip_P]
                      exact hd8
                    · rw [ip_P, ip_P]
                      simp only [Sum.elim_inr, ip_P]
                      exact hQ τ8 (Or.inl ⟨g, g1, hd8⟩)
                · have eH : blH L T R kd q v t = if numF L T q 1 (hiK kd) ≠ -1 then Sum.inl (numF L T q 1 (hiK kd)) else if kd = 4 then Sum.inr (nx L T q, RB R (newB kd v (va L T q) t)) else Sum.elim Sum.inl (fun s => Sum.inr (s.1, RB R s.2.1)) (wds L T kd 400 (nx L T q) (newB kd v (va L T q) t) 0) := rfl
                  refine ip_num hW hK g4 (fun e τ7 h7 => ?_) (fun e τ7 hd => ?_)
                  · have hn := numF_ok e g2.1
                    rw [if_neg (fun z => z e)] at eH
                    rw [ip_B]
                    refine ip_setB h7 n0 n1 (by omega) (by omega) (fun τ8 h8 => ?_)
                    rw [newB_2] at h8
                    by_cases c4 : kd = 4
                    · rw [ip_ifT c4, ip_P]
                      simp only [Sum.elim_inr, ip_P]
                      exact hQ τ8 (Or.inr (Or.inl ⟨_, _, told, by rw [g1, eH, if_pos c4], ht, h8⟩))
                    · rw [if_neg c4] at eH
                      rw [ip_ifF c4, ip_B]
                      refine ip_words (ts := ts) hW hK h8 (okB_new (by omega) (by omega) g3.1 g3.2) ⟨rfl, rfl⟩ ht.1.1 ht.1.2 ht.2 n0 n1 (fun τ9 hp => ?_)
                      rw [ip_P]
                      simp only [Sum.elim_inr, ip_P]
                      refine hQ τ9 ?_
                      rcases hp with ⟨f, p1, p2⟩ | ⟨q', B', sp', told', p1, p2, p3⟩ | ⟨q', B', sp', p1, p2, p3⟩
                      · exact Or.inl ⟨f, by rw [g1, eH, p1]; rfl, p2⟩
                      · exact Or.inr (Or.inl ⟨q', RB R B', told', by rw [g1, eH, p1]; rfl, ⟨p2.1, p2.2.1⟩, p3⟩)
                      · exact Or.inr (Or.inr ⟨q', RB R B', by rw [g1, eH, p1]; rfl, p2, p3⟩)
                  · rw [if_pos e] at eH
                    rw [ip_B]
                    refine ip_setD hd n0 n1 (by omega) (by omega) (fun τ8 hd8 => ?_)
                    by_cases c4 : kd = 4
                    · rw [ip_ifT c4, ip_P]
                      simp only [Sum.elim_inr, ip_P]
                      exact hQ τ8 (Or.inl ⟨_, by rw [g1, eH], hd8⟩)
                    · rw [ip_ifF c4, ip_B]
                      unfold iz_Teller_readWords
                      rw [ip_B, ip_Gt, ip_B, ip_Pt, ip_B]
                      have hd9 : Dd N τ0 (numF L T q 1 (hiK kd)) (iu τ8 6 7 (ibAnd (τ8 6 7) 255)) := by
                        obtain ⟨d1, d2, ⟨i, i1, i2⟩, d3⟩ := hd8
                        exact ⟨(iu_ne (Or.inr (by omega))).trans d1, d2, ⟨i, (iu_ne (Or.inr (by omega))).trans i1, i2⟩, fun a k z => (iu_ne (by omega)).trans (d3 a k z)⟩
                      refine ip_mono (Q := fun _ τ9 => Dd N τ0 (numF L T q 1 (hiK kd)) τ9) ?_ (fun _ τ9 hd9 => ?_)
                      · refine ip_W (fun _ τ9 => Dd N τ0 (numF L T q 1 (hiK kd)) τ9) (fun _ _ => 0) ?_ hd9
                        intro s τ9 hd9
                        rw [ip_B, ip_Gt, hd9.1, ip_ifT (by have := hd9.2.1; omega), ip_P]
                        exact hd9
                      · rw [ip_P, ip_P]
                        simp only [Sum.elim_inr, ip_P]
                        exact hQ τ9 (Or.inl ⟨_, by rw [g1, eH], hd9⟩)
theorem ip_readSetting {Q : Unit → iMem → Prop} {k q0 : Int} (hW : TaW L T) (hK : TK L T N τ0) (hS : InvS τ0) (h : Lv L T N τ0 q told R τ) (q00 : 0 ≤ q0) (q01 : q0 ≤ 400) (k0 : 0 ≤ k) (k1 : k < 8) (ht : tsB told ts) (ht0 : 0 ≤ ts) (ht1 : ts < 256)
    (hQ : ∀ τ', PP L T N τ0 (if bt ts k = true then Sum.inl (8 * q0 + 3) else if numF L T q (lwV k) (hiV k) ≠ -1 then Sum.inl (numF L T q (lwV k) (hiV k)) else Sum.inr (nx L T q, RS R k (va L T q), ibOr ts (ibShl 1 (ibAnd k 31)))) τ' → Q () τ') : ip (iz_Teller_readSetting 6 k q0) Q τ := by
  have hq := h.at hW hK
  unfold iz_Teller_readSetting
  rw [ip_B]
  refine ip_once h ht.1.1 ht.1.2 k0 (by omega) q00 q01 (fun e τ1 h1 => ?_) (fun e τ1 hd => ?_)
  · have ebt : ¬ bt ts k = true := fun z => by rw [ht.2 k k0 k1, z] at e; exact absurd e (by decide)
    rw [if_neg ebt] at hQ
    have s1 := (hS k k0 k1).1
    have s2 := (hS k k0 k1).2
    rw [ip_B, ip_at k0 (by rw [l_406]; omega), h1.2.2.2.2 406 k (by omega), s1, ip_B, ip_at k0 (by rw [l_407]; omega), h1.2.2.2.2 407 k (by omega), s2, ip_B]
    refine ip_num hW hK h1 (fun e2 τ2 h2 => ?_) (fun e2 τ2 hd => ?_)
    · rw [if_neg (fun z => z e2)] at hQ
      have hn := numF_ok e2 hq.1
      rw [ip_B, ip_Gt, h2.1, ip_ifF (by omega), u_1, ip_B]
      unfold iz_Run_put
      rw [ip_B]
      refine ip_takes (fun k k0 k1 => by rw [h2.2.2.2.2 406 k (by omega), h2.2.2.2.2 407 k (by omega)]; exact hS k k0 k1) (fun r hr => ?_)
      rcases hr with ⟨r1, r2⟩ | ⟨r1, r2⟩
      · rw [ip_ifF (by omega), ip_B, ip_St, rr_1 isRun_7, rl_1 isRun_7]
        refine ⟨⟨⟨by omega, by omega⟩, by omega⟩, ?_⟩
        rw [ip_P, ip_P]
        obtain ⟨d1, ⟨i, i1, i2, i3⟩, d2, d3, d4⟩ := h2
        have st := ib_set (x := told) (i := k) (n := 17) (by omega) ht.1.1 (by exact ht.1.2) k0 (by omega)
        have st2 := ib_set (x := ts) (i := k) (n := 8) (by omega) ht0 (by exact ht1) k0 (by omega)
        refine hQ _ (Or.inr (Or.inl ⟨_, _, _, _, rfl, ⟨⟨st.1.1, st.1.2⟩, fun j j0 j1 => ?_⟩, ⟨(iu_ne (Or.inl (by omega))).trans d1, ⟨i, (iu_ne (Or.inl (by omega))).trans i1, i2, i3⟩, (iu_ne (Or.inl (by omega))).trans d2, RS_rc d3, fun a k z => (iu_ne (by omega)).trans (d4 a k z)⟩⟩))
        rw [st.2 j j0, st2.2 j j0, ht.2 j j0 j1]
      · exact absurd ⟨⟨k0, k1⟩, hn.2⟩ r2
    · rw [if_pos e2] at hQ
      rw [ip_B, ip_Gt, hd.1, ip_ifT (by have := hd.2.1; omega), ip_P]
      exact hQ τ2 (Or.inl ⟨_, rfl, hd⟩)
  · have ebt : bt ts k = true := by rw [← ht.2 k k0 k1]; exact e
    rw [if_pos ebt] at hQ
    rw [ip_B, ip_at k0 (by rw [l_406]; omega), ip_B, ip_at k0 (by rw [l_407]; omega), ip_B]
    refine ip_numD hd ?_
    rw [ip_B, ip_Gt, hd.1, ip_ifT (by have := hd.2.1; omega), ip_P]
    exact hQ τ1 (Or.inl ⟨_, rfl, hd⟩)
theorem ip_readPart {Q : Unit → iMem → Prop} (hW : TaW L T) (hK : TK L T N τ0) (hS : InvS τ0) (hw : WF R) (h : Lv L T N τ0 q told R τ) (ht : tsB told ts) (ht0 : 0 ≤ ts) (ht1 : ts < 256)
    (hQ : ∀ τ', PP L T N τ0 (prt L T q R ts) τ' → Q () τ') : ip (iz_Teller_readPart 6) Q τ := by
  have hq := h.at hW hK
  have hL := hW.1
  have hwd := wd_in (L := L) (T := T) (q := q)
  unfold iz_Teller_readPart
  rw [ip_B, ip_place hW hK h, ip_B]
  have bad : ∀ {τ1 : iMem} {q' told' : Int} {R' : aRun}, Lv L T N τ0 q' told' R' τ1 → (sn L T q ≠ 0 ∨ wd L T q = -1 ∨ 13 ≤ wd L T q) → ip (iB (iz_Teller_wrong 6 q 1) fun _ => iP ()) Q τ1 := by
    intro τ1 q' told' R' h1 z
    rw [ip_B]
    refine ip_wrong h1 hq.1 (by omega) (by omega) (by omega) (fun τ2 hd => ?_)
    rw [ip_P]
    refine hQ τ2 (Or.inl ⟨_, ?_, hd⟩)
    unfold prt
    rw [if_pos z]
  refine ip_word hW hK h (fun c0 τ1 h1 => ?_) (fun c0 => ?_)
  · have hq1 := h1.at hW hK
    rw [ip_B]
    by_cases c1 : wd L T q = -1
    · rw [ip_ifT c1, ip_P]
      simp only [Sum.elim_inl]
      exact bad h1 (Or.inr (Or.inl c1))
    · rw [ip_ifF c1]
      by_cases c13 : wd L T q < 13
      · have eP : prt L T q R ts = if wd L T q < 8 then (if bt ts (wd L T q) = true then Sum.inl (8 * q + 3) else if numF L T (nx L T q) (lwV (wd L T q)) (hiV (wd L T q)) ≠ -1 then Sum.inl (numF L T (nx L T q) (lwV (wd L T q)) (hiV (wd L T q))) else Sum.inr (nx L T (nx L T q), RS R (wd L T q) (va L T (nx L T q)), ibOr ts (ibShl 1 (ibAnd (wd L T q) 31))))
            else if 16 ≤ rn R ∨ ((wd L T q = 9 ∨ wd L T q = 10) ∧ 90 ≤ np R) then Sum.inl (8 * q + 3) else Sum.elim Sum.inl (fun s => Sum.inr (s.1, s.2, ts)) (blT L T R (wd L T q - 8) (nx L T q)) := by
          unfold prt
          rw [if_neg (by omega)]
        rw [ip_ifT c13]
        by_cases c8 : 8 ≤ wd L T q
        · rw [if_neg (by omega)] at eP
          rw [ip_ifT c8, ip_A]
          refine ⟨⟨by omega, by omega⟩, ?_⟩
          rw [ip_B]
          refine ip_readBlock (ts := ts) hW hK hw ⟨by omega, by omega⟩ h1 hq.1 (by omega) ht (fun τ2 hp => ?_)
          rw [ip_P]
          simp only [Sum.elim_inr, ip_P]
          refine hQ τ2 ?_
          rw [eP]
          by_cases y : 16 ≤ rn R ∨ ((wd L T q = 9 ∨ wd L T q = 10) ∧ 90 ≤ np R)
          · rw [if_pos y]
            rw [if_pos (by omega)] at hp
            rcases hp with ⟨f, p1, p2⟩ | ⟨q', R', told', p1, p2, p3⟩ | ⟨q', R', p1, p2, p3⟩
            · cases p1; exact Or.inl ⟨_, rfl, p2⟩
            · cases p1
            · cases p1
          · rw [if_neg y]
            rw [if_neg (by omega)] at hp
            rcases hp with ⟨f, p1, p2⟩ | ⟨q', R', told', p1, p2, p3⟩ | ⟨q', R', p1, p2, p3⟩
            · exact Or.inl ⟨f, by rw [p1]; rfl, p2⟩
            · exact Or.inr (Or.inl ⟨q', R', ts, told', by rw [p1]; rfl, p2, p3⟩)
            · exact Or.inr (Or.inr ⟨q', R', ts, by rw [p1]; rfl, p2, p3⟩)
        · rw [if_pos (by omega)] at eP
          rw [ip_ifF c8, ip_B]
          refine ip_readSetting hW hK hS h1 hq.1 (by omega) (by omega) (by omega) ht ht0 ht1 (fun τ2 hp => ?_)
          rw [ip_P]
          simp only [Sum.elim_inr, ip_P]
          refine hQ τ2 ?_
          rw [eP]
          exact hp
      · rw [ip_ifF c13, ip_P]
        simp only [Sum.elim_inl]
        exact bad h1 (Or.inr (Or.inr (by omega)))
  · rw [ip_B, ip_ifT rfl, ip_P]
    simp only [Sum.elim_inl]
    exact bad h (Or.inl c0)
end
