/-! ===== the class's table of what the rest bears ===== -/
noncomputable def bv (R : aRun) (s h k p : Int) : Int := @ite Int (en R p) (Classical.propDecidable _) (be R s h k.toNat p) (-1)
theorem bv_in {R : aRun} (hw : WF R) {s h k p : Int} (h0 : 0 ≤ p) (hh : 0 ≤ h) (hh2 : h ≤ 2000) (hk : 0 ≤ k) (hk5 : k ≤ 5) : -1 ≤ bv R s h k p ∧ bv R s h k p ≤ 10000 := by
  have a1 := be_ge (R := R) (s := s) (h := h) (p := p) (k := k.toNat)
  have a2 := be_le hw (s := s) (h := h) (p := p) (k := k.toNat) h0 hh hh2
  unfold bv
  split
  · omega
  · omega
def FtM (R : aRun) (ft : Nat) (τ : iMem) : Prop := τ ft 5 = -1 ∨ ((0 ≤ τ ft 5 ∧ τ ft 5 < ns R) ∧ (0 ≤ τ ft 6 ∧ τ ft 6 ≤ 2000) ∧ (0 ≤ τ ft 7 ∧ τ ft 7 ≤ 5) ∧ ∀ k p, 0 ≤ k → k ≤ τ ft 7 → bg R (τ ft 5) ≤ p → p ≤ bg R (τ ft 5 + 1) → τ (ft + 2 + k.toNat) p = bv R (τ ft 5) (τ ft 6) k p)
/-- what measuring writes -/
def mw (ft a : Nat) (k : Int) : Prop := (a = ft ∧ 5 ≤ k ∧ k ≤ 7) ∨ (ft + 2 ≤ a ∧ a ≤ ft + 7)
theorem FlB.frame {R : aRun} {fl : Nat} {τ τ' : iMem} (h : FlB R fl τ) (hf : ∀ a k, fl ≤ a → a ≤ fl + 16 → τ' a k = τ a k) : FlB R fl τ' := by
  obtain ⟨h1, h2, h3, h4, h5⟩ := h
  refine ⟨(hf _ _ (by omega) (by omega)).trans h1, (hf _ _ (by omega) (by omega)).trans h2, h3.frame (hf _ _ (by omega) (by omega)) (fun a k _ _ _ _ _ _ => hf a k (by omega) (by omega)), fun b a1 a2 => (hf _ _ (by omega) (by omega)).trans (h4 b a1 a2), fun s a1 a2 => ?_⟩
  rw [hf _ s (by omega) (by omega), hf (fl + 14) s (by omega) (by omega), hf (fl + 15) s (by omega) (by omega)]
  exact h5 s a1 a2
theorem FlE.frame {R : aRun} {fl : Nat} {τ τ' : iMem} (h : FlE R fl τ) (hf : ∀ a k, fl ≤ a → a ≤ fl + 16 → τ' a k = τ a k) : FlE R fl τ' := by
  intro e h1 h2 h3
  rw [hf _ _ (by omega) (by omega)]
  exact h e h1 h2 h3
theorem bg_step {R : aRun} (hw : WF R) (s : Int) : 0 ≤ bg R s ∧ bg R s ≤ bg R (s + 1) ∧ bg R (s + 1) ≤ np R := ⟨(bg_in hw s).1, bg_mono hw (by omega), (bg_in hw (s + 1)).2⟩
theorem rn_pos {R : aRun} {s : Int} (h0 : 0 ≤ s) (hs : s < ns R) : 0 < rn R := by
  unfold ns at hs
  by_cases c : rn R ≤ 0
  · rw [if_pos c] at hs; omega
  · omega
set_option maxHeartbeats 2000000 in
theorem ip_bearsFrom {τ : iMem} {ft fl ru nx : Nat} {R : aRun} {p s h : Int} {k : Nat} {Q : Int → iMem → Prop} (hf : isFit ft fl ru) (hw : WF R) (hB : FlB R fl τ) (hE : FlE R fl τ) (hR : FtR R ft τ) (h0 : 0 ≤ s) (hs : s < ns R) (hp : bg R s ≤ p) (hp2 : p ≤ bg R (s + 1)) (hh : 0 ≤ h) (hh2 : h ≤ 2000) (hk : k ≤ 4) (h6 : τ ft 6 = h) (hl : iLen nx = 91) (hnx : ∀ e, p ≤ e → e ≤ bg R (s + 1) → τ nx e = bv R s h k e)
    (hQ : Q (be R s h (k + 1) p) τ) : ip (iz_Fitter_bearsFrom ft p (bg R (s + 1)) nx) Q τ := by
  have hff := ft_F hf
  have h90 := hw.2.2.2
  have hb := bg_step hw s
  have hn := rn_pos h0 hs
  have hs5 := hw.2.1.2.2.2.2.2.1
  have hs6 := hw.2.1.2.2.2.2.2.2.1
  obtain ⟨-, -, BA, -, -⟩ := id hB
  unfold iz_Fitter_bearsFrom
  rw [ip_ifF (by omega), ip_ifF (by omega), ip_ifF (by omega), ip_ifT (by omega), ft_1 hf, fl_12 hff, fl_8 hff, fl_11 hff, fl_15 hff, fl_13 hff, fl_14 hff]
  simp only [ip_B, ip_Ld, fl_l9 hff, fl_l5 hff, fl_l8 hff]
  refine ⟨⟨by omega, by omega⟩, ⟨by omega, by omega⟩, ⟨by omega, by omega⟩, ?_⟩
  rw [ip_P]
  have T0 := BA.2.1 p (by omega) (by omega)
  have ex4 : p < bg R (s + 1) → ibSub (ibAdd (τ (fl + 9) p) (τ (fl + 5) p)) (τ (fl + 8) p) = hT R p + pG R p - pT R p := by
    intro hlt
    have A := BA.1 p (by omega) (by omega)
    have a1 := hT_in hw (p := p) (by omega) (by omega)
    have a2 := pG_in hw (p := p) (by omega) (by omega)
    have a3 := pT_in hw (p := p) (by omega) (by omega)
    rw [T0.1, A.2.2.2.1, A.2.2.2.2.2.2, ibAdd_eq ⟨by omega, by omega⟩ ⟨by omega, by omega⟩ ⟨by omega, by omega⟩, ibSub_eq ⟨by omega, by omega⟩ ⟨by omega, by omega⟩ ⟨by omega, by omega⟩]
  generalize ibSub (ibAdd (τ (fl + 9) p) (τ (fl + 5) p)) (τ (fl + 8) p) = x4 at ex4
  rw [be_s] at hQ
  refine ip_W (fun s7 τ' => τ' = τ ∧ p ≤ s7.2 ∧ s7.2 ≤ bg R (s + 1) + 1 ∧ s7.1 = mx (cand R h (be R s h k) p) p s7.2) (fun s7 _ => (bg R (s + 1) + 1 - s7.2).toNat) ?_ ⟨rfl, Int.le_refl _, by omega, (mx_0 (Int.le_refl _)).symm⟩
  intro s7 τ' ⟨e, g0, g1, gm⟩
  obtain ⟨best, to⟩ := s7
  subst e
  dsimp only at g0 g1 gm ⊢
  by_cases c1 : bg R (s + 1) < to
  · have : to = bg R (s + 1) + 1 := by omega
    rw [ip_ifT c1, ip_P]
    simp only [Sum.elim_inr, ip_P]
    rw [gm, this]
    exact hQ
  · rw [ip_ifF c1, ip_B, ip_Gt, h6, ip_B]
    have ht := tx_in hw (p := p) (e := to) (by omega) (by omega)
    refine ip_mono (Q := fun r τ'' => τ'' = τ' ∧ r = tx R p to) ?_ ?_
    · by_cases c2 : to = p
      · rw [ip_ifF (by omega), ip_P]
        exact ⟨rfl, by unfold tx; rw [if_pos (by omega)]⟩
      · have T1 := BA.2.1 to (by omega) (by omega)
        have a1 := hT_in hw (p := to) (by omega) (by omega)
        have a2 := hT_in hw (p := p) (by omega) (by omega)
        have a3 := pG_in hw (p := p) (by omega) (by omega)
        have a4 := pT_in hw (p := p) (by omega) (by omega)
        rw [ip_ifT c2, ip_B, ip_Ld, fl_l9 hff]
        refine ⟨⟨by omega, by omega⟩, ?_⟩
        rw [T1.1, ex4 (by omega), ip_A, ip_P]
        refine ⟨⟨by omega, by omega⟩, rfl, ?_⟩
        unfold tx
        rw [if_neg (by omega)]
        omega
    · intro r τ' ⟨e, er⟩
      subst e er
      rw [ip_A]
      refine ⟨⟨by omega, by omega⟩, ?_⟩
      rw [ip_B, ip_P]
      by_cases c3 : 0 ≤ h - tx R p to
      · rw [ip_ifT c3, ip_B, ip_Ld, fl_l12 hff]
        refine ⟨⟨by omega, by omega⟩, ?_⟩
        rw [ip_B]
        have hmx := mx_ge (f := cand R h (be R s h k) p) (a := p) (b := to)
        have hmxle : best ≤ 10000 := by
          rw [gm]
          refine mx_le (by omega) (fun e h1 h2 => ?_)
          have hbe := be_le hw (s := s) (h := h) (p := e) (k := k) (by omega) hh hh2
          unfold cand
          split
          · rename_i q
            have := mi_le hw (p := p) (e := e) (lv := be R s h k e) (by omega) (by omega) q.1 hh hh2
            omega
          · omega
        refine ip_mono (Q := fun r τ'' => τ'' = τ' ∧ r = (if best < cand R h (be R s h k) p to then cand R h (be R s h k) p to else best)) ?_ ?_
        · have hen := hE to (by omega) (by omega) hn
          by_cases c4 : τ' (fl + 12) to = 0
          · rw [ip_ifT c4, ip_P]
            have : cand R h (be R s h k) p to = -1 := by unfold cand; exact if_neg (fun q => hen.mpr q.2 c4)
            rw [this, if_neg (by omega)]
            exact ⟨rfl, rfl⟩
          · have ent := hen.mp c4
            have ebv : bv R s h k to = be R s h k to := by unfold bv; exact if_pos ent
            rw [ip_ifF c4, ip_B, ip_Ld, hl]
            refine ⟨⟨by omega, by omega⟩, ?_⟩
            rw [hnx to g0 (by omega), ebv]
            have hbg := be_ge (R := R) (s := s) (h := h) (p := to) (k := k)
            have hbe := be_le hw (s := s) (h := h) (p := to) (k := k) (by omega) hh hh2
            by_cases c5 : be R s h k to = -1
            · rw [ip_ifT c5, ip_P]
              have : cand R h (be R s h k) p to = -1 := by unfold cand; exact if_neg (fun q => by omega)
              rw [this, if_neg (by omega)]
              exact ⟨rfl, rfl⟩
            · have ecd : cand R h (be R s h k) p to = mi R p to (be R s h k to) h := by unfold cand; exact if_pos ⟨by omega, ent⟩
              have T1 := BA.2.1 to (by omega) (by omega)
              have ho := ol_in hw (p := p) (e := to) (by omega) (by omega)
              have eol : lT R to - lT R p = ol R p to := by
                unfold ol
                by_cases z : to ≤ p
                · rw [if_pos z, show to = p by omega]; omega
                · rw [if_neg z]
              have hli := li_le hw.2.1 c3
              have hli0 := li_in hw.2.1 (room := h - tx R p to) (by omega)
              have b1 := lT_in hw (p := to) (by omega) (by omega)
              have b2 := lT_in hw (p := p) (by omega) (by omega)
              rw [ip_ifF c5]
              simp only [ip_B, ip_Ld, ip_A, ip_P, fl_l10 hff]
              refine ⟨⟨by omega, by omega⟩, ⟨by omega, by omega⟩, ⟨by rw [T1.2.1, T0.2.1]; omega, by rw [T1.2.1, T0.2.1]; omega⟩, ?_⟩
              rw [T1.2.1, T0.2.1, eol, ip_Gt, hR.1]
              refine ip_mono (Q := fun (r : Unit ⊕ Int) τ'' => τ'' = τ' ∧ ((r = Sum.inl () ∧ li R (h - tx R p to) = 0) ∨ r = Sum.inr (li R (h - tx R p to)))) ?_ ?_
              · unfold li
                by_cases c6 : h - tx R p to < rs R 6
                · rw [ip_ifT c6, ip_P, if_pos c6]
                  exact ⟨rfl, Or.inl ⟨rfl, rfl⟩⟩
                · rw [ip_ifF c6, if_neg c6]
                  simp only [ip_B, ip_Gt]
                  rw [hR.2, ip_ifT (by omega)]
                  simp only [ip_B, ip_Gt, ip_A, ip_Dv, ip_P]
                  rw [hR.1, hR.2]
                  exact ⟨⟨by omega, by omega⟩, ⟨by omega, by omega⟩, trivial, Or.inr rfl⟩
              · intro r0 τ2 ⟨e, e0⟩
                subst e
                have hx : ∃ ln, ln = li R (h - tx R p to) ∧ ∀ (Q' : Int → iMem → Prop), ip (Sum.elim (fun s20 => iP 0) iP r0) Q' τ2 ↔ Q' ln τ2 := by
                  rcases e0 with ⟨q1, q2⟩ | q1
                  · exact ⟨0, q2.symm, fun Q' => by rw [q1]; simp only [Sum.elim_inl, ip_P]⟩
                  · exact ⟨_, rfl, fun Q' => by rw [q1]; simp only [Sum.elim_inr, ip_P]⟩
                obtain ⟨ln, el, hx⟩ := hx
                rw [hx]
                rw [← el] at hli hli0
                have hll := ll_in hw (p := to) (by omega) (by omega)
                have hll1 := hll.1
                have hll2 := hll.2.1
                have L1 := (BA.2.1 to (by omega) (by omega)).2.2
                have h25 : ip (if ¬ln = 0 then iB (iLd nx to) fun x26 => iA (ln + x26) fun y5 => iP y5 else iP 0) (fun r τ3 => τ3 = τ2 ∧ r = (if ln = 0 then 0 else ln + be R s h k to)) τ2 := by
                  by_cases z : ln = 0
                  · rw [ip_ifF (by omega), ip_P, if_pos z]; exact ⟨rfl, rfl⟩
                  · rw [ip_ifT z, if_neg z, ip_B, ip_Ld, hl, hnx to g0 (by omega), ebv]
                    refine ⟨⟨by omega, by omega⟩, ?_⟩
                    rw [ip_A, ip_P]
                    exact ⟨⟨by omega, by omega⟩, rfl, rfl⟩
                refine ip_mono h25 ?_
                intro v25 τ3 ⟨e, e25⟩
                subst e
                have hv25 : 0 ≤ v25 ∧ v25 ≤ 20000 := by rw [e25]; split <;> omega
                have h27 : ip (if ol R p to ≤ 0 then iP v25 else iB (iLd nx to) fun x28 => iB (iLd (fl + 11) to) fun x29 => iA (x29 - 1) fun y6 => iB (iz_Math_min x28 y6) fun x30 => iA (ln - ol R p to) fun y7 => iA (y7 + x30) fun y8 => iB (iP y8) fun x31 => iP x31) (fun r τ4 => τ4 = τ3 ∧ r = (if ol R p to ≤ 0 then v25 else ln - ol R p to + (if ll R to - 1 < be R s h k to then ll R to - 1 else be R s h k to))) τ3 := by
                  by_cases z : ol R p to ≤ 0
                  · rw [ip_ifT z, ip_P, if_pos z]; exact ⟨rfl, rfl⟩
                  · rw [ip_ifF z, if_neg z]
                    simp only [ip_B, ip_Ld, ip_A, ip_P, ip_min, hl, fl_l11 hff]
                    rw [hnx to g0 (by omega), ebv, L1]
                    have hmn : -1 ≤ (if ll R to - 1 < be R s h k to then ll R to - 1 else be R s h k to) ∧ (if ll R to - 1 < be R s h k to then ll R to - 1 else be R s h k to) ≤ 20 := by split <;> omega
                    exact ⟨⟨by omega, by omega⟩, ⟨by omega, by omega⟩, ⟨by omega, by omega⟩, ⟨by omega, by omega⟩, ⟨by omega, by omega⟩, trivial, rfl⟩
                refine ip_mono h27 ?_
                intro v27 τ4 ⟨e, e27⟩
                subst e
                rw [ip_max]
                refine ⟨rfl, ?_⟩
                rw [ecd]
                have key : (v27 = mi R p to (be R s h k to) h) ∨ (v27 ≤ -1 ∧ mi R p to (be R s h k to) h = -1) := by
                  rw [e27]
                  unfold mi
                  rw [← el]
                  by_cases z : ol R p to ≤ 0
                  · rw [if_pos z, if_pos z, if_neg (show ¬ h < tx R p to + 0 by omega), if_pos (show ol R p to = 0 by omega), e25]
                    refine Or.inl ?_
                    split <;> split <;> omega
                  · have := ll_ol hw (p := p) (e := to) (by omega) (by omega) (by omega)
                    rw [if_neg z, if_neg z]
                    by_cases y : h < tx R p to + rs R 6
                    · have hz : ln = 0 := by rw [el]; unfold li; rw [if_pos (by omega)]
                      refine Or.inr ⟨?_, if_pos y⟩
                      split <;> omega
                    · rw [if_neg y, if_neg (show ¬ ol R p to = 0 by omega)]
                      refine Or.inl ?_
                      split <;> split <;> omega
                rcases key with q | ⟨q1, q2⟩
                · rw [q]
                · rw [q2, if_neg (show ¬ best < v27 by omega), if_neg (show ¬ best < -1 by omega)]
        · intro r τ'' ⟨e, er⟩
          subst e
          have hcl : cand R h (be R s h k) p to ≤ 20000 := by
            have hbe := be_le hw (s := s) (h := h) (p := to) (k := k) (by omega) hh hh2
            unfold cand
            split
            · rename_i q
              have := mi_le hw (p := p) (e := to) (lv := be R s h k to) (by omega) (by omega) q.1 hh hh2
              omega
            · omega
          rw [ip_A]
          refine ⟨⟨by omega, by omega⟩, ?_⟩
          rw [ip_B, ip_P, ip_P]
          simp only [Sum.elim_inl]
          refine ⟨⟨trivial, by omega, by omega, ?_⟩, by omega⟩
          rw [er, mx_s g0, gm]
      · rw [ip_ifF c3, ip_P]
        simp only [Sum.elim_inl, Sum.elim_inr, ip_P]
        rw [gm, ← mx_stop (b := bg R (s + 1) + 1) g0 (by omega) (fun e h1 h2 => ?_)]
        · exact hQ
        · have hm := hT_mono hw (a := to) (b := e) (by omega) h1 (by omega)
          have htx : tx R p to ≤ tx R p e := by
            unfold tx
            by_cases z : to ≤ p
            · rw [if_pos z]
              have := tx_in hw (p := p) (e := e) (by omega) (by omega)
              unfold tx at this
              exact this.1
            · rw [if_neg z, if_neg (by omega)]
              omega
          have hb0 : 0 ≤ (if ol R p e ≤ 0 then 0 else rs R 6) := by split <;> omega
          unfold cand
          split
          · unfold mi
            rw [if_pos (show h < tx R p e + (if ol R p e ≤ 0 then 0 else rs R 6) by omega)]
            exact Int.le_refl _
          · exact Int.le_refl _
set_option maxHeartbeats 2000000 in
theorem ip_measure {τ : iMem} {ft fl ru : Nat} {R : aRun} {s h K : Int} {Q : Unit → iMem → Prop} (hf : isFit ft fl ru) (hw : WF R) (hB : FlB R fl τ) (hE : FlE R fl τ) (hR : FtR R ft τ) (hM : FtM R ft τ) (h0 : 0 ≤ s) (hs : s < ns R) (hh : 0 ≤ h) (hh2 : h ≤ 2000) (hK5 : K ≤ 5)
    (hQ : ∀ τ', τ' ft 5 = s → τ' ft 6 = h → K ≤ τ' ft 7 → FtM R ft τ' → (∀ a k, ¬ mw ft a k → τ' a k = τ a k) → Q () τ') : ip (iz_Fitter_measure ft s K h) Q τ := by
  have hff := ft_F hf
  have hfe := ft_e hf
  have hfm := ft_m hf
  have h90 := hw.2.2.2
  have hb := bg_step hw s
  have hns := ns_in hw
  have hn16 := hw.1.2
  have hn := rn_pos h0 hs
  obtain ⟨-, -, BA, -, Bs⟩ := id hB
  have S := Bs s h0 hs
  have row : ∀ k : Int, 0 ≤ k → k ≤ 5 → ft + 2 + k.toNat ≤ ft + 7 := fun k _ _ => by omega
  unfold iz_Fitter_measure
  rw [ft_1 hf, fl_16 hff, fl_17 hff, ip_B, ip_at (by omega) (by rw [fl_l13 hff]; omega), S.1, ip_B, ip_max, ip_B, ip_at (by omega) (by rw [fl_l14 hff]; omega), S.2.1, ip_B, ip_min, ip_B, ip_Gt]
  have e1 : (if 0 < bg R s then bg R s else 0) = bg R s := by split <;> omega
  have e2 : (if bg R (s + 1) < 90 then bg R (s + 1) else 90) = bg R (s + 1) := by split <;> omega
  rw [e1, e2, ip_B]
  refine ip_mono (Q := fun _ τ' => τ' ft 5 = s ∧ τ' ft 6 = h ∧ (0 ≤ τ' ft 7 ∧ τ' ft 7 ≤ 5) ∧ (∀ k p, 0 ≤ k → k ≤ τ' ft 7 → bg R s ≤ p → p ≤ bg R (s + 1) → τ' (ft + 2 + k.toNat) p = bv R s h k p) ∧ (∀ a k, ¬ mw ft a k → τ' a k = τ a k)) ?_ ?_
  · have fresh : ip (iB (iPt ft 5 s) fun _ => iB (iPt ft 6 h) fun _ => iB (iPt ft 7 0) fun _ => iW (S := Int) (α := Unit) (fun s9 => if bg R (s + 1) < s9 then iP (Sum.inr ()) else iB (iLr (qm_rf ft 4) 0) fun r10 => iB (α := Int) (if ¬ s9 = bg R (s + 1) then iP (-1) else iP 0) fun s11 => iB (iSt r10 s9 s11) fun _ => iA (s9 + 1) fun y1 => iB (iP y1) fun x12 => iP (Sum.inl x12)) (bg R s)) (fun _ τ' => τ' ft 5 = s ∧ τ' ft 6 = h ∧ (0 ≤ τ' ft 7 ∧ τ' ft 7 ≤ 5) ∧ (∀ k p, 0 ≤ k → k ≤ τ' ft 7 → bg R s ≤ p → p ≤ bg R (s + 1) → τ' (ft + 2 + k.toNat) p = bv R s h k p) ∧ (∀ a k, ¬ mw ft a k → τ' a k = τ a k)) τ := by
      simp only [ip_B, ip_Pt]
      refine ip_W (fun q τ' => bg R s ≤ q ∧ q ≤ bg R (s + 1) + 1 ∧ τ' ft 5 = s ∧ τ' ft 6 = h ∧ τ' ft 7 = 0 ∧ (∀ p, bg R s ≤ p → p < q → τ' (ft + 2) p = bv R s h 0 p) ∧ (∀ a k, ¬ mw ft a k → τ' a k = τ a k)) (fun q _ => (bg R (s + 1) + 1 - q).toNat) ?_ ⟨Int.le_refl _, by omega, ?_, ?_, ?_, fun p h1 h2 => by omega, fun a k h => ?_⟩
      · intro q τ' ⟨g0, g1, g5, g6, g7, gr, gf⟩
        by_cases c : bg R (s + 1) < q
        · rw [ip_ifT c, ip_P]
          simp only [Sum.elim_inr]
          refine ⟨g5, g6, by omega, fun k p k0 k1 p0 p1 => ?_, gf⟩
          have : k = 0 := by omega
          subst this
          exact gr p p0 (by omega)
        · have hr := ft_row hf (k := 0) (by omega) (by omega)
          rw [ip_ifF c, ip_B, ip_Lr, ft_4 hf, ft_l1 hf]
          refine ⟨⟨by omega, by omega⟩, ?_⟩
          rw [hr.1, ip_B, ip_ifP, ip_B, ip_St, hr.2]
          refine ⟨⟨⟨by omega, by omega⟩, by omega⟩, ?_⟩
          rw [ip_A]
          refine ⟨⟨by omega, by omega⟩, ?_⟩
          rw [ip_B, ip_P, ip_P]
          simp only [Sum.elim_inl]
          refine ⟨⟨by omega, by omega, ?_, ?_, ?_, fun p p0 p1 => ?_, fun a k hk => ?_⟩, by omega⟩
          · rw [iu_ne (Or.inl (by omega))]; exact g5
          · rw [iu_ne (Or.inl (by omega))]; exact g6
          · rw [iu_ne (Or.inl (by omega))]; exact g7
          · by_cases d : p = q
            · subst d
              rw [show ft + 2 + (0 : Int).toNat = ft + 2 from rfl, iu_eq]
              unfold bv
              rw [show (0 : Int).toNat = 0 from rfl, be_0]
              by_cases z : p = bg R (s + 1)
              · rw [if_neg (by omega), if_pos (by rw [z]; exact en_finish h0 hs), if_pos z]
              · rw [if_pos z, if_neg z]
                split <;> rfl
            · rw [iu_ne (Or.inr d)]
              exact gr p p0 (by omega)
          · have h2 := hk
            unfold mw at hk
            rw [iu_ne (Or.inl (by rw [show ft + 2 + (0 : Int).toNat = ft + 2 from rfl]; omega))]
            exact gf a k h2
      · simp (disch := omega) only [iu_ne, iu_eq]
      · simp (disch := omega) only [iu_ne, iu_eq]
      · rw [iu_eq]
      · unfold mw at h
        simp (disch := omega) only [iu_ne]
    rw [ip_B]
    by_cases c1 : s = τ ft 5
    · rw [ip_ifF (by omega), ip_B, ip_Gt]
      by_cases c2 : h = τ ft 6
      · rw [ip_ifT c2, ip_P]
        simp only [Sum.elim_inr, ip_P]
        rcases hM with q | ⟨q1, q2, q3, q4⟩
        · omega
        · refine ⟨c1.symm, c2.symm, q3, fun k p k0 k1 p0 p1 => ?_, fun _ _ _ => trivial⟩
          have := q4 k p k0 k1
          rw [← c1, ← c2] at this
          exact this p0 p1
      · rw [ip_ifF c2, ip_P]
        simp only [Sum.elim_inl]
        exact fresh
    · rw [ip_ifT c1, ip_P]
      simp only [Sum.elim_inl]
      exact fresh
  · intro _ τ1 ⟨p5, p6, p7, pr, pf⟩
    rw [ip_B]
    refine ip_mono (Q := fun _ τ' => τ' ft 5 = s ∧ τ' ft 6 = h ∧ K ≤ τ' ft 7 ∧ (0 ≤ τ' ft 7 ∧ τ' ft 7 ≤ 5) ∧ (∀ k p, 0 ≤ k → k ≤ τ' ft 7 → bg R s ≤ p → p ≤ bg R (s + 1) → τ' (ft + 2 + k.toNat) p = bv R s h k p) ∧ (∀ a k, ¬ mw ft a k → τ' a k = τ a k)) ?_ (fun _ τ' ⟨g5, g6, gK, g7, gr, gf⟩ => by
      rw [ip_P]
      exact hQ τ' g5 g6 gK (Or.inr ⟨by rw [g5]; exact ⟨h0, hs⟩, by rw [g6]; exact ⟨hh, hh2⟩, g7, by rw [g5, g6]; exact gr⟩) gf)
    refine ip_W (fun _ τ' => τ' ft 5 = s ∧ τ' ft 6 = h ∧ (0 ≤ τ' ft 7 ∧ τ' ft 7 ≤ 5) ∧ (∀ k p, 0 ≤ k → k ≤ τ' ft 7 → bg R s ≤ p → p ≤ bg R (s + 1) → τ' (ft + 2 + k.toNat) p = bv R s h k p) ∧ (∀ a k, ¬ mw ft a k → τ' a k = τ a k)) (fun _ τ' => (5 - τ' ft 7).toNat) ?_ ⟨p5, p6, p7, pr, pf⟩
    intro _ τ' ⟨g5, g6, g7, gr, gf⟩
    rw [ip_B, ip_Gt]
    by_cases c1 : K ≤ τ' ft 7
    · rw [ip_ifT c1, ip_P]
      exact ⟨g5, g6, c1, g7, gr, gf⟩
    · rw [ip_ifF c1, ip_B, ip_Gt, ip_ifF (by omega), ip_B, ip_Gt, ip_B, ip_Lr, ft_4 hf, ft_l1 hf]
      refine ⟨⟨by omega, by omega⟩, ?_⟩
      generalize hm : τ' ft 7 = m at *
      have hr1 := ft_row hf (k := m) (by omega) (by omega)
      have hr2 := ft_row hf (k := m + 1) (by omega) (by omega)
      rw [hr1.1, ip_B, ip_Gt, hm, ip_A]
      refine ⟨⟨by omega, by omega⟩, ?_⟩
      rw [ip_B, ip_Pt, ip_B, ip_Gt, iu_eq, ip_B, ip_Lr, ft_l1 hf]
      refine ⟨⟨by omega, by omega⟩, ?_⟩
      rw [hr2.1, ip_B]
      have en1 : ft + 2 + (m + 1).toNat = ft + 3 + m.toNat := by omega
      refine ip_mono (Q := fun _ τ2 => (∀ p, bg R s ≤ p → p ≤ bg R (s + 1) → τ2 (ft + 2 + (m + 1).toNat) p = bv R s h (m + 1) p) ∧ (∀ a k, a ≠ ft + 2 + (m + 1).toNat → τ2 a k = iu τ' ft 7 (m + 1) a k)) ?_ ?_
      · refine ip_W (fun q τ2 => bg R s ≤ q ∧ q ≤ bg R (s + 1) + 1 ∧ (∀ p, bg R s ≤ p → p < q → τ2 (ft + 2 + (m + 1).toNat) p = bv R s h (m + 1) p) ∧ (∀ a k, a ≠ ft + 2 + (m + 1).toNat → τ2 a k = iu τ' ft 7 (m + 1) a k)) (fun q _ => (bg R (s + 1) + 1 - q).toNat) ?_ ⟨Int.le_refl _, by omega, fun p h1 h2 => by omega, fun a k _ => rfl⟩
        intro q τ2 ⟨w0, w1, wr, wf⟩
        by_cases c2 : bg R (s + 1) < q
        · rw [ip_ifT c2, ip_P]
          exact ⟨fun p h1 h2 => wr p h1 (by omega), wf⟩
        · have keep : ∀ a k, ¬ mw ft a k → τ2 a k = τ a k := by
            intro a k hk
            have h2 := hk
            unfold mw at hk
            rw [wf a k (by omega), iu_ne (by omega)]
            exact gf a k h2
          have kB : FlB R fl τ2 := hB.frame (fun a k _ _ => keep a k (by unfold mw; omega))
          have kE : FlE R fl τ2 := hE.frame (fun a k _ _ => keep a k (by unfold mw; omega))
          have kR : FtR R ft τ2 := ⟨(keep _ _ (by unfold mw; omega)).trans hR.1, (keep _ _ (by unfold mw; omega)).trans hR.2⟩
          rw [ip_ifF c2, ip_B, ip_Ld, fl_15 hff, fl_l12 hff]
          refine ⟨⟨by omega, by omega⟩, ?_⟩
          rw [ip_B]
          have hen := kE q (by omega) (by omega) hn
          refine ip_mono (Q := fun r τ3 => τ3 = τ2 ∧ r = bv R s h (m + 1) q) ?_ ?_
          · by_cases c3 : τ2 (fl + 12) q = 0
            · rw [ip_ifT c3, ip_P]
              refine ⟨rfl, ?_⟩
              unfold bv
              rw [if_neg (fun z => hen.mpr z c3)]
            · rw [ip_ifF c3, ip_B]
              refine ip_bearsFrom (k := m.toNat) hf hw kB kE kR h0 hs w0 (by omega) hh hh2 (by omega) ?_ hr1.2 (fun e h1 h2 => ?_) ?_
              · rw [wf ft 6 (by omega), iu_ne (Or.inr (by omega))]; exact g6
              · rw [wf _ _ (by omega), iu_ne (Or.inl (by omega)), gr m e (by omega) (by omega) (by omega) h2]
                unfold bv
                rfl
              · rw [ip_P]
                refine ⟨rfl, ?_⟩
                unfold bv
                rw [if_pos (hen.mp c3), show (m + 1).toNat = m.toNat + 1 by omega]
          · intro r τ3 ⟨e, er⟩
            subst e
            have hbv := bv_in hw (s := s) (h := h) (k := m + 1) (p := q) (by omega) hh hh2 (by omega) (by omega)
            rw [ip_B, ip_St, hr2.2]
            refine ⟨⟨⟨by omega, by omega⟩, by omega⟩, ?_⟩
            rw [ip_A]
            refine ⟨⟨by omega, by omega⟩, ?_⟩
            rw [ip_B, ip_P, ip_P]
            simp only [Sum.elim_inl]
            refine ⟨⟨by omega, by omega, fun p h1 h2 => ?_, fun a k ha => (iu_ne (Or.inl ha)).trans (wf a k ha)⟩, by omega⟩
            by_cases d : p = q
            · subst d
              rw [iu_eq]; exact er
            · rw [iu_ne (Or.inr d)]
              exact wr p h1 (by omega)
      · intro _ τ2 ⟨w1, wf⟩
        rw [ip_P]
        simp only [Sum.elim_inl]
        have e7 : τ2 ft 7 = m + 1 := by rw [wf ft 7 (by omega), iu_eq]
        refine ⟨⟨?_, ?_, by omega, fun k p k0 k1 p0 p1 => ?_, fun a k hk => ?_⟩, by omega⟩
        · rw [wf ft 5 (by omega), iu_ne (Or.inr (by omega))]; exact g5
        · rw [wf ft 6 (by omega), iu_ne (Or.inr (by omega))]; exact g6
        · by_cases d : k = m + 1
          · subst d
            exact w1 p p0 p1
          · rw [wf _ _ (by omega), iu_ne (Or.inl (by omega))]
            exact gr k p k0 (by omega) p0 p1
        · have h2 := hk
          unfold mw at hk
          rw [wf a k (by omega), iu_ne (by omega)]
          exact gf a k h2
