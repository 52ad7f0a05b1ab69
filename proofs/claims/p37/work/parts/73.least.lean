/-! ===== the least height ===== -/
def isL (R : aRun) (s p c v : Int) : Prop := (0 ≤ v ∧ v ≤ 2000) ∧ c ≤ be R s v (rs R 0).toNat p ∧ ∀ h, 0 ≤ h → h < v → be R s h (rs R 0).toNat p < c
theorem isL_one {R : aRun} {s p c v w : Int} (h1 : isL R s p c v) (h2 : isL R s p c w) : v = w := by
  by_cases a : v < w
  · have := h2.2.2 v h1.1.1 a
    have := h1.2.1
    omega
  · by_cases b : w < v
    · have := h1.2.2 w h2.1.1 b
      have := h2.2.1
      omega
    · omega
/-- the least height up to one, -2 without -/
noncomputable def lst (R : aRun) (s p c top : Int) : Int := @ite Int (c ≤ be R s top (rs R 0).toNat p) (Classical.propDecidable _) (sI (fun h => @ite Int (c ≤ be R s h (rs R 0).toNat p) (Classical.propDecidable _) 0 1) top) (-2)
theorem lst_no {R : aRun} {s p c top : Int} (h : be R s top (rs R 0).toNat p < c) : lst R s p c top = -2 := by
  unfold lst
  exact if_neg (by omega)
theorem lst_is {R : aRun} (hw : WF R) {s p c top v : Int} (h0 : 0 ≤ p) (hv : isL R s p c v) (ht : v ≤ top) : lst R s p c top = v := by
  obtain ⟨h1, h2, h3⟩ := hv
  have h4 := be_mono hw (s := s) (k := (rs R 0).toNat) (p := p) h0 ht
  unfold lst
  rw [if_pos (show c ≤ be R s top (rs R 0).toNat p by omega)]
  refine sI_step h1.1 ht (fun i a1 a2 => ?_) (fun i a1 a2 => ?_)
  · have := h3 i a1 a2
    exact if_neg (by omega)
  · have := be_mono hw (s := s) (k := (rs R 0).toNat) (p := p) h0 a1
    exact if_pos (by omega)
/-! ===== the other one ===== -/
section
variable {τ : iMem} {R : aRun} {s a c h top : Int} {Q : Int → iMem → Prop}
end
/-! ===== the class: what is known ===== -/
def FtK (R : aRun) (ft : Nat) (τ : iMem) : Prop := (τ ft 9 = 0 ∨ τ ft 9 = 1) ∧ (τ ft 9 = 0 → ∀ j, 0 ≤ j → j < 1820 → τ (ft + 8) j = -1) ∧ ∀ p c, 0 ≤ p → p < np R → 0 ≤ c → c < 20 → τ (ft + 8) (20 * p + c) = -1 ∨ isL R (pS R p) p c (τ (ft + 8) (20 * p + c))
def FtI (R : aRun) (ft : Nat) (τ : iMem) : Prop := FtR R ft τ ∧ FtM R ft τ ∧ FtK R ft τ
def fw (ft a : Nat) (k : Int) : Prop := (a = ft ∧ 5 ≤ k ∧ k ≤ 9) ∨ (ft + 2 ≤ a ∧ a ≤ ft + 8)
theorem pS_one {R : aRun} (hw : WF R) {s p : Int} (h1 : bg R s ≤ p) (h2 : p < bg R (s + 1)) : pS R p = s := by
  have hb := bg_step hw s
  obtain ⟨-, -, h5, h6⟩ := pS_in hw (p := p) (by omega) (by omega)
  by_cases c : s < pS R p
  · have := bg_mono hw (show s + 1 ≤ pS R p by omega)
    omega
  · by_cases d : pS R p < s
    · have := bg_mono hw (show pS R p + 1 ≤ s by omega)
      omega
    · omega
theorem ip_bearsAt {τ : iMem} {ft fl ru : Nat} {K e : Int} {Q : Int → iMem → Prop} (hf : isFit ft fl ru) (h0 : 0 ≤ K) (h5 : K ≤ 5) (he : 0 ≤ e) (he2 : e < 91) : ip (iz_Fitter_bearsAt ft K e) Q τ ↔ Q (τ (ft + 2 + K.toNat) e) τ := by
  have hr := ft_row hf h0 h5
  unfold iz_Fitter_bearsAt
  rw [ip_ifF (by omega), ip_ifF (by omega), ip_B, ip_Lr, ft_4 hf, ft_l1 hf]
  refine (and_iff_right ⟨by omega, by omega⟩).trans ?_
  rw [hr.1, ip_B, ip_at he (by rw [hr.2]; exact he2), ip_P]
theorem FtR.frame {R : aRun} {ft : Nat} {τ τ' : iMem} (h : FtR R ft τ) (hf : ∀ k, k = 2 ∨ k = 3 → τ' ft k = τ ft k) : FtR R ft τ' := ⟨(hf 2 (Or.inl rfl)).trans h.1, (hf 3 (Or.inr rfl)).trans h.2⟩
theorem FtK.frame {R : aRun} {ft : Nat} {τ τ' : iMem} (h : FtK R ft τ) (h9 : τ' ft 9 = τ ft 9) (hf : ∀ k, τ' (ft + 8) k = τ (ft + 8) k) : FtK R ft τ' := by
  obtain ⟨h1, h2, h3⟩ := h
  refine ⟨by rw [h9]; exact h1, fun q j a b => ?_, fun p c a b d e => ?_⟩
  · rw [hf]; exact h2 (by rw [← h9]; exact q) j a b
  · rw [hf]; exact h3 p c a b d e
/-- measured: what the table has -/
theorem FtM_at {R : aRun} (hw : WF R) {ft : Nat} {τ : iMem} {s h K e : Int} (hM : FtM R ft τ) (h5 : τ ft 5 = s) (h6 : τ ft 6 = h) (hs : 0 ≤ s) (hK0 : 0 ≤ K) (hK : K ≤ τ ft 7) (h1 : bg R s ≤ e) (h2 : e ≤ bg R (s + 1)) : τ (ft + 2 + K.toNat) e = bv R s h K e := by
  rcases hM with q | ⟨-, -, -, q⟩
  · omega
  · have := q K e hK0 hK
    rw [h5, h6] at this
    exact this h1 h2
set_option maxHeartbeats 1000000 in
theorem ip_leastFrom {τ : iMem} {ft fl ru : Nat} {R : aRun} {s p c top : Int} {Q : Int → iMem → Prop} (hf : isFit ft fl ru) (hw : WF R) (hC : RunC τ ru R) (hB : FlB R fl τ) (hE : FlE R fl τ) (hI : FtI R ft τ) (h0 : 0 ≤ s) (hs : s < ns R) (hp : bg R s ≤ p) (hp2 : p ≤ bg R (s + 1)) (hen : en R p) (hc : 0 ≤ c) (hc2 : c < 20) (ht : 0 ≤ top) (ht2 : top ≤ 2000)
    (hQ : ∀ τ', FtI R ft τ' → (∀ a k, ¬ fw ft a k → τ' a k = τ a k) → Q (lst R s p c top) τ') : ip (iz_Fitter_leastFrom ft s p c top) Q τ := by
  have hff := ft_F hf
  have hfe := ft_e hf
  have hfa := fl_a hff
  have hfm := ft_m hf
  have hr := fl_r hff
  have hb := bg_step hw s
  have h90 := hw.2.2.2
  have hns := ns_in hw
  have hn := hw.1.2
  have hS0 := hw.2.1.1
  obtain ⟨-, -, -, -, Bs⟩ := id hB
  have S := Bs s h0 hs
  unfold iz_Fitter_leastFrom
  rw [ip_B]
  refine ip_mono (Q := fun r τ' => τ' = τ ∧ ((r = 20 * p + c ∧ p < bg R (s + 1)) ∨ (r = -1 ∧ p = bg R (s + 1)))) ?_ ?_
  · unfold iz_Fitter_slotOf
    rw [ip_B, ip_B, ip_ifF (by omega), ft_1 hf, fl_17 hff, ip_B, ip_at h0 (by rw [fl_l14 hff]; omega), S.2.1]
    by_cases d : bg R (s + 1) ≤ p
    · rw [ip_ifT d, ip_P]
      simp only [Sum.elim_inl, ip_P]
      rw [ip_ifT trivial, ip_P]
      exact ⟨rfl, Or.inr ⟨rfl, by omega⟩⟩
    · rw [ip_ifF d, ip_P]
      simp only [Sum.elim_inr, ip_P]
      rw [ip_ifF (by omega), ip_ifF (by omega), ip_ifF (by omega), ip_A, ip_A, ip_P]
      exact ⟨⟨by omega, by omega⟩, ⟨by omega, by omega⟩, rfl, Or.inl ⟨by omega, by omega⟩⟩
  · intro x1 τ' ⟨e, hx⟩
    subst e
    have hI0 := hI
    obtain ⟨hR, hM, hK⟩ := hI
    rw [ip_B]
    refine ip_mono (Q := fun r τ2 => τ2 = τ' ∧ (r = -1 ∨ (isL R s p c r))) ?_ ?_
    · rcases hx with ⟨q1, q2⟩ | ⟨q1, q2⟩
      · rw [ip_ifT (by omega), ft_8 hf, ip_B, ip_at (by omega) (by rw [ft_l8 hf]; omega), ip_P, q1]
        refine ⟨rfl, ?_⟩
        have := hK.2.2 p c (by omega) (by omega) hc hc2
        rw [pS_one hw hp q2] at this
        exact this
      · rw [ip_ifF (by omega), ip_P]
        exact ⟨rfl, Or.inl rfl⟩
    · intro v τ2 ⟨e, hv⟩
      subst e
      rcases hv with hv | hv
      · rw [ip_ifT hv, ft_0 hf, ip_B, ip_settingC hr hC (by omega) (by omega), ip_B]
        refine ip_measure hf hw hB hE hR hM h0 hs ht ht2 (by omega) (fun τ3 g5 g6 g7 gM gf => ?_)
        rw [ip_B, ip_bearsAt hf (by omega) (by omega) (by omega) (by omega), FtM_at hw gM g5 g6 h0 (by omega) g7 hp hp2]
        have ebv : ∀ h, bv R s h (rs R 0) p = be R s h (rs R 0).toNat p := fun h => by unfold bv; exact if_pos hen
        have kI : ∀ τ4, FtM R ft τ4 → (∀ a k, ¬ mw ft a k → τ4 a k = τ2 a k) → FtI R ft τ4 := fun τ4 h1 h2 => ⟨hR.frame (fun k hk => h2 ft k (by unfold mw; omega)), h1, hK.frame (h2 _ _ (by unfold mw; omega)) (fun k => h2 _ _ (by unfold mw; omega))⟩
        rw [ebv]
        by_cases d : c ≤ be R s top (rs R 0).toNat p
        · rw [ip_ifT d, ip_B]
          refine ip_mono (Q := fun r τ4 => isL R s p c r ∧ r ≤ top ∧ FtM R ft τ4 ∧ (∀ a k, ¬ mw ft a k → τ4 a k = τ2 a k)) ?_ ?_
          · refine ip_W (fun q τ4 => (0 ≤ q.2.1 ∧ q.2.1 ≤ q.1 ∧ q.1 ≤ top) ∧ (0 ≤ q.2.2 ∧ q.1 - q.2.1 ≤ 2000 - q.2.2) ∧ c ≤ be R s q.1 (rs R 0).toNat p ∧ (∀ h, 0 ≤ h → h < q.2.1 → be R s h (rs R 0).toNat p < c) ∧ FtM R ft τ4 ∧ (∀ a k, ¬ mw ft a k → τ4 a k = τ2 a k)) (fun q _ => (q.1 - q.2.1).toNat) ?_ ⟨⟨Int.le_refl _, ht, Int.le_refl _⟩, ⟨Int.le_refl _, by dsimp only; omega⟩, d, fun h h1 h2 => by dsimp only at h2; omega, gM, gf⟩
            intro q τ4 ⟨w1, w2, w3, w4, w5, w6⟩
            obtain ⟨least, low, i⟩ := q
            dsimp only at w1 w2 w3 w4 ⊢
            by_cases d1 : 2000 ≤ i
            · have : low = least := by omega
              subst this
              rw [ip_ifT d1, ip_P]
              exact ⟨⟨⟨w1.1, by omega⟩, w3, w4⟩, w1.2.2, w5, w6⟩
            · rw [ip_ifF d1]
              by_cases d2 : least ≤ low
              · have : low = least := by omega
                subst this
                rw [ip_ifT d2, ip_P]
                exact ⟨⟨⟨w1.1, by omega⟩, w3, w4⟩, w1.2.2, w5, w6⟩
              · rw [ip_ifF d2, ip_A]
                refine ⟨⟨by omega, by omega⟩, ?_⟩
                rw [ip_B, ip_Dv]
                refine ⟨⟨by omega, by omega⟩, ?_⟩
                have kB : FlB R fl τ4 := hB.frame (fun a k _ _ => w6 a k (by unfold mw; omega))
                have kE : FlE R fl τ4 := hE.frame (fun a k _ _ => w6 a k (by unfold mw; omega))
                rw [ip_B]
                refine ip_measure hf hw kB kE (hR.frame (fun k hk => w6 ft k (by unfold mw; omega))) w5 h0 hs (by omega) (by omega) (by omega) (fun τ5 v5 v6 v7 vM vf => ?_)
                have vf2 : ∀ a k, ¬ mw ft a k → τ5 a k = τ2 a k := fun a k h => (vf a k h).trans (w6 a k h)
                rw [ip_B, ip_bearsAt hf (by omega) (by omega) (by omega) (by omega), FtM_at hw vM v5 v6 h0 (by omega) v7 hp hp2, ebv, ip_B]
                by_cases d3 : be R s ((low + least) / 2) (rs R 0).toNat p < c
                · rw [ip_ifT d3, ip_A]
                  refine ⟨⟨by omega, by omega⟩, ?_⟩
                  rw [ip_B, ip_P, ip_P, ip_A]
                  refine ⟨⟨by omega, by omega⟩, ?_⟩
                  rw [ip_B, ip_P, ip_P]
                  simp only [Sum.elim_inl]
                  refine ⟨⟨by omega, by omega, w3, fun h h1 h2 => ?_, vM, vf2⟩, by omega⟩
                  have := be_mono hw (s := s) (k := (rs R 0).toNat) (p := p) (h := h) (h' := (low + least) / 2) (by omega) (by omega)
                  omega
                · rw [ip_ifF d3, ip_P, ip_A]
                  refine ⟨⟨by omega, by omega⟩, ?_⟩
                  rw [ip_B, ip_P, ip_P]
                  simp only [Sum.elim_inl]
                  exact ⟨⟨by omega, by omega, by omega, w4, vM, vf2⟩, by omega⟩
          · intro r τ4 ⟨w1, w2, w3, w4⟩
            have er := lst_is hw (show 0 ≤ p by omega) w1 w2
            rw [← er]
            have wI := kI τ4 w3 w4
            have keep : ∀ a k, ¬ fw ft a k → τ4 a k = τ2 a k := fun a k h => w4 a k (by unfold fw at h; unfold mw; omega)
            rcases hx with ⟨q1, q2⟩ | ⟨q1, q2⟩
            · rw [ip_ifF (by omega), ft_8 hf, ft_l8 hf, ip_ifF (by omega), ip_B, ip_St, ft_l8 hf]
              refine ⟨⟨⟨by omega, by omega⟩, by omega⟩, ?_⟩
              rw [ip_B, ip_Pz, ip_P]
              refine ⟨Or.inr rfl, hQ _ ⟨wI.1.frame (fun k hk => by rw [iu_ne (Or.inr (by omega)), iu_ne (Or.inl (by omega))]), ?_, ?_⟩ (fun a k hk => ?_)⟩
              · have e5 : ∀ k, k = 5 ∨ k = 6 ∨ k = 7 → iu (iu τ4 (ft + 8) x1 (lst R s p c top)) ft 9 1 ft k = τ4 ft k := fun k hk => by rw [iu_ne (Or.inr (by omega)), iu_ne (Or.inl (by omega))]
                unfold FtM
                rw [e5 5 (by omega), e5 6 (by omega), e5 7 (by omega)]
                rcases w3 with z | ⟨z1, z2, z3, z4⟩
                · exact Or.inl z
                · refine Or.inr ⟨z1, z2, z3, fun k p k0 k1 p0 p1 => ?_⟩
                  rw [iu_ne (Or.inl (by omega)), iu_ne (Or.inl (by omega))]
                  exact z4 k p k0 k1 p0 p1
              · refine ⟨Or.inr iu_eq, fun z => ?_, fun p' c' a1 a2 a3 a4 => ?_⟩
                · rw [iu_eq] at z; omega
                · rw [iu_ne (Or.inl (by omega))]
                  by_cases z : 20 * p' + c' = x1
                  · have : p' = p := by omega
                    subst this
                    have : c' = c := by omega
                    subst this
                    rw [z, iu_eq, pS_one hw hp q2]
                    exact Or.inr (by rw [er]; exact w1)
                  · rw [iu_ne (Or.inr z)]
                    exact wI.2.2.2.2 p' c' a1 a2 a3 a4
              · have h2 := hk
                unfold fw at hk
                rw [iu_ne (by omega), iu_ne (Or.inl (by omega))]
                exact keep a k h2
            · rw [ip_ifT (by omega), ip_P]
              exact hQ τ4 wI keep
        · rw [ip_ifF d, ip_P, ← lst_no (R := R) (s := s) (p := p) (c := c) (top := top) (by omega)]
          exact hQ τ3 (kI τ3 gM gf) (fun a k h => gf a k (by unfold fw at h; unfold mw; omega))
      · rw [ip_ifF (by have := hv.1; omega)]
        by_cases d : top < v
        · rw [ip_ifT d, ip_P, ← lst_no (R := R) (s := s) (p := p) (c := c) (top := top) (hv.2.2 top ht d)]
          exact hQ τ2 hI0 (fun _ _ _ => rfl)
        · rw [ip_ifF d, ip_P, ← lst_is hw (by omega) hv (by omega : v ≤ top)]
          exact hQ τ2 hI0 (fun _ _ _ => rfl)
