/-! ===== laid out, poured ===== -/
def FtL (ft : Nat) (τ : iMem) : Prop := (τ ft 9 = 0 ∨ τ ft 9 = 1) ∧ (τ ft 9 = 0 → ∀ j, 0 ≤ j → j < 1820 → τ (ft + 8) j = -1)
theorem FtL.frame {ft : Nat} {τ τ' : iMem} (h : FtL ft τ) (h9 : τ' ft 9 = τ ft 9) (hf : ∀ k, τ' (ft + 8) k = τ (ft + 8) k) : FtL ft τ' :=
  ⟨by rw [h9]; exact h.1, fun q j a b => by rw [hf]; exact h.2 (by rw [← h9]; exact q) j a b⟩
theorem FtI.l {R : aRun} {ft : Nat} {τ : iMem} (h : FtI R ft τ) : FtL ft τ := ⟨h.2.2.1, h.2.2.2.1⟩
theorem ip_forget {τ : iMem} {ft fl ru : Nat} {R : aRun} {Q : Unit → iMem → Prop} (hf : isFit ft fl ru) (hw : WF R) (hC : RunC τ ru R) (hL : FtL ft τ)
    (hQ : ∀ τ', FtI R ft τ' → (∀ a k, ¬ ((a = ft ∧ (k = 2 ∨ k = 3 ∨ k = 5 ∨ k = 9)) ∨ a = ft + 8) → τ' a k = τ a k) → Q () τ') : ip (iz_Fitter_forget ft) Q τ := by
  have hff := ft_F hf
  have hfe := ft_e hf
  have hfa := fl_a hff
  have hfm := ft_m hf
  have hr := fl_r hff
  have e6 : τ (ru + 1) 6 = rs R 6 := hC.2.1 6 (by omega) (by omega)
  have e5 : τ (ru + 1) 5 = rs R 5 := hC.2.1 5 (by omega) (by omega)
  unfold iz_Fitter_forget
  rw [ft_0 hf, ft_8 hf, ft_l8 hf]
  simp (disch := omega) only [ip_B, ip_setting hr, ip_Pt, ip_Gt, iu_ne, e6, e5]
  generalize hτ : iu (iu (iu τ ft 2 (rs R 6)) ft 3 (rs R 5)) ft 5 (-1) = τ0
  have f0 : ∀ a k, ¬ (a = ft ∧ (k = 2 ∨ k = 3 ∨ k = 5)) → τ0 a k = τ a k := fun a k h => by rw [← hτ]; simp (disch := omega) only [iu_ne]
  have r0 : FtR R ft τ0 := ⟨by rw [← hτ]; simp (disch := omega) only [iu_ne, iu_eq], by rw [← hτ]; simp (disch := omega) only [iu_ne, iu_eq]⟩
  have m0 : τ0 ft 5 = -1 := by rw [← hτ, iu_eq]
  by_cases c : τ ft 9 = 0
  · rw [ip_ifT c, ip_P]
    have hk := hL.2 c
    refine hQ τ0 ⟨r0, Or.inl m0, ⟨Or.inl ((f0 _ _ (by omega)).trans c), fun _ j a b => (f0 _ _ (by omega)).trans (hk j a b), fun p q a b d e => ?_⟩⟩ (fun a k h => f0 a k (by omega))
    have h90 := hw.2.2.2
    exact Or.inl ((f0 _ _ (by omega)).trans (hk _ (by omega) (by omega)))
  · rw [ip_ifF c]
    simp only [ip_B]
    refine ip_mono (Q := fun _ τ' => (∀ j, 0 ≤ j → j < 1820 → τ' (ft + 8) j = -1) ∧ (∀ a k, a ≠ ft + 8 → τ' a k = τ0 a k)) ?_ ?_
    · refine ip_W (fun n τ' => 0 ≤ n ∧ n ≤ 1820 ∧ (∀ j, 0 ≤ j → j < n → τ' (ft + 8) j = -1) ∧ (∀ a k, a ≠ ft + 8 → τ' a k = τ0 a k)) (fun n _ => (1820 - n).toNat) ?_ ⟨Int.le_refl _, by omega, fun j h1 h2 => by omega, fun _ _ _ => rfl⟩
      intro n τ' ⟨g0, g1, gk, gf⟩
      by_cases c1 : 1820 ≤ n
      · rw [ip_ifT c1, ip_P]
        exact ⟨fun j a b => gk j a (by omega), gf⟩
      · rw [ip_ifF c1, ip_B, ip_St, ft_l8 hf]
        refine ⟨⟨⟨by omega, by omega⟩, by omega⟩, ?_⟩
        rw [ip_A]
        refine ⟨⟨by omega, by omega⟩, ?_⟩
        rw [ip_B, ip_P, ip_P]
        simp only [Sum.elim_inl]
        refine ⟨⟨by omega, by omega, fun j a b => ?_, fun a k h => (iu_ne (Or.inl h)).trans (gf a k h)⟩, by omega⟩
        by_cases d : j = n
        · subst d; rw [iu_eq]
        · rw [iu_ne (Or.inr d)]; exact gk j a (by omega)
    · intro _ τ1 ⟨w1, w2⟩
      rw [ip_Pz]
      refine ⟨Or.inl rfl, ?_⟩
      rw [ip_P]
      have h90 := hw.2.2.2
      refine hQ _ ⟨⟨?_, ?_⟩, Or.inl ?_, ⟨Or.inl iu_eq, fun _ j a b => ?_, fun p q a b d e => Or.inl ?_⟩⟩ (fun a k h => ?_)
      · rw [iu_ne (Or.inr (by omega)), w2 _ _ (by omega)]; exact r0.1
      · rw [iu_ne (Or.inr (by omega)), w2 _ _ (by omega)]; exact r0.2
      · rw [iu_ne (Or.inr (by omega)), w2 _ _ (by omega)]; exact m0
      · rw [iu_ne (Or.inl (by omega))]; exact w1 j a b
      · rw [iu_ne (Or.inl (by omega))]; exact w1 _ (by omega) (by omega)
      · rw [iu_ne (by omega), w2 a k (by omega), f0 a k (by omega)]
theorem FlB.z {R : aRun} {fl : Nat} {τ : iMem} (hw : WF R) (h : FlB R fl τ) : FlZ fl τ := by
  have := h.2.2.1.2.1 0 (Int.le_refl _) (np_ge hw)
  exact ⟨this.1, this.2.1, this.2.2⟩
theorem ip_Play {τ : iMem} {pr ft fl ru ra sp : Nat} {nr : Int} {R : aRun} {Q : Unit → iMem → Prop} (hp : isPress pr ft fl ru ra sp nr) (hw : WF R) (hC : RunC τ ru R) (hZ : FlZ fl τ) (hL : FtL ft τ)
    (hQ : ∀ τ', Cx R ft fl ru τ' → (∀ a k, ¬ (fl ≤ a ∧ a ≤ ft + 8) → τ' a k = τ a k) → Q () τ') : ip (iz_Press_lay pr) Q τ := by
  have hf := pr_F hp
  have hff := ft_F hf
  have hfe := ft_e hf
  have hfa := fl_a hff
  unfold iz_Press_lay
  rw [pr_1 hp, pr_2 hp, ip_B]
  refine ip_lay hff hw hC hZ (fun τ1 w1 w2 w3 => ?_)
  rw [ip_B]
  refine ip_forget hf hw (hC.frame (fun a k _ _ => w3 a k (by omega))) (hL.frame (w3 _ _ (by omega)) (fun k => w3 _ _ (by omega))) (fun τ2 v1 v2 => ?_)
  rw [ip_P]
  exact hQ τ2 ⟨hC.frame (fun a k _ _ => by rw [v2 a k (by omega), w3 a k (by omega)]), w1.frame (fun a k _ _ => v2 a k (by omega)), w2.frame (fun a k _ _ => v2 a k (by omega)), v1⟩ (fun a k h => by rw [v2 a k (by omega), w3 a k (by omega)])
theorem ip_answer {τ : iMem} {pr ft fl ru ra sp : Nat} {nr : Int} {R : aRun} {Q : Int → iMem → Prop} (hp : isPress pr ft fl ru ra sp nr) (hw : WF R) (hx : Cx R ft fl ru τ) (hP : PoC R pr ra sp nr τ (pou R)) (hA : Q (ans R) τ) : ip (iz_Press_answer pr) Q τ := by
  have hok := pou_ok hw
  have h90 := hw.2.2.2
  unfold iz_Press_answer
  unfold ans at hA
  rw [pr_1 hp, ip_B, ip_Gt, hP.2.2.1]
  by_cases c : aSt (pou R) = -1
  · rw [if_pos c] at hA
    rw [ip_ifT c, ip_B, ip_Gt, hx.2.1.2.1]
    by_cases d : ns R = 0
    · rw [if_pos d] at hA
      rw [ip_ifF (by omega), ip_P]
      exact hA
    · rw [if_neg d] at hA
      rw [ip_ifT d, ip_B, ip_Gt, hP.1.2.1, ip_A]
      have := hok.1.2.1
      refine ⟨⟨by omega, by omega⟩, ?_⟩
      rw [ip_P]
      exact hA
  · rw [if_neg c] at hA
    rw [ip_ifF c, ip_B, ip_Gt, hP.2.2.1, ip_A]
    have := hok.2.1
    refine ⟨⟨by omega, by omega⟩, ?_⟩
    rw [ip_P]
    exact hA
/-! the object's own -/
theorem t_0 : qm_rf 0 0 = 1 := by decide +kernel
theorem t_1 : qm_rf 0 1 = 4 := by decide +kernel
theorem t_2 : qm_rf 0 2 = 6 := by decide +kernel
theorem t_3 : qm_rf 0 3 = 13 := by decide +kernel
theorem t_4 : qm_rf 0 4 = 45 := by decide +kernel
theorem t_6 : qm_rf 0 6 = 52 := by decide +kernel
theorem t_7 : qm_rf 0 7 = 322 := by decide +kernel
theorem t_8 : qm_rf 0 8 = 360 := by decide +kernel
theorem t_k : (qm_kd 52).1 = 13 := by decide +kernel
def InvA (R : aRun) (τ : iMem) : Prop := RunC τ 1 R ∧ FlZ 53 τ ∧ FtL 70 τ ∧ (τ 0 9 = 0 ∨ τ 0 9 = 1) ∧ (τ 0 10 = 0 ∨ τ 0 10 = 1) ∧ (τ 0 9 = 1 → Cx R 70 53 1 τ) ∧ (τ 0 10 = 1 → τ 0 9 = 1 ∧ PoC R 52 79 320 240 τ (pou R))
/-- what showing writes -/
def qw (a : Nat) (k : Int) : Prop := (a = 0 ∧ (k = 9 ∨ k = 10)) ∨ (52 ≤ a ∧ a ≤ 321)
theorem PoC.frame {R : aRun} {pr ra sp : Nat} {nr : Int} {τ τ' : iMem} {A : aA} (h : PoC R pr ra sp nr τ A) (hf : ∀ a k, (a = pr ∧ 4 ≤ k) ∨ (ra < a ∧ a ≤ ra + nr.toNat) ∨ a = sp ∨ a = sp + 1 → τ' a k = τ a k) : PoC R pr ra sp nr τ' A := by
  obtain ⟨⟨h1, h2, h3⟩, h4, h5, h6, h7⟩ := h
  refine ⟨⟨(hf _ _ (by omega)).trans h1, (hf _ _ (by omega)).trans h2, (hf _ _ (by omega)).trans h3⟩, fun i a b c => (h4 i a b c).frame (fun k => hf _ _ (by omega)), (hf _ _ (by omega)).trans h5, (hf _ _ (by omega)).trans h6, fun k a b => ?_⟩
  rw [hf sp k (by omega), hf (sp + 1) k (by omega)]
  exact h7 k a b
theorem InvA.frame {R : aRun} {τ τ' : iMem} (h : InvA R τ) (hf : ∀ a k, (a = 0 ∧ (k = 9 ∨ k = 10)) ∨ (1 ≤ a ∧ a ≤ 3) ∨ (52 ≤ a ∧ a ≤ 321) → τ' a k = τ a k) : InvA R τ' := by
  obtain ⟨h1, h2, h3, h4, h5, h6, h7⟩ := h
  have e9 := hf 0 9 (by omega)
  have e10 := hf 0 10 (by omega)
  refine ⟨h1.frame (fun a k _ _ => hf a k (by omega)), ?_, h3.frame (hf _ _ (by omega)) (fun k => hf _ _ (by omega)), by rw [e9]; exact h4, by rw [e10]; exact h5, fun q => (h6 (by rw [← e9]; exact q)).frame rfl (fun a k _ => hf a k (by omega)), fun q => ?_⟩
  · unfold FlZ at *
    rw [hf _ _ (by omega), hf _ _ (by omega), hf _ _ (by omega)]
    exact h2
  · rw [e9]
    have := h7 (by rw [← e10]; exact q)
    exact ⟨this.1, this.2.frame (fun a k hk => hf a k (by have : (240 : Int).toNat = 240 := rfl; omega))⟩
section
variable {τ : iMem} {R : aRun}
theorem ip_laidOut {Q : Nat → iMem → Prop} (hw : WF R) (hI : InvA R τ) (hQ : ∀ τ', InvA R τ' → τ' 0 9 = 1 → Cx R 70 53 1 τ' → (∀ a k, ¬ qw a k → τ' a k = τ a k) → Q 52 τ') : ip (iz_Top_laidOut 0) Q τ := by
  obtain ⟨h1, h2, h3, h4, h5, h6, h7⟩ := id hI
  unfold iz_Top_laidOut
  rw [t_6, ip_B, ip_Gt]
  by_cases c : τ 0 9 = 0
  · rw [ip_ifF (by omega), ip_B]
    refine ip_Play isPress_52 hw h1 h2 h3 (fun τ1 w1 w2 => ?_)
    have e10 : τ 0 10 = 0 := by
      rcases h5 with z | z
      · exact z
      · have := (h7 z).1; omega
    rw [ip_B, ip_Pz]
    refine ⟨Or.inr rfl, ?_⟩
    rw [ip_P]
    have hx : Cx R 70 53 1 (iu τ1 0 9 1) := w1.frame rfl (fun a k h => iu_ne (Or.inl (by omega)))
    refine hQ _ ⟨hx.1, hx.2.1.z hw, hx.2.2.2.l, Or.inr iu_eq, Or.inl ?_, fun _ => hx, fun q => ?_⟩ iu_eq hx (fun a k h => ?_)
    · rw [iu_ne (Or.inr (by omega)), w2 _ _ (by omega)]; exact e10
    · rw [iu_ne (Or.inr (by omega)), w2 _ _ (by omega)] at q; omega
    · unfold qw at h
      rw [iu_ne (by omega), w2 a k (by omega)]
  · have c1 : τ 0 9 = 1 := by omega
    rw [ip_ifT c, ip_P]
    exact hQ τ hI c1 (h6 c1) (fun _ _ _ => rfl)
theorem ip_pouredNow {Q : Nat → iMem → Prop} (hw : WF R) (hI : InvA R τ) (hQ : ∀ τ', InvA R τ' → Cx R 70 53 1 τ' → PoC R 52 79 320 240 τ' (pou R) → (∀ a k, ¬ qw a k → τ' a k = τ a k) → Q 52 τ') : ip (iz_Top_pouredNow 0) Q τ := by
  unfold iz_Top_pouredNow
  rw [ip_B, ip_K]
  refine ip_laidOut hw hI (fun τ1 w1 w2 w3 w4 => ⟨t_k, ?_⟩)
  rw [ip_B, ip_Gt]
  by_cases c : τ1 0 10 = 0
  · rw [ip_ifF (by omega), ip_B]
    refine ip_pourAll isPress_52 hw w3 (fun τ2 v1 v2 v3 => ?_)
    rw [ip_B, ip_Pz]
    refine ⟨Or.inr rfl, ?_⟩
    rw [ip_P]
    have hx : Cx R 70 53 1 (iu τ2 0 10 1) := v1.frame rfl (fun a k h => iu_ne (Or.inl (by omega)))
    have hP : PoC R 52 79 320 240 (iu τ2 0 10 1) (pou R) := v2.frame (fun a k h => iu_ne (Or.inl (by omega)))
    have e9 : iu τ2 0 10 1 0 9 = 1 := by
      rw [iu_ne (Or.inr (by omega)), v3 0 9 (by unfold pww fw prw; omega)]
      exact w2
    refine hQ _ ⟨hx.1, hx.2.1.z hw, hx.2.2.2.l, Or.inr e9, Or.inr iu_eq, fun _ => hx, fun _ => ⟨e9, hP⟩⟩ hx hP (fun a k h => ?_)
    have h2 := h
    unfold qw at h
    rw [iu_ne (by omega), v3 a k (by unfold pww fw prw; have : (240 : Int).toNat = 240 := rfl; omega)]
    exact w4 a k h2
  · rw [ip_ifT c, ip_P]
    have c1 : τ1 0 10 = 1 := by have := w1.2.2.2.2.1; omega
    exact hQ τ1 w1 w3 (w1.2.2.2.2.2.2 c1).2 w4
end
