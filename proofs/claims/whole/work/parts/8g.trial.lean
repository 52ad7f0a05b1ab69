/-! ===== asked of another RUN ===== -/
theorem p_0 : qm_rf 322 0 = 323 := pr_0 isPress_322
theorem l_406 : iLen 406 = 8 := by decide +kernel
theorem l_407 : iLen 407 = 8 := by decide +kernel
theorem r_323 : isRun 323 := fl_r (ft_F (pr_F isPress_322))
theorem rr_1 {o : Nat} (h : isRun o) : qm_rf o 1 = o + 1 := h.1.1
theorem rr_2 {o : Nat} (h : isRun o) : qm_rf o 2 = o + 2 := h.1.2
theorem rl_1 {o : Nat} (h : isRun o) : iLen (o + 1) = 8 := h.2.1.1
theorem rl_2 {o : Nat} (h : isRun o) : iLen (o + 2) = 256 := h.2.1.2
section
variable {τ : iMem} {R : aRun}
theorem ip_copyFrom {o p : Nat} {Q : Unit → iMem → Prop} (ho : isRun o) (hp : isRun p) (hop : o + 2 < p ∨ p + 2 < o) (hom : o + 2 < 405) (hR : RunC τ p R) (hn : rn R ≤ 16)
    (hQ : ∀ τ', RunC τ' o R → (∀ a k, ¬ ((a = o ∧ k = 0) ∨ a = o + 1 ∨ a = o + 2) → τ' a k = τ a k) → Q () τ') : ip (iz_Run_copyFrom o p) Q τ := by
  unfold iz_Run_copyFrom
  rw [ip_B, ip_Gt, ip_B, ip_Pt, ip_B, hR.1]
  refine ip_mono (Q := fun _ τ1 => (∀ k, 0 ≤ k → k < 8 → τ1 (o + 1) k = τ (p + 1) k) ∧ (∀ a k, a ≠ o + 1 → τ1 a k = iu τ o 0 (rn R) a k)) ?_ (fun _ τ1 e => ?_)
  · refine ip_W (fun i τ1 => (0 ≤ i ∧ i ≤ 8) ∧ (∀ k, 0 ≤ k → k < i → τ1 (o + 1) k = τ (p + 1) k) ∧ (∀ a k, a ≠ o + 1 → τ1 a k = iu τ o 0 (rn R) a k)) (fun i _ => (8 - i).toNat) ?_ ⟨⟨Int.le_refl _, by omega⟩, fun k k0 k1 => by omega, fun _ _ _ => rfl⟩
    intro i τ1 ⟨b1, b2, b3⟩
    by_cases c : 8 ≤ i
    · rw [ip_ifT c, ip_P]
      exact ⟨fun k k0 k1 => b2 k k0 (by omega), b3⟩
    · rw [ip_ifF c, ip_B, ip_Ld, rr_1 hp, rl_1 hp]
      refine ⟨⟨by omega, by omega⟩, ?_⟩
      rw [ip_B, ip_St, rr_1 ho, rl_1 ho]
      refine ⟨⟨⟨by omega, by omega⟩, by omega⟩, ?_⟩
      rw [ip_A]
      refine ⟨⟨by omega, by omega⟩, ?_⟩
      rw [ip_B, ip_P, ip_P]
      simp only [Sum.elim_inl]
      refine ⟨⟨⟨by omega, by omega⟩, fun k k0 k1 => ?_, fun a k h => ?_⟩, by omega⟩
      · by_cases d : k = i
        · subst d
          rw [iu_eq, b3 _ _ (by omega), iu_ne (Or.inl (by omega))]
        · rw [iu_ne (Or.inr d)]; exact b2 k k0 (by omega)
      · rw [iu_ne (Or.inl h)]; exact b3 a k h
  · rw [ip_B, rr_2 ho, rl_2 ho]
    refine ip_mono (Q := fun _ τ2 => (∀ k, 0 ≤ k → k < 256 → τ2 (o + 2) k = τ (p + 2) k) ∧ (∀ a k, a ≠ o + 2 → τ2 a k = τ1 a k)) ?_ (fun _ τ2 e2 => ?_)
    · refine ip_W (fun i τ2 => (0 ≤ i ∧ i ≤ 256) ∧ (∀ k, 0 ≤ k → k < i → τ2 (o + 2) k = τ (p + 2) k) ∧ (∀ a k, a ≠ o + 2 → τ2 a k = τ1 a k)) (fun i _ => (256 - i).toNat) ?_ ⟨⟨Int.le_refl _, by omega⟩, fun k k0 k1 => by omega, fun _ _ _ => rfl⟩
      intro i τ2 ⟨b1, b2, b3⟩
      by_cases c : 256 ≤ i
      · rw [ip_ifT c, ip_P]
        exact ⟨fun k k0 k1 => b2 k k0 (by omega), b3⟩
      · rw [ip_ifF c, ip_B, ip_Ld, rr_2 hp, rl_2 hp]
        refine ⟨⟨by omega, by omega⟩, ?_⟩
        rw [ip_B, ip_St, rl_2 ho]
        refine ⟨⟨⟨by omega, by omega⟩, by omega⟩, ?_⟩
        rw [ip_A]
        refine ⟨⟨by omega, by omega⟩, ?_⟩
        rw [ip_B, ip_P, ip_P]
        simp only [Sum.elim_inl]
        refine ⟨⟨⟨by omega, by omega⟩, fun k k0 k1 => ?_, fun a k h => ?_⟩, by omega⟩
        · by_cases d : k = i
          · subst d
            rw [iu_eq, b3 _ _ (by omega), e.2 _ _ (by omega), iu_ne (Or.inl (by omega))]
          · rw [iu_ne (Or.inr d)]; exact b2 k k0 (by omega)
        · rw [iu_ne (Or.inl h)]; exact b3 a k h
    · rw [ip_P]
      refine hQ τ2 ⟨?_, fun k k0 k1 => ?_, fun b w b0 b1 w0 w1 => ?_⟩ (fun a k h => ?_)
      · rw [e2.2 _ _ (by omega), e.2 _ _ (by omega), iu_eq]
      · rw [e2.2 _ _ (by omega), e.1 k k0 k1]; exact hR.2.1 k k0 k1
      · rw [e2.1 _ (by omega) (by omega)]; exact hR.2.2 b w b0 b1 w0 w1
      · rw [e2.2 _ _ (by omega), e.2 _ _ (by omega), iu_ne (by omega)]
theorem InvX.b {τ' : iMem} (h : InvX R τ) (hB : InvB τ') (hf : ∀ a k, a < 322 ∨ 366 < a → τ' a k = τ a k) : InvX R τ' :=
  ⟨h.1, h.2.1.frame (fun a k z => hf a k (by omega)), hB, h.2.2.2.frame (fun k => hf _ _ (by omega))⟩
theorem ip_ask {Q : Unit → iMem → Prop} (hI : InvX R τ) (hQ : ∀ τ', InvX R τ' → RunC τ' 323 R → (∀ a k, ¬ (323 ≤ a ∧ a ≤ 325) → τ' a k = τ a k) → Q () τ') : ip (iz_Run_copyFrom 323 1) Q τ := by
  refine ip_copyFrom r_323 isRun_1 (by omega) (by omega) hI.2.1.1 hI.1.1.2 (fun τ' h1 h2 => ?_)
  have hf : ∀ a k, ¬ (323 ≤ a ∧ a ≤ 325) → τ' a k = τ a k := fun a k h => h2 a k (by omega)
  exact hQ τ' (hI.b (hI.2.2.1.frame (fun a k _ => hf a k (by omega))) (fun a k h => hf a k (by omega))) h1 hf
/-- laid and poured, another RUN -/
theorem ip_askPour {α : Type} {R' : aRun} {m : Int → iM α} {Q : α → iMem → Prop} (hI : InvX R τ) (hw' : WF R') (hR : RunC τ 323 R')
    (hQ : ∀ τ', InvX R τ' → RunC τ' 323 R' → (∀ a k, a < 322 ∨ 366 < a → τ' a k = τ a k) → ip (m (ans R')) Q τ') : ip (iB (iz_Press_lay 322) fun _ => iB (iz_Press_pourAll 322) m) Q τ := by
  rw [ip_B]
  refine ip_Play isPress_322 hw' hR hI.2.2.1.1 hI.2.2.1.2.1 (fun τ1 w1 w2 => ?_)
  rw [ip_B]
  refine ip_pourAll isPress_322 hw' w1 (fun τ2 v1 v2 v3 => ?_)
  have hok := (pou_ok hw').1
  have hf : ∀ a k, a < 322 ∨ 366 < a → τ2 a k = τ a k := fun a k h => (v3 a k (by have : (5 : Int).toNat = 5 := rfl; unfold pww prw fw; omega)).trans (w2 a k (by omega))
  exact hQ τ2 (hI.b ⟨v1.2.1.z hw', v1.2.2.2.l, by rw [v2.1.2.1]; exact hok.2.1, by rw [v2.1.2.2]; exact hok.2.2.1⟩ hf) v1.1 hf
/-! the model's -/
theorem ip_keepsAside {Q : Unit → iMem → Prop} (hQ : ∀ τ', (∀ k, 0 ≤ k → k < 265 → τ' 372 k = τ 368 k) → (∀ a k, a ≠ 372 → τ' a k = τ a k) → Q () τ') : ip (iz_Model_keepsAside 367) Q τ := by
  unfold iz_Model_keepsAside
  rw [ip_B]
  refine ip_mono (Q := fun _ τ1 => (∀ k, 0 ≤ k → k < 265 → τ1 372 k = τ 368 k) ∧ (∀ a k, a ≠ 372 → τ1 a k = τ a k)) ?_ (fun _ τ1 e => by rw [ip_P]; exact hQ τ1 e.1 e.2)
  refine ip_W (fun i τ1 => (0 ≤ i ∧ i ≤ 265) ∧ (∀ k, 0 ≤ k → k < i → τ1 372 k = τ 368 k) ∧ (∀ a k, a ≠ 372 → τ1 a k = τ a k)) (fun i _ => (265 - i).toNat) ?_ ⟨⟨Int.le_refl _, by omega⟩, fun k k0 k1 => by omega, fun _ _ _ => rfl⟩
  intro i τ1 ⟨b1, b2, b3⟩
  by_cases c : 265 ≤ i
  · rw [ip_ifT c, ip_P]
    exact ⟨fun k k0 k1 => b2 k k0 (by omega), b3⟩
  · rw [ip_ifF c, ip_B, ip_Ld, m_0, l_368]
    refine ⟨⟨by omega, by omega⟩, ?_⟩
    rw [ip_B, ip_St, m_5, l_372]
    refine ⟨⟨⟨by omega, by omega⟩, by omega⟩, ?_⟩
    rw [ip_A]
    refine ⟨⟨by omega, by omega⟩, ?_⟩
    rw [ip_B, ip_P, ip_P]
    simp only [Sum.elim_inl]
    refine ⟨⟨⟨by omega, by omega⟩, fun k k0 k1 => ?_, fun a k h => ?_⟩, by omega⟩
    · by_cases d : k = i
      · subst d
        rw [iu_eq, b3 _ _ (by omega)]
      · rw [iu_ne (Or.inr d)]; exact b2 k k0 (by omega)
    · rw [iu_ne (Or.inl h)]; exact b3 a k h
theorem ip_putsBack {Q : Unit → iMem → Prop} (hQ : ∀ τ', (∀ k, 0 ≤ k → k < 265 → τ' 368 k = τ 372 k) → (∀ a k, ¬ (a = 368 ∧ 0 ≤ k ∧ k < 265) → τ' a k = τ a k) → Q () τ') : ip (iz_Model_putsBack 367) Q τ := by
  unfold iz_Model_putsBack
  rw [ip_B]
  refine ip_mono (Q := fun _ τ1 => (∀ k, 0 ≤ k → k < 265 → τ1 368 k = τ 372 k) ∧ (∀ a k, ¬ (a = 368 ∧ 0 ≤ k ∧ k < 265) → τ1 a k = τ a k)) ?_ (fun _ τ1 e => by rw [ip_P]; exact hQ τ1 e.1 e.2)
  refine ip_W (fun i τ1 => (0 ≤ i ∧ i ≤ 265) ∧ (∀ k, 0 ≤ k → k < i → τ1 368 k = τ 372 k) ∧ (∀ a k, ¬ (a = 368 ∧ 0 ≤ k ∧ k < i) → τ1 a k = τ a k)) (fun i _ => (265 - i).toNat) ?_ ⟨⟨Int.le_refl _, by omega⟩, fun k k0 k1 => by omega, fun _ _ _ => rfl⟩
  intro i τ1 ⟨b1, b2, b3⟩
  by_cases c : 265 ≤ i
  · rw [ip_ifT c, ip_P]
    exact ⟨fun k k0 k1 => b2 k k0 (by omega), fun a k h => b3 a k (by omega)⟩
  · rw [ip_ifF c, ip_B, ip_Ld, m_5, l_372]
    refine ⟨⟨by omega, by omega⟩, ?_⟩
    rw [ip_B, ip_St, m_0, l_368]
    refine ⟨⟨⟨by omega, by omega⟩, by omega⟩, ?_⟩
    rw [ip_A]
    refine ⟨⟨by omega, by omega⟩, ?_⟩
    rw [ip_B, ip_P, ip_P]
    simp only [Sum.elim_inl]
    refine ⟨⟨⟨by omega, by omega⟩, fun k k0 k1 => ?_, fun a k h => ?_⟩, by omega⟩
    · by_cases d : k = i
      · subst d
        rw [iu_eq, b3 _ _ (by omega)]
      · rw [iu_ne (Or.inr d)]; exact b2 k k0 (by omega)
    · rw [iu_ne (by omega)]; exact b3 a k (by omega)
/-- the other one's RUN put back -/
theorem back_is {τ1 τ2 τ3 : iMem} (h1 : ∀ k, 0 ≤ k → k < 265 → τ1 372 k = τ 368 k) (h2 : ∀ k, τ2 372 k = τ1 372 k) (h3 : ∀ k, k < 0 ∨ 265 ≤ k → τ2 368 k = τ 368 k) (h4 : ∀ k, 0 ≤ k → k < 265 → τ3 368 k = τ2 372 k) (h5 : ∀ a k, ¬ (a = 368 ∧ 0 ≤ k ∧ k < 265) → τ3 a k = τ2 a k) : ∀ k, τ3 368 k = τ 368 k := by
  intro k
  by_cases c : 0 ≤ k ∧ k < 265
  · rw [h4 k c.1 c.2, h2, h1 k c.1 c.2]
  · rw [h5 368 k (by omega), h3 k (by omega)]
/-- the SETTINGS' bounds -/
def lwV (k : Int) : Int := if k = 1 then 10 else if k = 4 then 0 else if k = 6 then 0 else if k = 7 then 0 else 1
def hiV (k : Int) : Int := if k = 0 then 5 else if k = 1 then 400 else if k = 5 then 3 else if k = 7 then 60 else 9
def InvS (τ : iMem) : Prop := ∀ k, 0 ≤ k → k < 8 → τ 406 k = lwV k ∧ τ 407 k = hiV k
theorem InvS.frame {τ' : iMem} (h : InvS τ) (hf : ∀ a k, a = 406 ∨ a = 407 → τ' a k = τ a k) : InvS τ' := fun k k0 k1 => by
  rw [hf _ _ (Or.inl rfl), hf _ _ (Or.inr rfl)]; exact h k k0 k1
def okS (k v : Int) : Prop := (0 ≤ k ∧ k < 8) ∧ lwV k ≤ v ∧ v ≤ hiV k
theorem ip_takes {k v : Int} {Q : Int → iMem → Prop} (hS : InvS τ) (hQ : ∀ r, (r = 1 ∧ okS k v) ∨ (r = 0 ∧ ¬ okS k v) → Q r τ) : ip (iz_Run_takes k v) Q τ := by
  unfold iz_Run_takes
  unfold okS at hQ
  by_cases c1 : k < 0
  · rw [ip_ifT c1, ip_P]; exact hQ 0 (by omega)
  · rw [ip_ifF c1]
    by_cases c2 : 8 ≤ k
    · rw [ip_ifT c2, ip_P]; exact hQ 0 (by omega)
    · obtain ⟨s1, s2⟩ := hS k (by omega) (by omega)
      rw [ip_ifF c2, ip_B, ip_Ld, l_406, s1]
      refine ⟨⟨by omega, by omega⟩, ?_⟩
      by_cases c3 : v < lwV k
      · rw [ip_ifT c3, ip_P]; exact hQ 0 (by omega)
      · rw [ip_ifF c3, ip_B, ip_Ld, l_407, s2]
        refine ⟨⟨by omega, by omega⟩, ?_⟩
        by_cases c4 : hiV k < v
        · rw [ip_ifT c4, ip_P]; exact hQ 0 (by omega)
        · rw [ip_ifF c4, ip_P]; exact hQ 1 (by omega)
theorem ip_lowOf {k : Int} {Q : Int → iMem → Prop} : ip (iz_Model_lowOf k) Q τ ↔ Q (lwV k) τ := by
  unfold iz_Model_lowOf lwV
  by_cases c1 : k = 1
  · rw [ip_ifF (by omega), ip_P, if_pos c1]
  · rw [ip_ifT c1, if_neg c1]
    by_cases c4 : k = 4
    · rw [ip_ifT c4, ip_P, if_pos c4]
    · rw [ip_ifF c4, if_neg c4]
      by_cases c6 : k = 6
      · rw [ip_ifT c6, ip_P, if_pos c6]
      · rw [ip_ifF c6, if_neg c6]
        by_cases c7 : k = 7
        · rw [ip_ifF (by omega), ip_P, if_pos c7]
        · rw [ip_ifT c7, ip_P, if_neg c7]
theorem ip_highOf {k : Int} {Q : Int → iMem → Prop} : ip (iz_Model_highOf k) Q τ ↔ Q (hiV k) τ := by
  have e : hiV k = if k = 0 then 5 else if k = 1 then 400 else if k = 2 then 9 else if k = 3 then 9 else if k = 4 then 9 else if k = 5 then 3 else if k = 6 then 9 else if k = 7 then 60 else 9 := by
    unfold hiV
    omega
  rw [e]
  unfold iz_Model_highOf
  by_cases c0 : k = 0
  · rw [ip_ifT c0, ip_P, if_pos c0]
  · rw [ip_ifF c0, if_neg c0]
    by_cases c1 : k = 1
    · rw [ip_ifT c1, ip_P, if_pos c1]
    · rw [ip_ifF c1, if_neg c1]
      by_cases c2 : k = 2
      · rw [ip_ifT c2, ip_P, if_pos c2]
      · rw [ip_ifF c2, if_neg c2]
        by_cases c3 : k = 3
        · rw [ip_ifT c3, ip_P, if_pos c3]
        · rw [ip_ifF c3, if_neg c3]
          by_cases c4 : k = 4
          · rw [ip_ifT c4, ip_P, if_pos c4]
          · rw [ip_ifF c4, if_neg c4]
            by_cases c5 : k = 5
            · rw [ip_ifT c5, ip_P, if_pos c5]
            · rw [ip_ifF c5, if_neg c5]
              by_cases c6 : k = 6
              · rw [ip_ifT c6, ip_P, if_pos c6]
              · rw [ip_ifF c6, if_neg c6]
                by_cases c7 : k = 7
                · rw [ip_ifT c7, ip_P, if_pos c7]
                · rw [ip_ifF c7, ip_P, if_neg c7]
theorem ip_isSetting {k v : Int} {Q : Int → iMem → Prop} (hQ : ∀ r, (r = 1 ∧ okS k v) ∨ (r = 0 ∧ ¬ okS k v) → Q r τ) : ip (iz_Model_isSetting k v) Q τ := by
  unfold okS at hQ
  unfold iz_Model_isSetting
  rw [ip_B, ip_in]
  by_cases c : k < 0 ∨ 7 < k
  · rw [if_pos c, ip_ifT rfl, ip_P]; exact hQ 0 (by omega)
  · rw [if_neg c, ip_ifF (by omega), ip_B, ip_lowOf, ip_B, ip_highOf, ip_B, ip_in]
    by_cases d : v < lwV k ∨ hiV k < v
    · rw [if_pos d, ip_ifT rfl, ip_P]; exact hQ 0 (by omega)
    · rw [if_neg d, ip_ifF (by omega), ip_P]; exact hQ 1 (by omega)
/-- another SETTING -/
def RS (R : aRun) (j x : Int) : aRun := (R.1, (fun k => if k = j then x else R.2.1 k), R.2.2)
theorem RS_wf {j x : Int} (h : WF R) (hs : okS j x) : WF (RS R j x) := by
  obtain ⟨a1, a2, a3, a4⟩ := h
  refine ⟨a1, ?_, a3, a4⟩
  have e : ∀ k, rs (RS R j x) k = if k = j then x else rs R k := fun _ => rfl
  unfold okS lwV hiV at hs
  unfold WFs at a2 ⊢
  rw [e, e, e, e, e, e, e, e]
  omega
theorem RS_rc {j x : Int} {o : Nat} (h : RunC τ o R) : RunC (iu τ (o + 1) j x) o (RS R j x) := by
  refine ⟨?_, fun k k0 k1 => ?_, fun b w b0 b1 w0 w1 => ?_⟩
  · rw [iu_ne (Or.inl (by omega))]; exact h.1
  · show _ = if k = j then x else rs R k
    by_cases c : k = j
    · rw [if_pos c, c, iu_eq]
    · rw [if_neg c, iu_ne (Or.inr c)]; exact h.2.1 k k0 k1
  · rw [iu_ne (Or.inl (by omega))]; exact h.2.2 b w b0 b1 w0 w1
theorem RS_rm {j x : Int} (h : RunM τ 368 0 R) (j0 : 0 ≤ j) (j1 : j < 8) : RunM (iu τ 368 j x) 368 0 (RS R j x) := by
  refine ⟨?_, fun k k0 k1 => ?_, fun b w b0 b1 w0 w1 => ?_⟩
  · rw [iu_ne (Or.inr (by omega))]; exact h.1
  · show _ = if k = j then x else rs R k
    by_cases c : k = j
    · rw [if_pos c, c, Int.zero_add, iu_eq]
    · rw [if_neg c, iu_ne (Or.inr (by omega))]; exact h.2.1 k k0 k1
  · have hp : 0 ≤ pw w := by unfold pw; split <;> omega
    rw [iu_ne (Or.inr (by omega))]; exact h.2.2 b w b0 b1 w0 w1
noncomputable def triV (R : aRun) (k v : Int) : Int := @ite Int (okS k v) (Classical.propDecidable _) (ans (RS R k v)) (-1)
theorem gv_trial (hI : InvX R τ) (hS : InvS τ) (k v : Int) : gv R (iz_Top_trial 0 k v) (triV R k v) τ := by
  unfold gv iz_Top_trial triV
  rw [ip_B]
  refine ip_takes hS (fun r hr => ?_)
  rcases hr with ⟨hr, hs⟩ | ⟨hr, hs⟩
  · have hs' := hs
    unfold okS at hs'
    rw [ip_ifT (by omega), if_pos hs, t_0, t_7, p_0, ip_B]
    refine ip_ask hI (fun τ1 w1 w2 w3 => ?_)
    unfold iz_Run_put
    rw [ip_B, ip_B]
    refine ip_takes (hS.frame (fun a k h => w3 a k (by omega))) (fun r' hr' => ?_)
    have hr'' : r' = 1 := by
      rcases hr' with h | h
      · exact h.1
      · exact absurd hs h.2
    rw [ip_ifF (by omega), ip_B, ip_St, rr_1 r_323, rl_1 r_323]
    refine ⟨⟨⟨by omega, by omega⟩, by omega⟩, ?_⟩
    rw [ip_P]
    have hI2 : InvX R (iu τ1 324 k v) := w1.b (w1.2.2.1.frame (fun a k _ => iu_ne (Or.inl (by omega)))) (fun a k _ => iu_ne (Or.inl (by omega)))
    refine ip_askPour hI2 (RS_wf hI.1 hs) (RS_rc w2) (fun τ3 v1 _ v3 => ?_)
    rw [ip_P]
    refine ⟨rfl, v1, fun a k z => ?_⟩
    have z' : a < 322 ∨ 366 < a := by unfold zw at z; omega
    rw [v3 a k z', iu_ne (Or.inl (by omega)), w3 a k (by omega)]
  · rw [ip_ifF (by omega), if_neg hs, ip_P]
    exact ⟨rfl, hI, fun _ _ _ => rfl⟩
theorem gv_Mtrial (hI : InvX R τ) (k v : Int) : gv R (iz_Model_trial 367 k v) (triV R k v) τ := by
  unfold gv iz_Model_trial triV
  rw [ip_B]
  refine ip_isSetting (fun r hr => ?_)
  rcases hr with ⟨hr, hs⟩ | ⟨hr, hs⟩
  · have hs' := hs
    unfold okS at hs'
    rw [ip_ifT (by omega), if_pos hs, ip_B]
    refine ip_keepsAside (fun τ1 w1 w2 => ?_)
    rw [ip_B, ip_St, m_0, l_368]
    refine ⟨⟨⟨by omega, by omega⟩, by omega⟩, ?_⟩
    rw [ip_B]
    have hR1 : RunM τ1 368 0 R := hI.2.2.2.frame (fun k => w2 _ _ (by omega))
    refine ip_pours (RS_wf hI.1 hs) (RS_rm hR1 (by omega) (by omega)) (fun τ2 _ _ v3 => ?_)
    rw [ip_B]
    refine ip_putsBack (fun τ3 u1 u2 => ?_)
    rw [ip_P]
    have e368 : ∀ j, τ3 368 j = τ 368 j := back_is w1 (fun j => (v3 _ _ (by unfold mlw pmw; omega)).trans (iu_ne (Or.inl (by omega)))) (fun j hj => (v3 _ _ (by unfold mlw pmw; omega)).trans ((iu_ne (Or.inr (by omega))).trans (w2 _ _ (by omega)))) u1 u2
    have hf : ∀ a j, ¬ mz a j → τ3 a j = τ a j := fun a j z => by
      by_cases c : a = 368
      · rw [c]; exact e368 j
      · rw [u2 a j (by omega), v3 a j (by unfold mz at z; unfold mlw pmw; omega), iu_ne (Or.inl c), w2 a j (by unfold mz at z; omega)]
    exact ⟨rfl, hI.m hf, fun a j z => hf a j (fun y => z (Or.inr (Or.inr y)))⟩
  · rw [ip_ifF (by omega), if_neg hs, ip_P]
    exact ⟨rfl, hI, fun _ _ _ => rfl⟩
theorem two_trial (hI : InvX R τ) (hS : InvS τ) (k v : Int) : two R (iz_Top_trial 0 k v) (iz_Model_trial 367 k v) τ := gv_two (gv_trial hI hS k v) (fun _ q _ => gv_Mtrial q k v)
end
