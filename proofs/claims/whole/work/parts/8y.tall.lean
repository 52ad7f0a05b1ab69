section
variable {τ : iMem} {R : aRun}
theorem RS_self {o : Nat} (h : RunC τ o R) : RunC τ o (RS R 1 (rs R 1)) := by
  refine ⟨h.1, fun k k0 k1 => ?_, h.2.2⟩
  show _ = if k = 1 then rs R 1 else rs R k
  by_cases c : k = 1
  · rw [if_pos c, c]; exact h.2.1 1 (by omega) (by omega)
  · rw [if_neg c]; exact h.2.1 k k0 k1
theorem RS_again {o : Nat} {x y : Int} (h : RunC τ o (RS R 1 y)) : RunC (iu τ (o + 1) 1 x) o (RS R 1 x) := by
  have g := RS_rc (j := 1) (x := x) h
  refine ⟨g.1, fun k k0 k1 => ?_, g.2.2⟩
  have e := g.2.1 k k0 k1
  rw [e]
  show (if k = 1 then x else if k = 1 then y else rs R k) = if k = 1 then x else rs R k
  by_cases c : k = 1
  · rw [if_pos c, if_pos c]
  · rw [if_neg c, if_neg c, if_neg c]
/-- the asked press stands ready, whatever its HEIGHT -/
def rdy (R : aRun) (τ : iMem) : Prop := InvX R τ ∧ (∃ y, RunC τ 323 (RS R 1 y)) ∧ FlB R 326 τ ∧ FlE R 326 τ ∧ FtI R 343 τ
theorem gv_tall (hI : InvX R τ) (hS : InvS τ) (p : Int) : gv R (iz_Top_tall 0 p) (talV R p) τ := by
  have hw := hI.1
  have hC := hw.2.1.1
  have h90 := hw.2.2.2
  unfold gv iz_Top_tall talV
  by_cases c1 : p < 0
  · rw [ip_ifT c1, ip_P, if_neg (show ¬ (0 ≤ p ∧ p ≤ 40) by omega)]
    exact ⟨rfl, hI, fun _ _ _ => rfl⟩
  · rw [ip_ifF c1]
    by_cases c2 : p ≤ 40
    · rw [ip_ifT c2, if_pos (show (0 ≤ p ∧ p ≤ 40) by omega), t_0, t_7, p_0, pr_1 isPress_322, ip_B]
      refine ip_ask hI (fun τ1 x1 x2 x3 => ?_)
      rw [ip_B]
      refine ip_Play isPress_322 hw x2 x1.2.2.1.1 x1.2.2.1.2.1 (fun τ2 v1 v2 => ?_)
      have hf2 : ∀ a j, a < 322 ∨ 366 < a → τ2 a j = τ a j := fun a j h => by rw [v2 a j (by omega), x3 a j (by omega)]
      have hI2 : InvX R τ2 := x1.b ⟨v1.2.1.z hw, v1.2.2.2.l, by rw [v2 322 5 (by omega), v2 322 6 (by omega)]; exact x1.2.2.1.2.2⟩ (fun a j h => v2 a j (by omega))
      have hS2 : InvS τ2 := hS.frame (fun a k h => hf2 a k (by omega))
      have s1 := hS2 1 (by omega) (by omega)
      have e1 : lwV 1 = 10 := rfl
      have e2 : hiV 1 = 400 := rfl
      rw [ip_B, ip_Ld, l_407, s1.2, e2]
      refine ⟨⟨by omega, by omega⟩, ?_⟩
      rw [ip_B]
      refine ip_allHeights (ft_F (pr_F isPress_322)) hw v1.2.1 ?_
      rw [ip_B, ip_Ld, l_406, s1.1, e1]
      refine ⟨⟨by omega, by omega⟩, ?_⟩
      rw [ip_B]
      refine ip_mono (Q := fun v τ3 => (v = Sum.inr (talN R p 391) ∨ (v = Sum.inl () ∧ talN R p 391 = -2)) ∧ InvX R τ3 ∧ (∀ a j, a < 322 ∨ 366 < a → τ3 a j = τ a j)) ?_ (fun v τ3 e => ?_)
      · refine ip_W (fun i τ3 => (10 ≤ i ∧ i ≤ 401) ∧ talN R p (i - 10).toNat = -2 ∧ rdy R τ3 ∧ (∀ a j, a < 322 ∨ 366 < a → τ3 a j = τ a j)) (fun i _ => (401 - i).toNat) ?_ ⟨⟨Int.le_refl _, by omega⟩, rfl, ⟨hI2, ⟨_, RS_self v1.1⟩, v1.2.1, v1.2.2.1, v1.2.2.2⟩, hf2⟩
        intro i τ3 ⟨b1, b2, b3, b4⟩
        obtain ⟨r1, ⟨y, r2⟩, r3, r4, r5⟩ := b3
        by_cases z : 400 < i
        · rw [ip_ifT z, ip_P]
          exact ⟨Or.inr ⟨rfl, by rw [show (391 : Nat) = (i - 10).toNat by omega]; exact b2⟩, r1, b4⟩
        · have hs : okS 1 i := by unfold okS lwV hiV; omega
          have hw' := RS_wf hw hs
          have hts := tal_s (R := R) (p := p) (i - 10).toNat
          rw [if_neg (show ¬ talN R p (i - 10).toNat ≠ -2 by omega), show 10 + (((i - 10).toNat : Nat) : Int) = i by omega] at hts
          have hmul : p * rs R 0 ≤ 40 * 5 := Int.mul_le_mul c2 hC.2 (by omega) (by omega)
          have hmul0 : 0 ≤ p * rs R 0 := Int.mul_nonneg (by omega) (by omega)
          have hmul2 : p * rs R 0 * i ≤ 200 * 400 := Int.mul_le_mul (by omega) (by omega) (by omega) (by omega)
          have hmul3 : 0 ≤ p * rs R 0 * i := Int.mul_nonneg hmul0 (by omega)
          rw [ip_ifF z, ip_B, ip_settingC isRun_1 r1.2.1.1 (by omega) (by omega), ip_B, ip_A]
          refine ⟨⟨by omega, by omega⟩, ?_⟩
          rw [ip_A]
          refine ⟨⟨by omega, by omega⟩, ?_⟩
          have next : ∀ τ4 : iMem, rdy R τ4 → (∀ a j, a < 322 ∨ 366 < a → τ4 a j = τ a j) → ¬ (0 ≤ ans (RS R 1 i) ∧ ans (RS R 1 i) ≤ p) → ip (iA (i + 1) fun y3 => iB (iP y3) fun x9 => iP (Sum.inl x9 : Int ⊕ (Unit ⊕ Int))) (fun r τ' => Sum.elim (fun s' => ((10 ≤ s' ∧ s' ≤ 401) ∧ talN R p (s' - 10).toNat = -2 ∧ rdy R τ' ∧ (∀ a j, a < 322 ∨ 366 < a → τ' a j = τ a j)) ∧ (401 - s').toNat < (401 - i).toNat) (fun v => (v = Sum.inr (talN R p 391) ∨ (v = Sum.inl () ∧ talN R p 391 = -2)) ∧ InvX R τ' ∧ (∀ a j, a < 322 ∨ 366 < a → τ' a j = τ a j)) r) τ4 := by
            intro τ4 q1 q2 q3
            rw [ip_A]
            refine ⟨⟨by omega, by omega⟩, ?_⟩
            rw [ip_B, ip_P, ip_P]
            simp only [Sum.elim_inl]
            refine ⟨⟨⟨by omega, by omega⟩, ?_, q1, q2⟩, by omega⟩
            rw [show (i + 1 - 10).toNat = (i - 10).toNat + 1 by omega, hts, if_neg q3]
          by_cases z1 : p * rs R 0 * i < hH R (np R)
          · rw [ip_ifT z1, ip_P]
            simp only [Sum.elim_inl]
            refine next τ3 ⟨r1, ⟨y, r2⟩, r3, r4, r5⟩ b4 (fun q => ?_)
            have t := tall_le hw' q.1
            have t' : hH R (np R) ≤ ans (RS R 1 i) * (rs (RS R 1 i) 0 * rs (RS R 1 i) 1) := t
            have e3 : rs (RS R 1 i) 1 = i := (show (if (1 : Int) = 1 then i else rs R 1) = i from if_pos rfl)
            rw [H_0, e3] at t'
            have hnn : 0 ≤ rs R 0 * i := Int.mul_nonneg (by omega) (by omega)
            have t2 : ans (RS R 1 i) * (rs R 0 * i) ≤ p * (rs R 0 * i) := Int.mul_le_mul_of_nonneg_right q.2 hnn
            rw [← Int.mul_assoc p] at t2
            omega
          · rw [ip_ifF z1, ip_B]
            refine ip_put (hS.frame (fun a k h => b4 a k (by omega))) hs ?_
            have hx : Cx (RS R 1 i) 343 326 323 (iu τ3 324 1 i) := ⟨RS_again r2, H_FlB.mpr (r3.frame (fun a k _ _ => iu_ne (Or.inl (by omega)))), H_FlE.mpr (r4.frame (fun a k _ _ => iu_ne (Or.inl (by omega)))), H_FtI.mpr (r5.frame (fun a k _ _ => iu_ne (Or.inl (by omega))))⟩
            rw [ip_B]
            refine ip_pourAll isPress_322 hw' hx (fun τ4 w1 w2 w3 => ?_)
            have hok := (pou_ok hw').1
            have hf4 : ∀ a k, a < 322 ∨ 366 < a → τ4 a k = τ3 a k := fun a k h => (w3 a k (by have : (5 : Int).toNat = 5 := rfl; unfold pww prw fw; omega)).trans (iu_ne (Or.inl (by omega)))
            have hI4 : InvX R τ4 := r1.b ⟨w1.2.1.z hw', w1.2.2.2.l, by rw [w2.1.2.1]; exact hok.2.1, by rw [w2.1.2.2]; exact hok.2.2.1⟩ hf4
            have hr4 : rdy R τ4 := ⟨hI4, ⟨i, w1.1⟩, H_FlB.mp w1.2.1, H_FlE.mp w1.2.2.1, H_FtI.mp w1.2.2.2⟩
            have hg4 : ∀ a j, a < 322 ∨ 366 < a → τ4 a j = τ a j := fun a j h => (hf4 a j h).trans (b4 a j h)
            by_cases z2 : ans (RS R 1 i) < 0
            · rw [ip_ifT z2, ip_P]
              simp only [Sum.elim_inl]
              exact next τ4 hr4 hg4 (by omega)
            · rw [ip_ifF z2]
              by_cases z3 : p < ans (RS R 1 i)
              · rw [ip_ifT z3, ip_P]
                simp only [Sum.elim_inl]
                exact next τ4 hr4 hg4 (by omega)
              · rw [ip_ifF z3, ip_P]
                simp only [Sum.elim_inr, ip_P]
                rw [if_pos (show 0 ≤ ans (RS R 1 i) ∧ ans (RS R 1 i) ≤ p by omega)] at hts
                have st := tal_stay (R := R) (p := p) (n := (i - 10).toNat + 1) (by omega) (391 - ((i - 10).toNat + 1))
                rw [show (i - 10).toNat + 1 + (391 - ((i - 10).toNat + 1)) = 391 by omega, hts] at st
                exact ⟨Or.inl (by rw [st]), hI4, hg4⟩
      · have fin : InvX R τ3 ∧ ∀ a k, ¬ zw a k → τ3 a k = τ a k := ⟨e.2.1, fun a k z => e.2.2 a k (by unfold zw at z; omega)⟩
        rcases e.1 with q | ⟨q, q2⟩
        · rw [q]
          simp only [Sum.elim_inr, ip_P]
          exact ⟨trivial, fin⟩
        · rw [q]
          simp only [Sum.elim_inl, ip_P]
          exact ⟨q2.symm, fin⟩
    · rw [ip_ifF c2, ip_P, if_neg (show ¬ (0 ≤ p ∧ p ≤ 40) by omega)]
      exact ⟨rfl, hI, fun _ _ _ => rfl⟩
theorem two_tall (hI : InvX R τ) (hS : InvS τ) (p : Int) : two R (iz_Top_tall 0 p) (iz_Model_tall 367 p) τ := gv_two (gv_tall hI hS p) (fun _ q _ => gv_Mtall q p)
end
