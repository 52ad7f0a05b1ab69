section
variable {τ : iMem} {R : aRun}
theorem ip_fillM {r : Nat} {a b : Int} {g : Int → iM Int} {v : Int → Int} {Q : Unit → iMem → Prop} (hr : r < 405) (a0 : 0 ≤ a) (ab : a ≤ b + 1) (hb : b < iLen r) (hl : b ≤ 2000)
    (hg : ∀ (j : Int) (τ' : iMem) (Q' : Int → iMem → Prop), a ≤ j → j ≤ b → (∀ x k, x ≠ r → τ' x k = τ x k) → Q' (v j) τ' → ip (g j) Q' τ')
    (hQ : ∀ τ', (∀ e, a ≤ e → e ≤ b → τ' r e = v e) → (∀ x k, ¬ (x = r ∧ a ≤ k ∧ k ≤ b) → τ' x k = τ x k) → Q () τ') :
    ip (iW (S := Int) (α := Unit) (fun j => if b < j then iP (Sum.inr ()) else iB (g j) fun y => iB (iSt r j y) fun _ => iA (j + 1) fun y1 => iB (iP y1) fun x => iP (Sum.inl x)) a) Q τ := by
  refine ip_W (fun j τ' => (a ≤ j ∧ j ≤ b + 1) ∧ (∀ e, a ≤ e → e < j → τ' r e = v e) ∧ (∀ x k, ¬ (x = r ∧ a ≤ k ∧ k ≤ b) → τ' x k = τ x k)) (fun j _ => (b + 1 - j).toNat) ?_ ⟨⟨Int.le_refl _, ab⟩, fun e e0 e1 => by omega, fun _ _ _ => rfl⟩
  intro j τ' ⟨b1, b2, b3⟩
  by_cases z : b < j
  · rw [ip_ifT z, ip_P]
    exact hQ τ' (fun e e0 e1 => b2 e e0 (by omega)) b3
  · rw [ip_ifF z, ip_B]
    refine hg j τ' _ b1.1 (by omega) (fun x k h => b3 x k (by omega)) ?_
    rw [ip_B, ip_St]
    refine ⟨⟨⟨by omega, by omega⟩, hr⟩, ?_⟩
    rw [ip_A]
    refine ⟨⟨by omega, by omega⟩, ?_⟩
    rw [ip_B, ip_P, ip_P]
    simp only [Sum.elim_inl]
    refine ⟨⟨⟨by omega, by omega⟩, fun e e0 e1 => ?_, fun x k h => by rw [iu_ne (by omega)]; exact b3 x k h⟩, by omega⟩
    by_cases d : e = j
    · subst d; exact iu_eq
    · rw [iu_ne (Or.inr d)]; exact b2 e e0 (by omega)
theorem gv_Mreach (hI : InvX R τ) (s k h : Int) : gv R (iz_Model_reach 367 s k h) (reaV R s k h) τ := by
  have hw := hI.1
  have h90 := hw.2.2.2
  have hb := bg_step hw s
  have hns := ns_in hw
  have hn16 := hw.1.2
  unfold iz_Model_reach
  refine gv_Masks hI (fun a1 a2 τ1 hX hx => ?_) (fun z => if_neg (fun q => z q.1.1))
  unfold gv
  rw [ip_B, ip_in]
  by_cases ck : k < 1 ∨ 5 < k
  · have ev : reaV R s k h = -1 := if_neg (by omega)
    rw [if_pos ck, ip_ifT rfl, ip_P, ev]
    exact ⟨rfl, hX, fun _ _ _ => rfl⟩
  · rw [if_neg ck, ip_ifF (by omega), ip_B, ip_in]
    by_cases ch : h < 0 ∨ 2000 < h
    · have ev : reaV R s k h = -1 := if_neg (by omega)
      rw [if_pos ch, ip_ifF (by omega), ip_P, ev]
      exact ⟨rfl, hX, fun _ _ _ => rfl⟩
    · have ev : reaV R s k h = reaW R s k h := if_pos ⟨⟨⟨a1, a2⟩, by omega⟩, by omega⟩
      have hrow := rch_ok hw a1 a2 (h := h) (by omega)
      have e380 := hx.2.2.2.2.2.2.1 s a1 (by omega)
      rw [if_neg ch, ip_ifT (by omega), m_40, m_41, ip_B, ip_Ld, m_14, l_380, e380]
      refine ⟨⟨by omega, by omega⟩, ?_⟩
      rw [ip_B, ip_endOf hx.2 hw a1 a2, ip_B]
      refine ip_fillM (g := fun j => if ¬ j = bg R s then iP 100000 else iP 0) (v := fun e => m1 (rch R s h 0 e)) (by omega) (by omega) (by omega) (by rw [l_399]; omega) (by omega) (fun j τ' Q' j0 j1 _ hq => ?_) (fun τ2 w1 w2 => ?_)
      · have er : rch R s h 0 j = if j = bg R s then 0 else -1 := rfl
        try dsimp only at hq
        rw [er] at hq
        by_cases d : j = bg R s
        · rw [if_pos d] at hq
          try dsimp only
          rw [ip_ifF (by omega), ip_P]; exact hq
        · rw [if_neg d] at hq
          try dsimp only
          rw [ip_ifT d, ip_P]; exact hq
      · rw [ip_B]
        refine ip_mono (Q := fun _ τ3 => (∀ e, bg R s ≤ e → e ≤ bg R (s + 1) → τ3 399 e = m1 (rch R s h k.toNat e)) ∧ (∀ x j, ¬ (x = 399 ∨ x = 400) → τ3 x j = τ1 x j)) ?_ (fun _ τ3 e3 => ?_)
        · refine ip_W (fun i τ3 => (0 ≤ i ∧ i ≤ k) ∧ (∀ e, bg R s ≤ e → e ≤ bg R (s + 1) → τ3 399 e = m1 (rch R s h i.toNat e)) ∧ (∀ x j, ¬ (x = 399 ∨ x = 400) → τ3 x j = τ1 x j)) (fun i _ => (k - i).toNat) ?_ ⟨⟨Int.le_refl _, by omega⟩, fun e e0 e1 => w1 e e0 e1, fun x j y => w2 x j (by omega)⟩
          intro i τ3 ⟨b1, b2, b3⟩
          by_cases c : k ≤ i
          · rw [ip_ifT c, ip_P]
            have ei : i = k := by omega
            subst ei
            exact ⟨b2, b3⟩
          · rw [ip_ifF c, ip_B]
            refine ip_fillM (τ := τ3) (r := 400) (a := bg R s) (b := bg R (s + 1)) (g := fun _ => iP 100000) (v := fun _ => 100000) (by omega) (by omega) (by omega) (by rw [l_400]; omega) (by omega) (fun j τ' Q' _ _ _ hq => by rw [ip_P]; exact hq) (fun τ4 x1 x2 => ?_)
            rw [ip_B]
            refine ip_mono (Q := fun _ τ5 => (∀ e, bg R s ≤ e → e ≤ bg R (s + 1) → τ5 400 e = m1 (rch R s h (i.toNat + 1) e)) ∧ (∀ x j, ¬ (x = 400) → τ5 x j = τ3 x j)) ?_ (fun _ τ5 e5 => ?_)
            · refine ip_W (fun p τ5 => (bg R s ≤ p ∧ p ≤ bg R (s + 1) + 1) ∧ (∀ e, bg R s ≤ e → e ≤ bg R (s + 1) → τ5 400 e = m1 (frN R h (bg R s) (rch R s h i.toNat) e (p - bg R s).toNat)) ∧ (∀ x j, ¬ (x = 400) → τ5 x j = τ3 x j)) (fun p _ => (bg R (s + 1) + 1 - p).toNat) ?_ ⟨⟨Int.le_refl _, by omega⟩, fun e e0 e1 => ?_, fun x j y => x2 x j (by omega)⟩
              · intro p τ5 ⟨g1, g3, g4⟩
                have hx5 : Mx R τ5 := hx.frame (fun a k z => (g4 a k (by omega)).trans (b3 a k (by omega)))
                by_cases z : bg R (s + 1) < p
                · rw [ip_ifT z, ip_P]
                  refine ⟨fun e e0 e1 => ?_, g4⟩
                  rw [g3 e e0 e1, show p = bg R (s + 1) + 1 by omega]
                  rfl
                · have gp : τ5 399 p = m1 (rch R s h i.toNat p) := (g4 _ _ (by omega)).trans (b2 p g1.1 (by omega))
                  have hsp := hrow i.toNat p g1.1 (by omega)
                  have en : (p + 1 - bg R s).toNat = (p - bg R s).toNat + 1 := by omega
                  have ep : bg R s + (((p - bg R s).toNat : Nat) : Int) = p := by omega
                  have tail : ∀ τ6 : iMem, (∀ e, bg R s ≤ e → e ≤ bg R (s + 1) → τ6 400 e = m1 (frN R h (bg R s) (rch R s h i.toNat) e ((p - bg R s).toNat + 1))) → (∀ a k, a ≠ 400 → τ6 a k = τ5 a k) → ip (iA (p + 1) fun y2 => iB (iP y2) fun x16 => iP (Sum.inl x16 : Int ⊕ Unit)) (fun r2 τ'' => Sum.elim (fun s' => ((bg R s ≤ s' ∧ s' ≤ bg R (s + 1) + 1) ∧ (∀ e, bg R s ≤ e → e ≤ bg R (s + 1) → τ'' 400 e = m1 (frN R h (bg R s) (rch R s h i.toNat) e (s' - bg R s).toNat)) ∧ (∀ x j, ¬ (x = 400) → τ'' x j = τ3 x j)) ∧ (bg R (s + 1) + 1 - s').toNat < (bg R (s + 1) + 1 - p).toNat) (fun _ => (∀ e, bg R s ≤ e → e ≤ bg R (s + 1) → τ'' 400 e = m1 (rch R s h (i.toNat + 1) e)) ∧ (∀ x j, ¬ (x = 400) → τ'' x j = τ3 x j)) r2) τ6 := by
                    intro τ6 u1 u2
                    rw [ip_A]
                    refine ⟨⟨by omega, by omega⟩, ?_⟩
                    rw [ip_B, ip_P, ip_P]
                    simp only [Sum.elim_inl]
                    refine ⟨⟨⟨by omega, by omega⟩, fun e e0 e1 => ?_, fun x j y => by rw [u2 x j y]; exact g4 x j y⟩, by omega⟩
                    rw [en]; exact u1 e e0 e1
                  rw [ip_ifF z, ip_B, ip_Ld, l_399, gp]
                  refine ⟨⟨by omega, by omega⟩, ?_⟩
                  rw [ip_B]
                  by_cases z2 : rch R s h i.toNat p = -1
                  · rw [ip_ifT (by unfold m1; rw [if_pos z2]; omega), ip_P]
                    exact tail τ5 (fun e e0 e1 => by rw [frN_skip (Or.inl (by rw [ep]; exact z2))]; exact g3 e e0 e1) (fun _ _ _ => rfl)
                  · have hm : m1 (rch R s h i.toNat p) = rch R s h i.toNat p := if_neg z2
                    rw [ip_ifF (by rw [hm]; omega), ip_B]
                    refine ip_goesOn (c := rch R s h i.toNat p) (t := fun e => frN R h (bg R s) (rch R s h i.toNat) e (p - bg R s).toNat) hw hx5 a1 a2 g1.1 (by omega) (by
                      rcases hsp with q | q
                      · exact absurd q z2
                      · exact q.2) (by omega) (by omega) (by omega) (by omega) (gp.trans hm) (fun e e0 e1 => g3 e (by omega) e1) (fun e e0 e1 => ?_) (fun τ6 u1 u2 => ?_)
                    · have := frN_ok hw (h := h) (a := bg R s) (b := bg R (s + 1)) (src := rch R s h i.toNat) (by omega) hb.1 hb.2.2 (hrow i.toNat) (e := e) (by omega) e1 (p - bg R s).toNat (by omega)
                      show -1 ≤ frN R h (bg R s) (rch R s h i.toNat) e (p - bg R s).toNat ∧ frN R h (bg R s) (rch R s h i.toNat) e (p - bg R s).toNat < 20
                      omega
                    · rw [ip_P]
                      refine tail τ6 (fun e e0 e1 => ?_) (fun a k y => u2 a k (by omega))
                      by_cases z3 : e < p
                      · rw [u2 _ _ (by omega), g3 e e0 e1, frN_skip (Or.inr (Or.inl (by rw [ep]; exact z3)))]
                      · rw [u1 e (by omega) e1]
                        by_cases z4 : enb R e = 0
                        · rw [if_pos z4, frN_skip (Or.inr (Or.inr z4))]
                        · rw [if_neg z4, frN_s, ep, if_neg (show ¬ (rch R s h i.toNat p = -1 ∨ e < p ∨ enb R e = 0) by omega)]
              · rw [x1 e e0 e1, show (bg R s - bg R s).toNat = 0 by omega]
                rfl
            · rw [ip_B]
              refine ip_fillM (g := fun j => iLd 400 j) (v := fun e => m1 (rch R s h (i.toNat + 1) e)) (by omega) (by omega) (by omega) (by rw [l_399]; omega) (by omega) (fun j τ' Q' j0 j1 hq0 hq => ?_) (fun τ6 y1 y2 => ?_)
              · try dsimp only at hq ⊢
                rw [ip_Ld, l_400, hq0 400 j (by omega), e5.1 j j0 j1]
                exact ⟨⟨by omega, by omega⟩, hq⟩
              · rw [ip_A]
                refine ⟨⟨by omega, by omega⟩, ?_⟩
                rw [ip_B, ip_P, ip_P]
                simp only [Sum.elim_inl]
                refine ⟨⟨⟨by omega, by omega⟩, fun e e0 e1 => ?_, fun x j y => by rw [y2 x j (by omega), e5.2 x j (by omega)]; exact b3 x j y⟩, by omega⟩
                rw [show (i + 1).toNat = i.toNat + 1 by omega]
                exact y1 e e0 e1
        · have hI3 : InvX R τ3 := hX.m (fun a k z => e3.2 a k (by unfold mz at z; omega))
          have fin : ∀ a j, ¬ zw a j → τ3 a j = τ1 a j := fun a j z => e3.2 a j (by unfold zw mz at z; omega)
          rw [ip_B]
          refine ip_mono (Q := fun v τ4 => (v = Sum.inr (reaW R s k h) ∨ (v = Sum.inl () ∧ reaW R s k h = -2)) ∧ τ4 = τ3) ?_ (fun v τ4 e => ?_)
          · refine ip_W (fun i τ4 => (bg R s - 1 ≤ i ∧ i ≤ bg R (s + 1)) ∧ (∀ e, i < e → e ≤ bg R (s + 1) → rch R s h k.toNat e = -1) ∧ τ4 = τ3) (fun i _ => (i + 1 - bg R s).toNat) ?_ ⟨⟨by omega, Int.le_refl _⟩, fun e e0 e1 => by omega, rfl⟩
            intro i τ4 ⟨g1, g2, g3⟩
            subst g3
            by_cases z : i < bg R s
            · rw [ip_ifT z, ip_P]
              exact ⟨Or.inr ⟨rfl, rea_no (fun e e0 e1 => g2 e (by omega) e1)⟩, rfl⟩
            · have hsp := hrow k.toNat i (by omega) g1.2
              rw [ip_ifF z, ip_B, ip_Ld, l_399, e3.1 i (by omega) g1.2]
              refine ⟨⟨by omega, by omega⟩, ?_⟩
              by_cases z2 : rch R s h k.toNat i = -1
              · rw [ip_ifT (by unfold m1; rw [if_pos z2]; omega), ip_A]
                refine ⟨⟨by omega, by omega⟩, ?_⟩
                rw [ip_B, ip_P, ip_P]
                simp only [Sum.elim_inl]
                refine ⟨⟨⟨by omega, by omega⟩, fun e e0 e1 => ?_, trivial⟩, by omega⟩
                by_cases y : e = i
                · subst y; exact z2
                · exact g2 e (by omega) e1
              · rw [ip_ifF (by unfold m1; rw [if_neg z2]; omega), ip_P]
                exact ⟨Or.inl (by rw [rea_is hw (by omega) g1.2 z2 g2]), rfl⟩
          · rw [e.2, ev]
            rcases e.1 with q | ⟨q, q2⟩
            · rw [q]
              simp only [Sum.elim_inr, ip_P]
              exact ⟨trivial, hI3, fin⟩
            · rw [q]
              simp only [Sum.elim_inl, ip_P]
              exact ⟨q2.symm, hI3, fin⟩
theorem two_reach (hI : InvX R τ) (s k h : Int) : two R (iz_Top_reach 0 s k h) (iz_Model_reach 367 s k h) τ := gv_two (gv_reach hI s k h) (fun _ q _ => gv_Mreach q s k h)
end
