section
variable {τ : iMem} {R : aRun}
theorem two_laid (hI : InvX R τ) {m : Nat → iM Int} {n : iM Int} {Fn : Int → Prop}
    (hm : ∀ (τ1 : iMem) (Q : Int → iMem → Prop), Cx R 70 53 1 τ1 → (∀ a k, ¬ zw a k → τ1 a k = τ a k) → (∀ r, Fn r → Q r τ1) → ip (m 52) Q τ1)
    (hn : ∀ (τ1 : iMem) (Q : Int → iMem → Prop), Mx R τ1 → (∀ a k, ¬ zw a k → τ1 a k = τ a k) → (∀ r, Fn r → Q r τ1) → ip n Q τ1)
    (h1 : ∀ r r', Fn r → Fn r' → r' = r) : two R (iB (iK 13 (iz_Top_laidOut 0)) m) (iB (iz_Model_lays 367) fun _ => n) τ := by
  unfold two
  rw [ip_B, ip_K]
  refine ip_laidOut hI.1 hI.2.1 (fun τ1 w1 w2 w3 w4 => ⟨t_k, ?_⟩)
  refine hm τ1 _ w3 (fun a k h => w4 a k (fun z => h (Or.inl z))) (fun r hr => ?_)
  have hX := hI.c w1 w4
  rw [ip_B]
  refine ip_lays hX.1 hX.2.2.2 (fun τ2 v1 v3 => ?_)
  have v4 : ∀ a k, ¬ mz a k → τ2 a k = τ1 a k := fun a k h => v3 a k (by unfold mz at h; unfold mlw; omega)
  have hX2 := hX.m v4
  have hf : ∀ a k, ¬ zw a k → τ2 a k = τ a k := fun a k h => (v4 a k (fun z => h (Or.inr (Or.inr z)))).trans (w4 a k (fun z => h (Or.inl z)))
  refine hn τ2 _ ⟨hX2.2.2.2, v1⟩ hf (fun r' hr' => ?_)
  exact ⟨h1 r r' hr hr', hX2, hf⟩
theorem two_Mlaid (hI : InvX R τ) {m n : iM Int} {Fn : Int → Prop}
    (hm : ∀ Q : Int → iMem → Prop, (∀ r, Fn r → Q r τ) → ip m Q τ)
    (hn : ∀ (τ1 : iMem) (Q : Int → iMem → Prop), Mx R τ1 → (∀ a k, ¬ zw a k → τ1 a k = τ a k) → (∀ r, Fn r → Q r τ1) → ip n Q τ1)
    (h1 : ∀ r r', Fn r → Fn r' → r' = r) : two R m (iB (iz_Model_lays 367) fun _ => n) τ := by
  unfold two
  refine hm _ (fun r hr => ?_)
  rw [ip_B]
  refine ip_lays hI.1 hI.2.2.2 (fun τ2 v1 v3 => ?_)
  have v4 : ∀ a k, ¬ mz a k → τ2 a k = τ a k := fun a k h => v3 a k (by unfold mz at h; unfold mlw; omega)
  have hX2 := hI.m v4
  have hf : ∀ a k, ¬ zw a k → τ2 a k = τ a k := fun a k h => v4 a k (fun z => h (Or.inr (Or.inr z)))
  exact hn τ2 _ ⟨hX2.2.2.2, v1⟩ hf (fun r' hr' => ⟨h1 r r' hr hr', hX2, hf⟩)
theorem np_pos (h : 0 < np R) (hw : WF R) : 0 < rn R := by
  have := hw.1.1
  rcases Int.lt_or_eq_of_le this with c | c
  · exact c
  · have e : np R = 0 := by unfold np; rw [← c, fs_0]
    omega
noncomputable def enb (R : aRun) (e : Int) : Int := @ite Int (en R e) (Classical.propDecidable _) 1 0
theorem enb_in (R : aRun) (e : Int) : 0 ≤ enb R e ∧ enb R e ≤ 1 := by
  unfold enb
  by_cases c : en R e
  · rw [if_pos c]; omega
  · rw [if_neg c]; omega
theorem enb_is {R : aRun} {e r : Int} (h : (r = 1 ∧ en R e) ∨ (r = 0 ∧ ¬ en R e)) : r = enb R e := by
  unfold enb
  rcases h with h | h
  · rw [if_pos h.2]; exact h.1
  · rw [if_neg h.2]; exact h.1
noncomputable def pieV (R : aRun) (p k : Int) : Int := if 0 ≤ p ∧ p < np R then (if k = 0 then ow R p else if k = 1 then nu R p else if k = 2 then pH R p else if k = 3 then pG R p else if k = 4 then pN R p else if k = 5 then enb R (p + 1) else if k = 6 then pS R p else -1) else -1
theorem two_piece (hI : InvX R τ) (p k : Int) : two R (iz_Top_piece 0 p k) (iz_Model_piece 367 p k) τ := by
  have hw := hI.1
  have h90 := hw.2.2.2
  have hnp := np_ge hw
  have hff := isFlow_53
  unfold iz_Top_piece iz_Model_piece
  refine two_laid (Fn := fun r => r = pieV R p k) hI (fun τ1 Q w1 _ hQ => ?_) (fun τ1 Q w1 _ hQ => ?_) (fun r r' e e' => e'.trans e.symm)
  · have hQ := hQ _ rfl
    unfold pieV at hQ
    obtain ⟨x1, x2, x3, x4⟩ := id w1
    rw [pr_1 isPress_52, fl_5 hff, fl_6 hff, fl_7 hff, fl_8 hff, fl_9 hff, fl_10 hff]
    by_cases c1 : p < 0
    · rw [if_neg (show ¬ (0 ≤ p ∧ p < np R) by omega)] at hQ
      rw [ip_ifT c1, ip_P]; exact hQ
    · rw [ip_ifF c1, ip_B, ip_Gt, x2.1]
      by_cases c2 : p < np R
      · obtain ⟨a1, a2, a3, a4, a5, a6, a7⟩ := x2.2.2.1.1 p (by omega) c2
        rw [if_pos (show (0 ≤ p ∧ p < np R) by omega)] at hQ
        rw [ip_ifT c2]
        by_cases k0 : k = 0
        · rw [if_pos k0] at hQ
          rw [ip_ifT k0, ip_B, ip_at (by omega) (by rw [fl_l2 hff]; omega), ip_P]
          rw [a1]; exact hQ
        · rw [if_neg k0] at hQ
          rw [ip_ifF k0]
          by_cases k1 : k = 1
          · rw [if_pos k1] at hQ
            rw [ip_ifT k1, ip_B, ip_at (by omega) (by rw [fl_l3 hff]; omega), ip_P]
            rw [a2]; exact hQ
          · rw [if_neg k1] at hQ
            rw [ip_ifF k1]
            by_cases k2 : k = 2
            · rw [if_pos k2] at hQ
              rw [ip_ifT k2, ip_B, ip_at (by omega) (by rw [fl_l4 hff]; omega), ip_P]
              rw [a3]; exact hQ
            · rw [if_neg k2] at hQ
              rw [ip_ifF k2]
              by_cases k3 : k = 3
              · rw [if_pos k3] at hQ
                rw [ip_ifT k3, ip_B, ip_at (by omega) (by rw [fl_l5 hff]; omega), ip_P]
                rw [a4]; exact hQ
              · rw [if_neg k3] at hQ
                rw [ip_ifF k3]
                by_cases k4 : k = 4
                · rw [if_pos k4] at hQ
                  rw [ip_ifT k4, ip_B, ip_at (by omega) (by rw [fl_l6 hff]; omega), ip_P]
                  rw [a5]; exact hQ
                · rw [if_neg k4] at hQ
                  rw [ip_ifF k4]
                  by_cases k5 : k = 5
                  · rw [if_pos k5] at hQ
                    rw [ip_ifT k5, ip_A]
                    refine ⟨⟨by omega, by omega⟩, ?_⟩
                    rw [ip_B]
                    refine ip_mayEnd hff hw x3 (np_pos (by omega) hw) (by omega) (by omega) (fun r hr => ?_)
                    rw [← enb_is hr] at hQ
                    by_cases z : r = 0
                    · rw [ip_ifT z, ip_P, ← z]; exact hQ
                    · rw [ip_ifF z, ip_P, ← show r = 1 by omega]; exact hQ
                  · rw [if_neg k5] at hQ
                    rw [ip_ifF k5]
                    by_cases k6 : k = 6
                    · rw [if_pos k6] at hQ
                      rw [ip_ifT k6, ip_B, ip_at (by omega) (by rw [fl_l7 hff]; omega), ip_P]
                      rw [a6]; exact hQ
                    · rw [if_neg k6] at hQ
                      rw [ip_ifF k6, ip_P]
                      exact hQ
      · rw [if_neg (show ¬ (0 ≤ p ∧ p < np R) by omega)] at hQ
        rw [ip_ifF c2, ip_P]; exact hQ
  · have hQ := hQ _ rfl
    unfold pieV at hQ
    obtain ⟨f1, f2, f3, f4, f5, f6, f7, f8⟩ := id w1.2
    rw [ip_B, ip_Gt, f1, ip_A]
    refine ⟨⟨by omega, by omega⟩, ?_⟩
    rw [ip_B, ip_in]
    by_cases c : p < 0 ∨ np R - 1 < p
    · rw [if_neg (show ¬ (0 ≤ p ∧ p < np R) by omega)] at hQ
      rw [if_pos c, ip_ifF (by omega), ip_P]; exact hQ
    · obtain ⟨a1, a2, a3, a4, a5, a6⟩ := f3 p (by omega) (by omega)
      have a7 := f5 p (by omega) (by omega)
      rw [if_pos (show (0 ≤ p ∧ p < np R) by omega)] at hQ
      rw [if_neg c, ip_ifT (by omega)]
      by_cases k0 : k = 0
      · rw [if_pos k0] at hQ
        rw [ip_ifT k0, ip_B, ip_Ld, m_6, l_373, ip_P]
        exact ⟨⟨by omega, by omega⟩, by rw [a1]; exact hQ⟩
      · rw [if_neg k0] at hQ
        rw [ip_ifF k0]
        by_cases k1 : k = 1
        · rw [if_pos k1] at hQ
          rw [ip_ifT k1, ip_B, ip_Ld, m_7, l_374, ip_P]
          exact ⟨⟨by omega, by omega⟩, by rw [a2]; exact hQ⟩
        · rw [if_neg k1] at hQ
          rw [ip_ifF k1]
          by_cases k2 : k = 2
          · rw [if_pos k2] at hQ
            rw [ip_ifT k2, ip_B, ip_Ld, m_8, l_375, ip_P]
            exact ⟨⟨by omega, by omega⟩, by rw [a3]; exact hQ⟩
          · rw [if_neg k2] at hQ
            rw [ip_ifF k2]
            by_cases k3 : k = 3
            · rw [if_pos k3] at hQ
              rw [ip_ifT k3, ip_B, ip_Ld, m_9, l_376, ip_P]
              exact ⟨⟨by omega, by omega⟩, by rw [a4]; exact hQ⟩
            · rw [if_neg k3] at hQ
              rw [ip_ifF k3]
              by_cases k4 : k = 4
              · rw [if_pos k4] at hQ
                rw [ip_ifT k4, ip_B, ip_Ld, m_10, l_377, ip_P]
                exact ⟨⟨by omega, by omega⟩, by rw [a5]; exact hQ⟩
              · rw [if_neg k4] at hQ
                rw [ip_ifF k4]
                by_cases k5 : k = 5
                · rw [if_pos k5] at hQ
                  rw [ip_ifT k5, ip_B, ip_Ld, m_12, l_379]
                  refine ⟨⟨by omega, by omega⟩, ?_⟩
                  by_cases z : τ1 379 p = 0
                  · rw [ip_ifT z, ip_P, enb_is (Or.inr ⟨rfl, fun q => (a7.2.mpr q) z⟩)]; exact hQ
                  · rw [ip_ifF z, ip_P, enb_is (Or.inl ⟨rfl, a7.2.mp z⟩)]; exact hQ
                · rw [if_neg k5] at hQ
                  rw [ip_ifF k5]
                  by_cases k6 : k = 6
                  · rw [if_pos k6] at hQ
                    rw [ip_ifT k6, ip_B, ip_Ld, m_11, l_378, ip_P]
                    exact ⟨⟨by omega, by omega⟩, by rw [a6]; exact hQ⟩
                  · rw [if_neg k6] at hQ
                    rw [ip_ifF k6, ip_P]
                    exact hQ
end
