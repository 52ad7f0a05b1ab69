section
variable {τ : iMem} {R : aRun}
/-- what is counted beside the RUN -/
def couX (τ : iMem) (a b c : Int) : Prop := (τ 13 2 = a ∧ τ 367 2 = a) ∧ (τ 4 1 = b ∧ τ 367 45 = b) ∧ (τ 0 5 = c ∧ (if τ 371 0 = 0 then 0 else 1) + (if τ 371 1 = 0 then 0 else 2) = c)
noncomputable def couV (R : aRun) (a b c k : Int) : Int := if 10 ≤ k ∧ k < 18 then rs R (k - 10) else if k = 0 then rn R else if k = 1 then np R else if k = 2 then ns R else if k = 3 then nc R (np R) else if k = 4 then a else if k = 5 then b else if k = 6 then c else if k = 7 then (if ns R = 0 then 0 else ns R - 1) else -1
theorem couX_f {τ' : iMem} {a b c : Int} (h : couX τ a b c) (hf : ∀ a k, ¬ zw a k → τ' a k = τ a k) : couX τ' a b c := by
  unfold couX at *
  rw [hf 13 2 (by unfold zw qw mz; omega), hf 367 2 (by unfold zw qw mz; omega), hf 4 1 (by unfold zw qw mz; omega), hf 367 45 (by unfold zw qw mz; omega), hf 0 5 (by unfold zw qw mz; omega), hf 371 0 (by unfold zw qw mz; omega), hf 371 1 (by unfold zw qw mz; omega)]
  exact h
theorem gv_count (hI : InvX R τ) {a b c : Int} (hc : couX τ a b c) (k : Int) : gv R (iz_Top_count 0 k) (couV R a b c k) τ := by
  have hw := hI.1
  have hns := ns_in hw
  have hn16 := hw.1.2
  have hR := hI.2.1.1
  unfold iz_Top_count couV
  by_cases c0 : 10 ≤ k ∧ k < 18
  · rw [if_pos c0]
    refine gv_const hI (fun Q h => ?_)
    rw [ip_B, ip_ifF (by omega), ip_ifF (by omega), ip_A]
    refine ⟨⟨by omega, by omega⟩, ?_⟩
    rw [t_0, ip_B, ip_settingC isRun_1 hR (by omega) (by omega), ip_P]
    simp only [Sum.elim_inr, ip_P]
    exact h
  · rw [if_neg c0]
    have lift : ∀ (m : iM Int) (Q : Int → iMem → Prop), ip m Q τ → ip (iB (α := (Unit ⊕ Int)) (if k < 10 then iP (Sum.inl ()) else if 18 ≤ k then iP (Sum.inl ()) else iA (k - 10) fun y1 => iB (iz_Run_setting (qm_rf 0 0) y1) fun x2 => iP (Sum.inr x2)) (Sum.elim (fun s1 => m) iP)) Q τ := by
      intro m Q h
      rw [ip_B]
      by_cases d : k < 10
      · rw [ip_ifT d, ip_P]
        simp only [Sum.elim_inl]; exact h
      · rw [ip_ifF d, ip_ifT (by omega), ip_P]
        simp only [Sum.elim_inl]; exact h
    refine gv_to (m' := _) (lift _) ?_
    by_cases k0 : k = 0
    · rw [if_pos k0, if_pos k0]
      exact gv_const hI (fun Q h => by rw [t_0, ip_B, ip_Gt, hR.1, ip_P]; exact h)
    · rw [if_neg k0, if_neg k0]
      by_cases k1 : k = 1
      · rw [if_pos k1, if_pos k1]
        refine gv_laid hI (fun τ1 Q w1 _ hQ => ?_)
        rw [pr_1 isPress_52, ip_B, ip_Gt, w1.2.1.1, ip_P]; exact hQ
      · rw [if_neg k1, if_neg k1]
        by_cases k2 : k = 2
        · rw [if_pos k2, if_pos k2]
          refine gv_laid hI (fun τ1 Q w1 _ hQ => ?_)
          rw [pr_1 isPress_52, ip_B, ip_Gt, w1.2.1.2.1, ip_P]; exact hQ
        · rw [if_neg k2, if_neg k2]
          by_cases k3 : k = 3
          · rw [if_pos k3, if_pos k3]
            refine gv_laid hI (fun τ1 Q w1 _ hQ => ?_)
            rw [pr_1 isPress_52, ip_B, ip_Gt, w1.2.1.2.2.1.2.2.1, ip_P]; exact hQ
          · rw [if_neg k3, if_neg k3]
            by_cases k4 : k = 4
            · rw [if_pos k4, if_pos k4]
              exact gv_const hI (fun Q h => by rw [t_3, ip_B, ip_Gt, hc.1.1, ip_P]; exact h)
            · rw [if_neg k4, if_neg k4]
              by_cases k5 : k = 5
              · rw [if_pos k5, if_pos k5]
                exact gv_const hI (fun Q h => by rw [t_1, ip_B, ip_Gt, hc.2.1.1, ip_P]; exact h)
              · rw [if_neg k5, if_neg k5]
                by_cases k6 : k = 6
                · rw [if_pos k6, if_pos k6]
                  exact gv_const hI (fun Q h => by rw [ip_B, ip_Gt, hc.2.2.1, ip_P]; exact h)
                · rw [if_neg k6, if_neg k6]
                  by_cases k7 : k = 7
                  · rw [if_pos k7, if_pos k7]
                    refine gv_laid hI (fun τ1 Q w1 _ hQ => ?_)
                    unfold iz_Flow_spans
                    rw [pr_1 isPress_52, ip_B, ip_B, ip_Gt, w1.2.1.2.1, ip_A]
                    refine ⟨⟨by omega, by omega⟩, ?_⟩
                    rw [ip_B, ip_max, ip_P, ip_P]
                    have e : (if 0 < ns R - 1 then ns R - 1 else 0) = (if ns R = 0 then 0 else ns R - 1) := by omega
                    rw [e]; exact hQ
                  · rw [if_neg k7, if_neg k7]
                    exact gv_const hI (fun Q h => by rw [ip_P]; exact h)
theorem gv_Mcount (hI : InvX R τ) {a b c : Int} (hc : couX τ a b c) (k : Int) : gv R (iz_Model_count 367 k) (couV R a b c k) τ := by
  have hw := hI.1
  have hns := ns_in hw
  have hn16 := hw.1.2
  unfold iz_Model_count
  refine gv_Mlaid hI (fun τ1 Q w1 hf hQ => ?_)
  have hc1 := couX_f hc hf
  unfold couV at hQ
  rw [ip_B, ip_in]
  by_cases c0 : k < 10 ∨ 17 < k
  · rw [if_neg (show ¬ (10 ≤ k ∧ k < 18) by omega)] at hQ
    rw [if_pos c0, ip_ifT rfl]
    by_cases k0 : k = 0
    · rw [if_pos k0] at hQ
      rw [ip_ifT k0, ip_B, ip_blocks, rm_n w1.1, ip_P]; exact hQ
    · rw [if_neg k0] at hQ
      rw [ip_ifF k0]
      by_cases k1 : k = 1
      · rw [if_pos k1] at hQ
        rw [ip_ifT k1, ip_B, ip_Gt, w1.2.1, ip_P]; exact hQ
      · rw [if_neg k1] at hQ
        rw [ip_ifF k1]
        by_cases k2 : k = 2
        · rw [if_pos k2] at hQ
          rw [ip_ifT k2, ip_B, ip_Gt, w1.2.2.1, ip_P]; exact hQ
        · rw [if_neg k2] at hQ
          rw [ip_ifF k2]
          by_cases k3 : k = 3
          · rw [if_pos k3] at hQ
            rw [ip_ifT k3, ip_B]
            refine ip_notes hw w1.2 ?_
            rw [ip_P]; exact hQ
          · rw [if_neg k3] at hQ
            rw [ip_ifF k3]
            by_cases k4 : k = 4
            · rw [if_pos k4] at hQ
              rw [ip_ifT k4, ip_B, ip_Gt, hc1.1.2, ip_P]; exact hQ
            · rw [if_neg k4] at hQ
              rw [ip_ifF k4]
              by_cases k5 : k = 5
              · rw [if_pos k5] at hQ
                rw [ip_ifT k5, ip_B, ip_Gt, hc1.2.1.2, ip_P]; exact hQ
              · rw [if_neg k5] at hQ
                rw [ip_ifF k5]
                by_cases k6 : k = 6
                · rw [if_pos k6] at hQ
                  have e6 := hc1.2.2.2
                  rw [ip_ifT k6, ip_B, ip_Ld, m_4, l_371]
                  refine ⟨⟨by omega, by omega⟩, ?_⟩
                  rw [ip_B, ip_ifP, ip_B, ip_Ld, l_371]
                  refine ⟨⟨by omega, by omega⟩, ?_⟩
                  by_cases d : τ1 371 1 = 0
                  · rw [if_pos d] at e6
                    rw [ip_ifT d, ip_A]
                    refine ⟨⟨by omega, by omega⟩, ?_⟩
                    rw [ip_P, e6]; exact hQ
                  · rw [if_neg d] at e6
                    rw [ip_ifF d, ip_A]
                    refine ⟨⟨by omega, by omega⟩, ?_⟩
                    rw [ip_P, e6]; exact hQ
                · rw [if_neg k6] at hQ
                  rw [ip_ifF k6]
                  by_cases k7 : k = 7
                  · rw [if_pos k7] at hQ
                    rw [ip_ifT k7, ip_B, ip_Gt, w1.2.2.1]
                    by_cases d : ns R = 0
                    · rw [if_pos d] at hQ
                      rw [ip_ifF (by omega), ip_P]; exact hQ
                    · rw [if_neg d] at hQ
                      rw [ip_ifT d, ip_B, ip_Gt, w1.2.2.1, ip_A]
                      refine ⟨⟨by omega, by omega⟩, ?_⟩
                      rw [ip_P]; exact hQ
                  · rw [if_neg k7] at hQ
                    rw [ip_ifF k7, ip_P]; exact hQ
  · rw [if_pos (show (10 ≤ k ∧ k < 18) by omega)] at hQ
    rw [if_neg c0, ip_ifF (by omega), ip_A]
    refine ⟨⟨by omega, by omega⟩, ?_⟩
    rw [ip_B, ip_Ld, m_0, l_368, rm_s w1.1 (by omega) (by omega), ip_P]
    exact ⟨⟨by omega, by omega⟩, hQ⟩
theorem two_count (hI : InvX R τ) {a b c : Int} (hc : couX τ a b c) (k : Int) : two R (iz_Top_count 0 k) (iz_Model_count 367 k) τ := gv_two (gv_count hI hc k) (fun _ q hf => gv_Mcount q (couX_f hc hf) k)
end
