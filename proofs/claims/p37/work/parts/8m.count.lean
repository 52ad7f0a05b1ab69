section
variable {τ : iMem} {R : aRun}
def couX (τ : iMem) (a b c : Int) : Prop := τ 13 2 = a ∧ τ 4 1 = b ∧ τ 0 5 = c
noncomputable def couV (R : aRun) (a b c k : Int) : Int := if 10 ≤ k ∧ k < 18 then rs R (k - 10) else if k = 0 then rn R else if k = 1 then np R else if k = 2 then ns R else if k = 3 then nc R (np R) else if k = 4 then a else if k = 5 then b else if k = 6 then c else if k = 7 then (if ns R = 0 then 0 else ns R - 1) else -1
theorem gv_count (hI : InvX R τ) {a b c : Int} (hc : couX τ a b c) (k : Int) : gv R (iz_Top_count 0 k) (couV R a b c k) τ := by
  have hw := hI.1
  have hns := ns_in hw
  have hn16 := hw.1.2
  have hR := hI.2.1.1
  unfold iz_Top_count couV
  by_cases c0 : 10 ≤ k ∧ k < 18
  · rw [if_pos c0]
    refine gv_const hI (fun Q h => ?_)
    rw [ip_B, ip_ifF (by omega), ip_ifF (by omega), ip_A]
    refine ⟨⟨by omega, by omega⟩, ?_⟩
    rw [t_0, ip_B, ip_settingC isRun_1 hR (by omega) (by omega), ip_P]
    simp only [Sum.elim_inr, ip_P]
    exact h
  · rw [if_neg c0]
    have lift : ∀ (m : iM Int) (Q : Int → iMem → Prop), ip m Q τ → ip (iB (α := (Unit ⊕ Int)) (if k < 10 then iP (Sum.inl ()) else if 18 ≤ k then iP (Sum.inl ()) else iA (k - 10) fun y1 => iB (iz_Run_setting (qm_rf 0 0) y1) fun x2 => iP (Sum.inr x2)) (Sum.elim (fun s1 => m) iP)) Q τ := by
      intro m Q h
      rw [ip_B]
      by_cases d : k < 10
      · rw [ip_ifT d, ip_P]
        simp only [Sum.elim_inl]; exact h
      · rw [ip_ifF d, ip_ifT (by omega), ip_P]
        simp only [Sum.elim_inl]; exact h
    refine gv_to (m' := _) (lift _) ?_
    by_cases k0 : k = 0
    · rw [if_pos k0, if_pos k0]
      exact gv_const hI (fun Q h => by rw [t_0, ip_B, ip_Gt, hR.1, ip_P]; exact h)
    · rw [if_neg k0, if_neg k0]
      by_cases k1 : k = 1
      · rw [if_pos k1, if_pos k1]
        refine gv_laid hI (fun τ1 Q w1 _ hQ => ?_)
        rw [pr_1 isPress_52, ip_B, ip_Gt, w1.2.1.1, ip_P]; exact hQ
      · rw [if_neg k1, if_neg k1]
        by_cases k2 : k = 2
        · rw [if_pos k2, if_pos k2]
          refine gv_laid hI (fun τ1 Q w1 _ hQ => ?_)
          rw [pr_1 isPress_52, ip_B, ip_Gt, w1.2.1.2.1, ip_P]; exact hQ
        · rw [if_neg k2, if_neg k2]
          by_cases k3 : k = 3
          · rw [if_pos k3, if_pos k3]
            refine gv_laid hI (fun τ1 Q w1 _ hQ => ?_)
            rw [pr_1 isPress_52, ip_B, ip_Gt, w1.2.1.2.2.1.2.2.1, ip_P]; exact hQ
          · rw [if_neg k3, if_neg k3]
            by_cases k4 : k = 4
            · rw [if_pos k4, if_pos k4]
              exact gv_const hI (fun Q h => by rw [t_3, ip_B, ip_Gt, hc.1, ip_P]; exact h)
            · rw [if_neg k4, if_neg k4]
              by_cases k5 : k = 5
              · rw [if_pos k5, if_pos k5]
                exact gv_const hI (fun Q h => by rw [t_1, ip_B, ip_Gt, hc.2.1, ip_P]; exact h)
              · rw [if_neg k5, if_neg k5]
                by_cases k6 : k = 6
                · rw [if_pos k6, if_pos k6]
                  exact gv_const hI (fun Q h => by rw [ip_B, ip_Gt, hc.2.2, ip_P]; exact h)
                · rw [if_neg k6, if_neg k6]
                  by_cases k7 : k = 7
                  · rw [if_pos k7, if_pos k7]
                    refine gv_laid hI (fun τ1 Q w1 _ hQ => ?_)
                    unfold iz_Flow_spans
                    rw [pr_1 isPress_52, ip_B, ip_B, ip_Gt, w1.2.1.2.1, ip_A]
                    refine ⟨⟨by omega, by omega⟩, ?_⟩
                    rw [ip_B, ip_max, ip_P, ip_P]
                    have e : (if 0 < ns R - 1 then ns R - 1 else 0) = (if ns R = 0 then 0 else ns R - 1) := by omega
                    rw [e]; exact hQ
                  · rw [if_neg k7, if_neg k7]
                    exact gv_const hI (fun Q h => by rw [ip_P]; exact h)
end
