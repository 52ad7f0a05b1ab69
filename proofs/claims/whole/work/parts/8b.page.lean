section
variable {τ : iMem} {R : aRun}
/-- the other one's loop over a page -/
theorem ip_Mpage {p : Int} {K : Int × (Int × Int) → iM Int} {Q : Int → iMem → Prop} (hw : WF R) (hx : Mx R τ) (hP : PoM R τ (pou R))
    (hQ : ip (K (on R p (fun _ => 1), (on R p (fun i => cf R i 4 - cf R i 3), on R p (fun i => cf R i 8)))) Q τ) :
    ip (iB (α := (Int × (Int × Int))) (
          iW (S := (Int × (Int × (Int × Int)))) (α := (Int × (Int × Int))) (fun s7 =>
            iB (iGt 367 32) fun x8 =>
            if x8 ≤ s7.2.2.2 then
              iP (Sum.inr (s7.1, (s7.2.1, s7.2.2.1)))
            else
              iB (iLd (qm_rf 367 23) s7.2.2.2) fun x9 =>
              iB (α := (Int × (Int × Int))) (
                if x9 = p then
                  iA (s7.1 + 1) fun y1 =>
                  iB (iP y1) fun x11 =>
                  iB (iLd (qm_rf 367 27) s7.2.2.2) fun x12 =>
                  iB (iLd (qm_rf 367 26) s7.2.2.2) fun x13 =>
                  iA (x12 - x13) fun y2 =>
                  iA (s7.2.1 + y2) fun y3 =>
                  iB (iP y3) fun x14 =>
                  iB (iz_Model_linesIn 367 s7.2.2.2) fun x15 =>
                  iA (s7.2.2.1 + x15) fun y4 =>
                  iB (iP y4) fun x16 =>
                  iP (x11, (x14, x16))
                else
                  iP (s7.1, (s7.2.1, s7.2.2.1))) fun s10 =>
              iA (s7.2.2.2 + 1) fun y5 =>
              iB (iP y5) fun x17 =>
              iP (Sum.inl (s10.1, (s10.2.1, (s10.2.2, x17))))) (0, (0, (0, 0)))) K) Q τ := by
  have h240 := pou_240 hw
  have hnp := hw.2.2.2
  rw [ip_B]
  refine ip_mono (Q := fun v τ' => τ' = τ ∧ v = (on R p (fun _ => 1), (on R p (fun i => cf R i 4 - cf R i 3), on R p (fun i => cf R i 8)))) ?_ (fun v τ' e => by rw [e.1, e.2]; exact hQ)
  refine ip_W (fun (q : Int × (Int × (Int × Int))) τ' => τ' = τ ∧ (0 ≤ q.2.2.2 ∧ q.2.2.2 ≤ pcn (pou R).1) ∧ q.1 = sI (fun i => if cf R i 0 = p then 1 else 0) q.2.2.2 ∧ q.2.1 = sI (fun i => if cf R i 0 = p then cf R i 4 - cf R i 3 else 0) q.2.2.2 ∧ q.2.2.1 = sI (fun i => if cf R i 0 = p then cf R i 8 else 0) q.2.2.2) (fun (q : Int × (Int × (Int × Int))) _ => (pcn (pou R).1 - q.2.2.2).toNat) ?_ ⟨rfl, ⟨Int.le_refl _, h240.1⟩, rfl, rfl, rfl⟩
  intro q τ' ⟨et, b1, b2, b3, b4⟩
  obtain ⟨va, vb, vc, i⟩ := q
  subst et
  dsimp only at b1 b2 b3 b4 ⊢
  rw [ip_B, ip_Gt, hP.1.1]
  by_cases c : pcn (pou R).1 ≤ i
  · have ei : i = pcn (pou R).1 := by omega
    rw [ip_ifT c, ip_P]
    refine ⟨rfl, ?_⟩
    rw [b2, b3, b4, ei]
    rfl
  · have hc := cf_in hw b1.1 (show i < pcn (pou R).1 by omega)
    obtain ⟨m0, m1, m2, m3, m4, m5, m6, m7, m8⟩ := hP.2.1 i b1.1 (by omega)
    have e3 : pC (pou R).1 i 3 = cf R i 3 := rfl
    have e4 : pC (pou R).1 i 4 = cf R i 4 := rfl
    have e0 : pC (pou R).1 i 0 = cf R i 0 := rfl
    rw [e3] at m3
    rw [e4] at m4
    rw [e0] at m0
    have s1 : sI (fun i => if cf R i 0 = p then (1 : Int) else 0) (i + 1) = sI (fun i => if cf R i 0 = p then (1 : Int) else 0) i + (if cf R i 0 = p then (1 : Int) else 0) := sI_s b1.1
    have s2 : sI (fun i => if cf R i 0 = p then cf R i 4 - cf R i 3 else 0) (i + 1) = sI (fun i => if cf R i 0 = p then cf R i 4 - cf R i 3 else 0) i + (if cf R i 0 = p then cf R i 4 - cf R i 3 else 0) := sI_s b1.1
    have s3 : sI (fun i => if cf R i 0 = p then cf R i 8 else 0) (i + 1) = sI (fun i => if cf R i 0 = p then cf R i 8 else 0) i + (if cf R i 0 = p then cf R i 8 else 0) := sI_s b1.1
    have t1 := sI_bound (f := fun i => if cf R i 0 = p then (1 : Int) else 0) (n := i) (lo := 0) (hi := 1) (fun j _ _ => by (try dsimp only); split <;> omega) b1.1
    have t2 := sI_bound (f := fun i => if cf R i 0 = p then cf R i 4 - cf R i 3 else 0) (n := i) (lo := 0) (hi := 90) (fun j j0 j1 => by have := cf_in hw j0 (show j < pcn (pou R).1 by omega); (try dsimp only); split <;> omega) b1.1
    have t3 := sI_bound (f := fun i => if cf R i 0 = p then cf R i 8 else 0) (n := i) (lo := 0) (hi := 1820) (fun j j0 j1 => by have := cf_in hw j0 (show j < pcn (pou R).1 by omega); (try dsimp only); split <;> omega) b1.1
    rw [← b2] at t1 s1
    rw [← b3] at t2 s2
    rw [← b4] at t3 s3
    rw [ip_ifF c, ip_B, ip_Ld, m_23, l_388, m0]
    refine ⟨⟨by omega, by omega⟩, ?_⟩
    rw [ip_B]
    by_cases d : cf R i 0 = p
    · rw [if_pos d] at s1 s2 s3
      rw [ip_ifT d, ip_A]
      refine ⟨⟨by omega, by omega⟩, ?_⟩
      rw [ip_B, ip_P, ip_B, ip_Ld, m_27, l_392, m4]
      refine ⟨⟨by omega, by omega⟩, ?_⟩
      rw [ip_B, ip_Ld, m_26, l_391, m3]
      refine ⟨⟨by omega, by omega⟩, ?_⟩
      rw [ip_A]
      refine ⟨⟨by omega, by omega⟩, ?_⟩
      rw [ip_A]
      refine ⟨⟨by omega, by omega⟩, ?_⟩
      rw [ip_B, ip_P, ip_B, ip_MlinesIn hw hx hP b1.1 (by omega), ip_A]
      refine ⟨⟨by omega, by omega⟩, ?_⟩
      rw [ip_B, ip_P, ip_P, ip_A]
      refine ⟨⟨by omega, by omega⟩, ?_⟩
      rw [ip_B, ip_P, ip_P]
      simp only [Sum.elim_inl]
      exact ⟨⟨trivial, ⟨by omega, by omega⟩, s1.symm, s2.symm, s3.symm⟩, by omega⟩
    · rw [if_neg d, Int.add_zero] at s1 s2 s3
      rw [ip_ifF d, ip_P, ip_A]
      refine ⟨⟨by omega, by omega⟩, ?_⟩
      rw [ip_B, ip_P, ip_P]
      simp only [Sum.elim_inl]
      exact ⟨⟨trivial, ⟨by omega, by omega⟩, s1.symm, s2.symm, s3.symm⟩, by omega⟩
noncomputable def pgv (R : aRun) (p k : Int) : Int := if (0 ≤ p ∧ p ≤ ppg (pou R).1) ∧ ns R ≠ 0 then (if k = 0 then on R p (fun _ => 1) else if k = 1 then on R p (fun i => cf R i 4 - cf R i 3) else if k = 2 then spo R p else if k = 3 then on R p (fun i => cf R i 8) else if k = 4 then on R p (fun i => if cf R i 1 = 0 then 1 else 0) else -1) else -1
theorem ns_0 (hw : WF R) : ns R = 0 ↔ rn R = 0 := by
  have hn := hw.1.1
  have hs := sc_in (R := R) hn
  unfold ns
  split <;> omega
theorem two_page (hI : InvX R τ) (p k : Int) : two R (iz_Top_page 0 p k) (iz_Model_page 367 p k) τ := by
  have hw := hI.1
  have hn0 := ns_0 hw
  have hns := ns_in hw
  unfold iz_Top_page iz_Model_page
  refine two_poured (Fn := fun r => r = pgv R p k) hI (fun τ1 Q w1 w2 hQ => ?_) (fun τ1 Q w1 w2 hQ => ?_) (fun r r' e e' => e'.trans e.symm)
  · have hQ := hQ _ rfl
    unfold pgv at hQ
    by_cases c1 : p < 0
    · rw [if_neg (show ¬ ((0 ≤ p ∧ p ≤ ppg (pou R).1) ∧ ns R ≠ 0) by omega)] at hQ
      rw [ip_ifT c1, ip_P]; exact hQ
    · rw [ip_ifF c1, ip_B, ip_Gt, w2.1.2.1]
      by_cases c2 : ppg (pou R).1 < p
      · rw [if_neg (show ¬ ((0 ≤ p ∧ p ≤ ppg (pou R).1) ∧ ns R ≠ 0) by omega)] at hQ
        rw [ip_ifT c2, ip_P]; exact hQ
      · rw [ip_ifF c2, ip_B, ip_Gt, pr_1 isPress_52, w1.2.1.2.1]
        by_cases c3 : ns R = 0
        · rw [if_neg (show ¬ ((0 ≤ p ∧ p ≤ ppg (pou R).1) ∧ ns R ≠ 0) by omega)] at hQ
          rw [ip_ifF (by omega), ip_P]; exact hQ
        · rw [if_pos (show ((0 ≤ p ∧ p ≤ ppg (pou R).1) ∧ ns R ≠ 0) by omega)] at hQ
          rw [ip_ifT c3]
          by_cases k0 : k = 0
          · rw [if_pos k0] at hQ
            rw [ip_ifT k0, ip_B]
            exact ip_columnsOn hw w2 (by rw [ip_P]; exact hQ)
          · rw [if_neg k0] at hQ
            rw [ip_ifF k0]
            by_cases k1 : k = 1
            · rw [if_pos k1] at hQ
              rw [ip_ifT k1, ip_B]
              exact ip_piecesOn hw w2 (by rw [ip_P]; exact hQ)
            · rw [if_neg k1] at hQ
              rw [ip_ifF k1]
              by_cases k2 : k = 2
              · rw [if_pos k2] at hQ
                rw [ip_ifT k2, ip_B]
                exact ip_spansOn hw w2 (by rw [ip_P]; exact hQ)
              · rw [if_neg k2] at hQ
                rw [ip_ifF k2]
                by_cases k3 : k = 3
                · rw [if_pos k3] at hQ
                  rw [ip_ifT k3, ip_B]
                  exact ip_noteLinesOn hw w2 (by rw [ip_P]; exact hQ)
                · rw [if_neg k3] at hQ
                  rw [ip_ifF k3]
                  by_cases k4 : k = 4
                  · rw [if_pos k4] at hQ
                    rw [ip_ifT k4, ip_B]
                    exact ip_sectionsOn hw w2 (by rw [ip_P]; exact hQ)
                  · rw [if_neg k4] at hQ
                    rw [ip_ifF k4, ip_P]; exact hQ
  · have hQ := hQ _ rfl
    unfold pgv at hQ
    rw [ip_B, ip_blocks, rm_n w1.1]
    by_cases c3 : ns R = 0
    · rw [if_neg (show ¬ ((0 ≤ p ∧ p ≤ ppg (pou R).1) ∧ ns R ≠ 0) by omega)] at hQ
      rw [ip_ifT (hn0.mp c3), ip_P]; exact hQ
    · rw [ip_ifF (fun q => c3 (hn0.mpr q)), ip_B, ip_Gt, w2.1.2, ip_B, ip_in]
      by_cases c1 : p < 0 ∨ ppg (pou R).1 < p
      · rw [if_neg (show ¬ ((0 ≤ p ∧ p ≤ ppg (pou R).1) ∧ ns R ≠ 0) by omega)] at hQ
        rw [if_pos c1, ip_ifT rfl, ip_P]; exact hQ
      · rw [if_pos (show ((0 ≤ p ∧ p ≤ ppg (pou R).1) ∧ ns R ≠ 0) by omega)] at hQ
        rw [if_neg c1, ip_ifF (by omega), ip_B, ip_in]
        by_cases c2 : k < 0 ∨ 4 < k
        · rw [if_neg (show ¬ k = 0 by omega), if_neg (show ¬ k = 1 by omega), if_neg (show ¬ k = 2 by omega), if_neg (show ¬ k = 3 by omega), if_neg (show ¬ k = 4 by omega)] at hQ
          rw [if_pos c2, ip_ifF (by omega), ip_P]; exact hQ
        · rw [if_neg c2, ip_ifT (by omega)]
          refine ip_Mpage hw w1 w2 ?_
          dsimp only
          by_cases k0 : k = 0
          · rw [if_pos k0] at hQ
            rw [ip_ifT k0, ip_P]; exact hQ
          · rw [if_neg k0] at hQ
            rw [ip_ifF k0]
            by_cases k1 : k = 1
            · rw [if_pos k1] at hQ
              rw [ip_ifT k1, ip_P]; exact hQ
            · rw [if_neg k1] at hQ
              rw [ip_ifF k1]
              by_cases k2 : k = 2
              · rw [if_pos k2] at hQ
                rw [ip_ifT k2, ip_B]
                exact ip_MspansOn hw w1 w2 (by omega) (by omega) (by rw [ip_P]; exact hQ)
              · rw [if_neg k2] at hQ
                rw [ip_ifF k2]
                by_cases k3 : k = 3
                · rw [if_pos k3] at hQ
                  rw [ip_ifT k3, ip_P]; exact hQ
                · rw [if_neg k3, if_pos (show k = 4 by omega)] at hQ
                  rw [ip_ifF k3, ip_B]
                  exact ip_MsectionsOn hw w1 w2 (by rw [ip_P]; exact hQ)
end
