section
variable {τ : iMem} {R : aRun}
noncomputable def esN (R : aRun) (s : Int) : Int := sI (fun i => enb R (i + bg R s)) (bg R (s + 1) - bg R s + 1)
theorem ip_endsIn {s : Int} {Q : Int → iMem → Prop} (hw : WF R) (hx : Cx R 70 53 1 τ) (h0 : 0 ≤ s) (h1 : s < ns R) (hQ : Q (esN R s) τ) : ip (iz_Flow_endsIn 53 (bg R s) (bg R (s + 1))) Q τ := by
  have h90 := hw.2.2.2
  have hb := bg_step hw s
  have hff := isFlow_53
  have hrn : 0 < rn R := by
    have := ns_0 hw
    have := hw.1.1
    omega
  unfold iz_Flow_endsIn
  rw [ip_B]
  refine ip_mono (ip_sum (a := bg R s) (cnt := bg R (s + 1) - bg R s + 1) (B := 1) (g := fun i => enb R (i + bg R s)) (by omega) (by omega) (by omega) (by omega) (fun i i0 i1 => by have := enb_in R (i + bg R s); (try dsimp only); omega) (fun t => ?_) (fun t i i0 i1 t0 t1 => ?_)) (fun v τ' e => by rw [ip_P, e.1, e.2]; exact hQ)
  · rw [ip_ifT (by show bg R (s + 1) < bg R (s + 1) - bg R s + 1 + bg R s; omega), ip_P]
    exact ⟨rfl, rfl⟩
  · dsimp only
    have hb1 := enb_in R (i + bg R s)
    rw [ip_ifF (by show ¬ bg R (s + 1) < i + bg R s; omega), ip_B]
    refine ip_mayEnd hff hw hx.2.2.1 hrn (by omega) (by omega) (fun r hr => ?_)
    have er := enb_is hr
    rw [ip_B]
    have tail : ∀ y, y = t + enb R (i + bg R s) → ip (iA (i + bg R s + 1) fun y2 => iB (iP y2) fun x6 => iP (Sum.inl (y, x6) : (Int × Int) ⊕ Int)) (fun r τ' => τ' = τ ∧ r = Sum.inl (t + enb R (i + bg R s), i + 1 + bg R s)) τ := by
      intro y hy
      rw [ip_A]
      refine ⟨⟨by omega, by omega⟩, ?_⟩
      rw [ip_B, ip_P, ip_P, hy, show i + bg R s + 1 = i + 1 + bg R s by omega]
      exact ⟨rfl, rfl⟩
    by_cases z : r = 0
    · rw [ip_ifT z, ip_P]
      exact tail _ (by omega)
    · rw [ip_ifF z, ip_A]
      refine ⟨⟨by omega, by omega⟩, ?_⟩
      rw [ip_B, ip_P, ip_P]
      exact tail _ (by omega)
noncomputable def secV (R : aRun) (s k : Int) : Int := if 0 ≤ s ∧ s < ns R then (if k = 0 then bg R s else if k = 1 then bg R (s + 1) else if k = 2 then sh R s else if k = 3 then esN R s else if k = 4 then ol R (bg R s) (bg R (s + 1)) else -1) else -1
/-! a BLOCK -/
def blkV (R : aRun) (b k : Int) : Int := if 0 ≤ b ∧ b < rn R then (if k = 0 then rc R b 0 else if k = 1 then rc R b 1 else if k = 2 then fs R b else if k = 3 then rc R b 2 else if k = 4 then rc R b 3 else if k = 5 then rc R b 4 else if k = 6 then rc R b 5 else if k = 7 then rc R b 6 else if k = 8 then rc R b 7 else -1) else -1
theorem ip_has {b : Int} {Q : Int → iMem → Prop} (hR : RunC τ 1 R) : ip (iz_Run_has 1 b) Q τ ↔ Q (if 0 ≤ b ∧ b < rn R then 1 else 0) τ := by
  unfold iz_Run_has
  by_cases c1 : b < 0
  · rw [ip_ifT c1, ip_P, if_neg (show ¬ (0 ≤ b ∧ b < rn R) by omega)]
  · rw [ip_ifF c1, ip_B, ip_Gt, hR.1]
    by_cases c2 : rn R ≤ b
    · rw [ip_ifT c2, ip_P, if_neg (show ¬ (0 ≤ b ∧ b < rn R) by omega)]
    · rw [ip_ifF c2, ip_P, if_pos (show (0 ≤ b ∧ b < rn R) by omega)]
theorem gv_laid (hI : InvX R τ) {m : Nat → iM Int} {v : Int} (hm : ∀ (τ1 : iMem) (Q : Int → iMem → Prop), Cx R 70 53 1 τ1 → (∀ a k, ¬ zw a k → τ1 a k = τ a k) → Q v τ1 → ip (m 52) Q τ1) : gv R (iB (iK 13 (iz_Top_laidOut 0)) m) v τ := by
  unfold gv
  rw [ip_B, ip_K]
  refine ip_laidOut hI.1 hI.2.1 (fun τ1 w1 w2 w3 w4 => ⟨t_k, ?_⟩)
  have hf : ∀ a k, ¬ zw a k → τ1 a k = τ a k := fun a k h => w4 a k (fun z => h (Or.inl z))
  exact hm τ1 _ w3 hf ⟨rfl, hI.c w1 w4, hf⟩
theorem gv_const (hI : InvX R τ) {m : iM Int} {v : Int} (hm : ∀ Q : Int → iMem → Prop, Q v τ → ip m Q τ) : gv R m v τ := hm _ ⟨rfl, hI, fun _ _ _ => rfl⟩
theorem gv_piece (hI : InvX R τ) (p k : Int) : gv R (iz_Top_piece 0 p k) (pieV R p k) τ := by
  have hw := hI.1
  have h90 := hw.2.2.2
  have hnp := np_ge hw
  have hff := isFlow_53
  unfold iz_Top_piece
  refine gv_laid hI (fun τ1 Q w1 _ hQ => ?_)
  · have hQ := hQ
    unfold pieV at hQ
    obtain ⟨x1, x2, x3, x4⟩ := id w1
    rw [pr_1 isPress_52, fl_5 hff, fl_6 hff, fl_7 hff, fl_8 hff, fl_9 hff, fl_10 hff]
    by_cases c1 : p < 0
    · rw [if_neg (show ¬ (0 ≤ p ∧ p < np R) by omega)] at hQ
      rw [ip_ifT c1, ip_P]; exact hQ
    · rw [ip_ifF c1, ip_B, ip_Gt, x2.1]
      by_cases c2 : p < np R
      · obtain ⟨a1, a2, a3, a4, a5, a6, a7⟩ := x2.2.2.1.1 p (by omega) c2
        rw [if_pos (show (0 ≤ p ∧ p < np R) by omega)] at hQ
        rw [ip_ifT c2]
        by_cases k0 : k = 0
        · rw [if_pos k0] at hQ
          rw [ip_ifT k0, ip_B, ip_at (by omega) (by rw [fl_l2 hff]; omega), ip_P]
          rw [a1]; exact hQ
        · rw [if_neg k0] at hQ
          rw [ip_ifF k0]
          by_cases k1 : k = 1
          · rw [if_pos k1] at hQ
            rw [ip_ifT k1, ip_B, ip_at (by omega) (by rw [fl_l3 hff]; omega), ip_P]
            rw [a2]; exact hQ
          · rw [if_neg k1] at hQ
            rw [ip_ifF k1]
            by_cases k2 : k = 2
            · rw [if_pos k2] at hQ
              rw [ip_ifT k2, ip_B, ip_at (by omega) (by rw [fl_l4 hff]; omega), ip_P]
              rw [a3]; exact hQ
            · rw [if_neg k2] at hQ
              rw [ip_ifF k2]
              by_cases k3 : k = 3
              · rw [if_pos k3] at hQ
                rw [ip_ifT k3, ip_B, ip_at (by omega) (by rw [fl_l5 hff]; omega), ip_P]
                rw [a4]; exact hQ
              · rw [if_neg k3] at hQ
                rw [ip_ifF k3]
                by_cases k4 : k = 4
                · rw [if_pos k4] at hQ
                  rw [ip_ifT k4, ip_B, ip_at (by omega) (by rw [fl_l6 hff]; omega), ip_P]
                  rw [a5]; exact hQ
                · rw [if_neg k4] at hQ
                  rw [ip_ifF k4]
                  by_cases k5 : k = 5
                  · rw [if_pos k5] at hQ
                    rw [ip_ifT k5, ip_A]
                    refine ⟨⟨by omega, by omega⟩, ?_⟩
                    rw [ip_B]
                    refine ip_mayEnd hff hw x3 (np_pos (by omega) hw) (by omega) (by omega) (fun r hr => ?_)
                    rw [← enb_is hr] at hQ
                    by_cases z : r = 0
                    · rw [ip_ifT z, ip_P, ← z]; exact hQ
                    · rw [ip_ifF z, ip_P, ← show r = 1 by omega]; exact hQ
                  · rw [if_neg k5] at hQ
                    rw [ip_ifF k5]
                    by_cases k6 : k = 6
                    · rw [if_pos k6] at hQ
                      rw [ip_ifT k6, ip_B, ip_at (by omega) (by rw [fl_l7 hff]; omega), ip_P]
                      rw [a6]; exact hQ
                    · rw [if_neg k6] at hQ
                      rw [ip_ifF k6, ip_P]
                      exact hQ
      · rw [if_neg (show ¬ (0 ≤ p ∧ p < np R) by omega)] at hQ
        rw [ip_ifF c2, ip_P]; exact hQ
theorem gv_section (hI : InvX R τ) (s k : Int) : gv R (iz_Top_section 0 s k) (secV R s k) τ := by
  have hw := hI.1
  have h90 := hw.2.2.2
  have hnp := np_ge hw
  have hns := ns_in hw
  have hn16 := hw.1.2
  have hff := isFlow_53
  have hb := bg_step hw s
  unfold iz_Top_section
  refine gv_laid hI (fun τ1 Q w1 _ hQ => ?_)
  · have hQ := hQ
    unfold secV at hQ
    obtain ⟨x1, x2, x3, x4⟩ := id w1
    rw [pr_1 isPress_52, fl_16 hff, fl_17 hff, fl_18 hff]
    by_cases c1 : s < 0
    · rw [if_neg (show ¬ (0 ≤ s ∧ s < ns R) by omega)] at hQ
      rw [ip_ifT c1, ip_P]; exact hQ
    · rw [ip_ifF c1, ip_B, ip_Gt, x2.2.1]
      by_cases c2 : s < ns R
      · obtain ⟨a1, a2, a3⟩ := x2.2.2.2.2 s (by omega) c2
        rw [if_pos (show (0 ≤ s ∧ s < ns R) by omega)] at hQ
        rw [ip_ifT c2, ip_B, ip_at (by omega) (by rw [fl_l13 hff]; omega), a1, ip_B, ip_at (by omega) (by rw [fl_l14 hff]; omega), a2]
        by_cases k0 : k = 0
        · rw [if_pos k0] at hQ
          rw [ip_ifT k0, ip_P]; exact hQ
        · rw [if_neg k0] at hQ
          rw [ip_ifF k0]
          by_cases k1 : k = 1
          · rw [if_pos k1] at hQ
            rw [ip_ifT k1, ip_P]; exact hQ
          · rw [if_neg k1] at hQ
            rw [ip_ifF k1]
            by_cases k2 : k = 2
            · rw [if_pos k2] at hQ
              rw [ip_ifT k2, ip_B, ip_at (by omega) (by rw [fl_l15 hff]; omega), a3, ip_P]; exact hQ
            · rw [if_neg k2] at hQ
              rw [ip_ifF k2]
              by_cases k3 : k = 3
              · rw [if_pos k3] at hQ
                rw [ip_ifT k3, ip_B]
                exact ip_endsIn hw w1 (by omega) c2 (by rw [ip_P]; exact hQ)
              · rw [if_neg k3] at hQ
                rw [ip_ifF k3]
                by_cases k4 : k = 4
                · rw [if_pos k4] at hQ
                  rw [ip_ifT k4, ip_B, ip_ownLines hff hw x2 (by omega) (by omega), ip_P]; exact hQ
                · rw [if_neg k4] at hQ
                  rw [ip_ifF k4, ip_P]; exact hQ
      · rw [if_neg (show ¬ (0 ≤ s ∧ s < ns R) by omega)] at hQ
        rw [ip_ifF c2, ip_P]; exact hQ
theorem gv_block (hI : InvX R τ) (b k : Int) : gv R (iz_Top_block 0 b k) (blkV R b k) τ := by
  have hw := hI.1
  have hn := hw.1
  have hff := isFlow_53
  have hR := hI.2.1.1
  have r1 := isRun_1
  unfold iz_Top_block blkV
  by_cases cb : 0 ≤ b ∧ b < rn R
  · rw [if_pos cb]
    refine gv_to (m' := _) (fun Q h => by rw [t_0, ip_B, ip_has hR, if_pos cb, ip_ifT (by omega)]; exact h) ?_
    by_cases k0 : k = 0
    · rw [if_pos k0, if_pos k0]
      exact gv_const hI (fun Q h => by rw [ip_B, ip_cellC r1 hR hn.2 cb.1 cb.2 (by omega) (by omega), ip_P]; exact h)
    · rw [if_neg k0, if_neg k0]
      by_cases k1 : k = 1
      · rw [if_pos k1, if_pos k1]
        exact gv_const hI (fun Q h => by rw [ip_B, ip_cellC r1 hR hn.2 cb.1 cb.2 (by omega) (by omega), ip_P]; exact h)
      · rw [if_neg k1, if_neg k1]
        by_cases k2 : k = 2
        · rw [if_pos k2, if_pos k2]
          refine gv_laid hI (fun τ1 Q w1 _ hQ => ?_)
          rw [pr_1 isPress_52, fl_4 hff, ip_B, ip_at cb.1 (by rw [fl_l1 hff]; omega), ip_P, w1.2.1.2.2.2.1 b cb.1 cb.2]
          exact hQ
        · rw [if_neg k2, if_neg k2]
          by_cases k3 : k = 3
          · rw [if_pos k3, if_pos k3]
            exact gv_const hI (fun Q h => by rw [ip_B, ip_cellC r1 hR hn.2 cb.1 cb.2 (by omega) (by omega), ip_P]; exact h)
          · rw [if_neg k3, if_neg k3]
            by_cases k4 : k = 4
            · rw [if_pos k4, if_pos k4]
              exact gv_const hI (fun Q h => by rw [ip_B, ip_cellC r1 hR hn.2 cb.1 cb.2 (by omega) (by omega), ip_P]; exact h)
            · rw [if_neg k4, if_neg k4]
              by_cases k5 : k = 5
              · rw [if_pos k5, if_pos k5]
                exact gv_const hI (fun Q h => by rw [ip_B, ip_cellC r1 hR hn.2 cb.1 cb.2 (by omega) (by omega), ip_P]; exact h)
              · rw [if_neg k5, if_neg k5]
                by_cases k6 : k = 6
                · rw [if_pos k6, if_pos k6]
                  exact gv_const hI (fun Q h => by rw [ip_B, ip_cellC r1 hR hn.2 cb.1 cb.2 (by omega) (by omega), ip_P]; exact h)
                · rw [if_neg k6, if_neg k6]
                  by_cases k7 : k = 7
                  · rw [if_pos k7, if_pos k7]
                    exact gv_const hI (fun Q h => by rw [ip_B, ip_cellC r1 hR hn.2 cb.1 cb.2 (by omega) (by omega), ip_P]; exact h)
                  · rw [if_neg k7, if_neg k7]
                    by_cases k8 : k = 8
                    · rw [if_pos k8, if_pos k8]
                      exact gv_const hI (fun Q h => by rw [ip_B, ip_cellC r1 hR hn.2 cb.1 cb.2 (by omega) (by omega), ip_P]; exact h)
                    · rw [if_neg k8, if_neg k8]
                      exact gv_const hI (fun Q h => by rw [ip_P]; exact h)
  · rw [if_neg cb]
    exact gv_const hI (fun Q h => by rw [t_0, ip_B, ip_has hR, if_neg cb, ip_ifF (by omega), ip_P]; exact h)
end
