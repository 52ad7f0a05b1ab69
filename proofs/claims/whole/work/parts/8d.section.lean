section
variable {τ : iMem} {R : aRun}
noncomputable def esN (R : aRun) (s : Int) : Int := sI (fun i => enb R (i + bg R s)) (bg R (s + 1) - bg R s + 1)
theorem ip_endsIn {s : Int} {Q : Int → iMem → Prop} (hw : WF R) (hx : Cx R 70 53 1 τ) (h0 : 0 ≤ s) (h1 : s < ns R) (hQ : Q (esN R s) τ) : ip (iz_Flow_endsIn 53 (bg R s) (bg R (s + 1))) Q τ := by
  have h90 := hw.2.2.2
  have hb := bg_step hw s
  have hff := isFlow_53
  have hrn : 0 < rn R := by
    have := ns_0 hw
    have := hw.1.1
    omega
  unfold iz_Flow_endsIn
  rw [ip_B]
  refine ip_mono (ip_sum (a := bg R s) (cnt := bg R (s + 1) - bg R s + 1) (B := 1) (g := fun i => enb R (i + bg R s)) (by omega) (by omega) (by omega) (by omega) (fun i i0 i1 => by have := enb_in R (i + bg R s); (try dsimp only); omega) (fun t => ?_) (fun t i i0 i1 t0 t1 => ?_)) (fun v τ' e => by rw [ip_P, e.1, e.2]; exact hQ)
  · rw [ip_ifT (by show bg R (s + 1) < bg R (s + 1) - bg R s + 1 + bg R s; omega), ip_P]
    exact ⟨rfl, rfl⟩
  · dsimp only
    have hb1 := enb_in R (i + bg R s)
    rw [ip_ifF (by show ¬ bg R (s + 1) < i + bg R s; omega), ip_B]
    refine ip_mayEnd hff hw hx.2.2.1 hrn (by omega) (by omega) (fun r hr => ?_)
    have er := enb_is hr
    rw [ip_B]
    have tail : ∀ y, y = t + enb R (i + bg R s) → ip (iA (i + bg R s + 1) fun y2 => iB (iP y2) fun x6 => iP (Sum.inl (y, x6) : (Int × Int) ⊕ Int)) (fun r τ' => τ' = τ ∧ r = Sum.inl (t + enb R (i + bg R s), i + 1 + bg R s)) τ := by
      intro y hy
      rw [ip_A]
      refine ⟨⟨by omega, by omega⟩, ?_⟩
      rw [ip_B, ip_P, ip_P, hy, show i + bg R s + 1 = i + 1 + bg R s by omega]
      exact ⟨rfl, rfl⟩
    by_cases z : r = 0
    · rw [ip_ifT z, ip_P]
      exact tail _ (by omega)
    · rw [ip_ifF z, ip_A]
      refine ⟨⟨by omega, by omega⟩, ?_⟩
      rw [ip_B, ip_P, ip_P]
      exact tail _ (by omega)
theorem ip_endsOf {s : Int} {Q : Int → iMem → Prop} (hw : WF R) (hx : Mx R τ) (h0 : 0 ≤ s) (h1 : s < ns R) (hQ : Q (esN R s) τ) : ip (iz_Model_endsOf 367 s) Q τ := by
  have h90 := hw.2.2.2
  have hb := bg_step hw s
  have hns := ns_in hw
  have hn16 := hw.1.2
  have e380 := hx.2.2.2.2.2.2.1 s h0 (by omega)
  unfold iz_Model_endsOf
  rw [ip_B, ip_Ld, m_14, l_380, e380]
  refine ⟨⟨by omega, by omega⟩, ?_⟩
  rw [ip_B]
  refine ip_mono (ip_sum (a := bg R s) (cnt := bg R (s + 1) - bg R s + 1) (B := 1) (g := fun i => enb R (i + bg R s)) (by omega) (by omega) (by omega) (by omega) (fun i i0 i1 => by have := enb_in R (i + bg R s); (try dsimp only); omega) (fun t => ?_) (fun t i i0 i1 t0 t1 => ?_)) (fun v τ' e => by rw [ip_P, e.1, e.2]; exact hQ)
  · rw [ip_B, ip_endOf hx.2 hw h0 h1, ip_ifT (by show bg R (s + 1) < bg R (s + 1) - bg R s + 1 + bg R s; omega), ip_P]
    exact ⟨rfl, rfl⟩
  · dsimp only
    have hb1 := enb_in R (i + bg R s)
    rw [ip_B, ip_endOf hx.2 hw h0 h1, ip_ifF (by show ¬ bg R (s + 1) < i + bg R s; omega), ip_B]
    refine ip_isEnd hx.2 hw h0 h1 (by omega) (by omega) (fun r hr => ?_)
    have er := enb_is hr
    rw [ip_B, ip_ifP]
    have ev : (if r = 0 then (0 : Int) else 1) = enb R (i + bg R s) := by
      by_cases z : r = 0
      · rw [if_pos z]; omega
      · rw [if_neg z]; omega
    rw [ev, ip_A]
    refine ⟨⟨by omega, by omega⟩, ?_⟩
    rw [ip_B, ip_P, ip_A]
    refine ⟨⟨by omega, by omega⟩, ?_⟩
    rw [ip_B, ip_P, ip_P, show i + bg R s + 1 = i + 1 + bg R s by omega]
    exact ⟨rfl, rfl⟩
noncomputable def secV (R : aRun) (s k : Int) : Int := if 0 ≤ s ∧ s < ns R then (if k = 0 then bg R s else if k = 1 then bg R (s + 1) else if k = 2 then sh R s else if k = 3 then esN R s else if k = 4 then ol R (bg R s) (bg R (s + 1)) else -1) else -1
theorem two_section (hI : InvX R τ) (s k : Int) : two R (iz_Top_section 0 s k) (iz_Model_section 367 s k) τ := by
  have hw := hI.1
  have h90 := hw.2.2.2
  have hnp := np_ge hw
  have hns := ns_in hw
  have hn16 := hw.1.2
  have hff := isFlow_53
  have hb := bg_step hw s
  unfold iz_Top_section iz_Model_section
  refine two_laid (Fn := fun r => r = secV R s k) hI (fun τ1 Q w1 _ hQ => ?_) (fun τ1 Q w1 _ hQ => ?_) (fun r r' e e' => e'.trans e.symm)
  · have hQ := hQ _ rfl
    unfold secV at hQ
    obtain ⟨x1, x2, x3, x4⟩ := id w1
    rw [pr_1 isPress_52, fl_16 hff, fl_17 hff, fl_18 hff]
    by_cases c1 : s < 0
    · rw [if_neg (show ¬ (0 ≤ s ∧ s < ns R) by omega)] at hQ
      rw [ip_ifT c1, ip_P]; exact hQ
    · rw [ip_ifF c1, ip_B, ip_Gt, x2.2.1]
      by_cases c2 : s < ns R
      · obtain ⟨a1, a2, a3⟩ := x2.2.2.2.2 s (by omega) c2
        rw [if_pos (show (0 ≤ s ∧ s < ns R) by omega)] at hQ
        rw [ip_ifT c2, ip_B, ip_at (by omega) (by rw [fl_l13 hff]; omega), a1, ip_B, ip_at (by omega) (by rw [fl_l14 hff]; omega), a2]
        by_cases k0 : k = 0
        · rw [if_pos k0] at hQ
          rw [ip_ifT k0, ip_P]; exact hQ
        · rw [if_neg k0] at hQ
          rw [ip_ifF k0]
          by_cases k1 : k = 1
          · rw [if_pos k1] at hQ
            rw [ip_ifT k1, ip_P]; exact hQ
          · rw [if_neg k1] at hQ
            rw [ip_ifF k1]
            by_cases k2 : k = 2
            · rw [if_pos k2] at hQ
              rw [ip_ifT k2, ip_B, ip_at (by omega) (by rw [fl_l15 hff]; omega), a3, ip_P]; exact hQ
            · rw [if_neg k2] at hQ
              rw [ip_ifF k2]
              by_cases k3 : k = 3
              · rw [if_pos k3] at hQ
                rw [ip_ifT k3, ip_B]
                exact ip_endsIn hw w1 (by omega) c2 (by rw [ip_P]; exact hQ)
              · rw [if_neg k3] at hQ
                rw [ip_ifF k3]
                by_cases k4 : k = 4
                · rw [if_pos k4] at hQ
                  rw [ip_ifT k4, ip_B, ip_ownLines hff hw x2 (by omega) (by omega), ip_P]; exact hQ
                · rw [if_neg k4] at hQ
                  rw [ip_ifF k4, ip_P]; exact hQ
      · rw [if_neg (show ¬ (0 ≤ s ∧ s < ns R) by omega)] at hQ
        rw [ip_ifF c2, ip_P]; exact hQ
  · have hQ := hQ _ rfl
    unfold secV at hQ
    obtain ⟨f1, f2, f3, f4, f5, f6, f7, f8⟩ := id w1.2
    unfold iz_Model_isSection
    rw [ip_B, ip_B, ip_Gt, f2, ip_A]
    refine ⟨⟨by omega, by omega⟩, ?_⟩
    rw [ip_B, ip_in, ip_B, ip_Z]
    by_cases c : s < 0 ∨ ns R - 1 < s
    · rw [if_neg (show ¬ (0 ≤ s ∧ s < ns R) by omega)] at hQ
      rw [if_pos c]
      refine ⟨Or.inl rfl, ?_⟩
      rw [ip_P, ip_ifF (by omega), ip_P]; exact hQ
    · have a1 := f6 s (by omega) (by omega)
      have a3 := f7 s (by omega) (by omega)
      rw [if_pos (show (0 ≤ s ∧ s < ns R) by omega)] at hQ
      rw [if_neg c]
      refine ⟨Or.inr rfl, ?_⟩
      rw [ip_P, ip_ifT (by omega)]
      by_cases k0 : k = 0
      · rw [if_pos k0] at hQ
        rw [ip_ifT k0, ip_B, ip_Ld, m_14, l_380, ip_P]
        exact ⟨⟨by omega, by omega⟩, by rw [a1]; exact hQ⟩
      · rw [if_neg k0] at hQ
        rw [ip_ifF k0]
        by_cases k1 : k = 1
        · rw [if_pos k1] at hQ
          rw [ip_ifT k1, ip_B, ip_endOf w1.2 hw (by omega) (by omega), ip_P]; exact hQ
        · rw [if_neg k1] at hQ
          rw [ip_ifF k1]
          by_cases k2 : k = 2
          · rw [if_pos k2] at hQ
            rw [ip_ifT k2, ip_B, ip_Ld, m_15, l_381, ip_P]
            exact ⟨⟨by omega, by omega⟩, by rw [a3]; exact hQ⟩
          · rw [if_neg k2] at hQ
            rw [ip_ifF k2]
            by_cases k3 : k = 3
            · rw [if_pos k3] at hQ
              rw [ip_ifT k3, ip_B]
              exact ip_endsOf hw w1 (by omega) (by omega) (by rw [ip_P]; exact hQ)
            · rw [if_neg k3] at hQ
              rw [ip_ifF k3]
              by_cases k4 : k = 4
              · rw [if_pos k4] at hQ
                rw [ip_ifT k4, ip_B, ip_Ld, m_14, l_380]
                refine ⟨⟨by omega, by omega⟩, ?_⟩
                rw [a1, ip_B, ip_endOf w1.2 hw (by omega) (by omega), ip_B, ip_ownOf hw w1.2 (by omega) (by omega) (by omega), ip_P]; exact hQ
              · rw [if_neg k4] at hQ
                rw [ip_ifF k4, ip_P]; exact hQ
/-! a BLOCK -/
def blkV (R : aRun) (b k : Int) : Int := if 0 ≤ b ∧ b < rn R then (if k = 0 then rc R b 0 else if k = 1 then rc R b 1 else if k = 2 then fs R b else if k = 3 then rc R b 2 else if k = 4 then rc R b 3 else if k = 5 then rc R b 4 else if k = 6 then rc R b 5 else if k = 7 then rc R b 6 else if k = 8 then rc R b 7 else -1) else -1
theorem ip_isBlock {b : Int} {Q : Int → iMem → Prop} (hw : WF R) (hR : RunM τ 368 0 R) : ip (iz_Model_isBlock 367 b) Q τ ↔ Q (if b < 0 ∨ rn R - 1 < b then 0 else 1) τ := by
  have hn := hw.1
  unfold iz_Model_isBlock
  rw [ip_B, ip_blocks, rm_n hR, ip_A]
  refine (and_iff_right ⟨by omega, by omega⟩).trans ?_
  rw [ip_B, ip_in, ip_B, ip_Z]
  refine (and_iff_right (by split <;> omega)).trans ?_
  rw [ip_P]
theorem ip_has {b : Int} {Q : Int → iMem → Prop} (hR : RunC τ 1 R) : ip (iz_Run_has 1 b) Q τ ↔ Q (if 0 ≤ b ∧ b < rn R then 1 else 0) τ := by
  unfold iz_Run_has
  by_cases c1 : b < 0
  · rw [ip_ifT c1, ip_P, if_neg (show ¬ (0 ≤ b ∧ b < rn R) by omega)]
  · rw [ip_ifF c1, ip_B, ip_Gt, hR.1]
    by_cases c2 : rn R ≤ b
    · rw [ip_ifT c2, ip_P, if_neg (show ¬ (0 ≤ b ∧ b < rn R) by omega)]
    · rw [ip_ifF c2, ip_P, if_pos (show (0 ≤ b ∧ b < rn R) by omega)]
/-- one side says v -/
def gv (R : aRun) (m : iM Int) (v : Int) (τ : iMem) : Prop := ip m (fun r τ1 => r = v ∧ InvX R τ1 ∧ ∀ a k, ¬ zw a k → τ1 a k = τ a k) τ
theorem gv_two {m n : iM Int} {v : Int} (hm : gv R m v τ) (hn : ∀ τ1, InvX R τ1 → (∀ a k, ¬ zw a k → τ1 a k = τ a k) → gv R n v τ1) : two R m n τ := by
  unfold two
  refine ip_mono hm (fun r τ1 h => ?_)
  refine ip_mono (hn τ1 h.2.1 h.2.2) (fun r' τ2 h' => ?_)
  exact ⟨h'.1.trans h.1.symm, h'.2.1, fun a k z => (h'.2.2 a k z).trans (h.2.2 a k z)⟩
theorem gv_laid (hI : InvX R τ) {m : Nat → iM Int} {v : Int} (hm : ∀ (τ1 : iMem) (Q : Int → iMem → Prop), Cx R 70 53 1 τ1 → (∀ a k, ¬ zw a k → τ1 a k = τ a k) → Q v τ1 → ip (m 52) Q τ1) : gv R (iB (iK 13 (iz_Top_laidOut 0)) m) v τ := by
  unfold gv
  rw [ip_B, ip_K]
  refine ip_laidOut hI.1 hI.2.1 (fun τ1 w1 w2 w3 w4 => ⟨t_k, ?_⟩)
  have hf : ∀ a k, ¬ zw a k → τ1 a k = τ a k := fun a k h => w4 a k (fun z => h (Or.inl z))
  exact hm τ1 _ w3 hf ⟨rfl, hI.c w1 w4, hf⟩
theorem gv_Mlaid (hI : InvX R τ) {n : iM Int} {v : Int} (hn : ∀ (τ1 : iMem) (Q : Int → iMem → Prop), Mx R τ1 → (∀ a k, ¬ zw a k → τ1 a k = τ a k) → Q v τ1 → ip n Q τ1) : gv R (iB (iz_Model_lays 367) fun _ => n) v τ := by
  unfold gv
  rw [ip_B]
  refine ip_lays hI.1 hI.2.2.2 (fun τ2 v1 v3 => ?_)
  have v4 : ∀ a k, ¬ mz a k → τ2 a k = τ a k := fun a k h => v3 a k (by unfold mz at h; unfold mlw; omega)
  have hX2 := hI.m v4
  have hf : ∀ a k, ¬ zw a k → τ2 a k = τ a k := fun a k h => v4 a k (fun z => h (Or.inr (Or.inr z)))
  exact hn τ2 _ ⟨hX2.2.2.2, v1⟩ hf ⟨rfl, hX2, hf⟩
theorem gv_const (hI : InvX R τ) {m : iM Int} {v : Int} (hm : ∀ Q : Int → iMem → Prop, Q v τ → ip m Q τ) : gv R m v τ := hm _ ⟨rfl, hI, fun _ _ _ => rfl⟩
theorem gv_to {m m' : iM Int} {v : Int} (h : ∀ Q : Int → iMem → Prop, ip m' Q τ → ip m Q τ) (g : gv R m' v τ) : gv R m v τ := h _ g
theorem gv_block (hI : InvX R τ) (b k : Int) : gv R (iz_Top_block 0 b k) (blkV R b k) τ := by
  have hw := hI.1
  have hn := hw.1
  have hff := isFlow_53
  have hR := hI.2.1.1
  have r1 := isRun_1
  unfold iz_Top_block blkV
  by_cases cb : 0 ≤ b ∧ b < rn R
  · rw [if_pos cb]
    refine gv_to (m' := _) (fun Q h => by rw [t_0, ip_B, ip_has hR, if_pos cb, ip_ifT (by omega)]; exact h) ?_
    by_cases k0 : k = 0
    · rw [if_pos k0, if_pos k0]
      exact gv_const hI (fun Q h => by rw [ip_B, ip_cellC r1 hR hn.2 cb.1 cb.2 (by omega) (by omega), ip_P]; exact h)
    · rw [if_neg k0, if_neg k0]
      by_cases k1 : k = 1
      · rw [if_pos k1, if_pos k1]
        exact gv_const hI (fun Q h => by rw [ip_B, ip_cellC r1 hR hn.2 cb.1 cb.2 (by omega) (by omega), ip_P]; exact h)
      · rw [if_neg k1, if_neg k1]
        by_cases k2 : k = 2
        · rw [if_pos k2, if_pos k2]
          refine gv_laid hI (fun τ1 Q w1 _ hQ => ?_)
          rw [pr_1 isPress_52, fl_4 hff, ip_B, ip_at cb.1 (by rw [fl_l1 hff]; omega), ip_P, w1.2.1.2.2.2.1 b cb.1 cb.2]
          exact hQ
        · rw [if_neg k2, if_neg k2]
          by_cases k3 : k = 3
          · rw [if_pos k3, if_pos k3]
            exact gv_const hI (fun Q h => by rw [ip_B, ip_cellC r1 hR hn.2 cb.1 cb.2 (by omega) (by omega), ip_P]; exact h)
          · rw [if_neg k3, if_neg k3]
            by_cases k4 : k = 4
            · rw [if_pos k4, if_pos k4]
              exact gv_const hI (fun Q h => by rw [ip_B, ip_cellC r1 hR hn.2 cb.1 cb.2 (by omega) (by omega), ip_P]; exact h)
            · rw [if_neg k4, if_neg k4]
              by_cases k5 : k = 5
              · rw [if_pos k5, if_pos k5]
                exact gv_const hI (fun Q h => by rw [ip_B, ip_cellC r1 hR hn.2 cb.1 cb.2 (by omega) (by omega), ip_P]; exact h)
              · rw [if_neg k5, if_neg k5]
                by_cases k6 : k = 6
                · rw [if_pos k6, if_pos k6]
                  exact gv_const hI (fun Q h => by rw [ip_B, ip_cellC r1 hR hn.2 cb.1 cb.2 (by omega) (by omega), ip_P]; exact h)
                · rw [if_neg k6, if_neg k6]
                  by_cases k7 : k = 7
                  · rw [if_pos k7, if_pos k7]
                    exact gv_const hI (fun Q h => by rw [ip_B, ip_cellC r1 hR hn.2 cb.1 cb.2 (by omega) (by omega), ip_P]; exact h)
                  · rw [if_neg k7, if_neg k7]
                    by_cases k8 : k = 8
                    · rw [if_pos k8, if_pos k8]
                      exact gv_const hI (fun Q h => by rw [ip_B, ip_cellC r1 hR hn.2 cb.1 cb.2 (by omega) (by omega), ip_P]; exact h)
                    · rw [if_neg k8, if_neg k8]
                      exact gv_const hI (fun Q h => by rw [ip_P]; exact h)
  · rw [if_neg cb]
    exact gv_const hI (fun Q h => by rw [t_0, ip_B, ip_has hR, if_neg cb, ip_ifF (by omega), ip_P]; exact h)
theorem gv_Mblock (hI : InvX R τ) (b k : Int) : gv R (iz_Model_block 367 b k) (blkV R b k) τ := by
  have hw := hI.1
  have hn := hw.1
  have hR := hI.2.2.2
  unfold iz_Model_block blkV
  by_cases cb : 0 ≤ b ∧ b < rn R
  · rw [if_pos cb]
    by_cases ck : k < 0 ∨ 8 < k
    · have e : (if k = 0 then rc R b 0 else if k = 1 then rc R b 1 else if k = 2 then fs R b else if k = 3 then rc R b 2 else if k = 4 then rc R b 3 else if k = 5 then rc R b 4 else if k = 6 then rc R b 5 else if k = 7 then rc R b 6 else if k = 8 then rc R b 7 else -1) = -1 := by
        rw [if_neg (show ¬ k = 0 by omega), if_neg (show ¬ k = 1 by omega), if_neg (show ¬ k = 2 by omega), if_neg (show ¬ k = 3 by omega), if_neg (show ¬ k = 4 by omega), if_neg (show ¬ k = 5 by omega), if_neg (show ¬ k = 6 by omega), if_neg (show ¬ k = 7 by omega), if_neg (show ¬ k = 8 by omega)]
      rw [e]
      exact gv_const hI (fun Q h => by rw [ip_B, ip_isBlock hw hR, if_neg (show ¬ (b < 0 ∨ rn R - 1 < b) by omega), ip_ifF (by omega), ip_B, ip_in, if_pos ck, ip_ifF (by omega), ip_P]; exact h)
    · refine gv_to (m' := _) (fun Q h => by rw [ip_B, ip_isBlock hw hR, if_neg (show ¬ (b < 0 ∨ rn R - 1 < b) by omega), ip_ifF (by omega), ip_B, ip_in, if_neg ck, ip_ifT (by omega)]; exact h) ?_
      refine gv_Mlaid hI (fun τ1 Q w1 _ hQ => ?_)
      by_cases k0 : k = 0
      · rw [if_pos k0] at hQ
        rw [ip_ifT k0, ip_B, ip_of w1.1 hn.2 cb.1 cb.2 (by omega) (by omega), ip_P]; exact hQ
      · rw [if_neg k0] at hQ
        rw [ip_ifF k0]
        by_cases k1 : k = 1
        · rw [if_pos k1] at hQ
          rw [ip_ifT k1, ip_B, ip_of w1.1 hn.2 cb.1 cb.2 (by omega) (by omega), ip_P]; exact hQ
        · rw [if_neg k1] at hQ
          rw [ip_ifF k1]
          by_cases k2 : k = 2
          · rw [if_pos k2] at hQ
            rw [ip_ifT k2, ip_B, ip_Ld, m_17, l_382, ip_P]
            exact ⟨⟨by omega, by omega⟩, by rw [w1.2.2.2.2.2.2.2.2 b cb.1 cb.2]; exact hQ⟩
          · rw [if_neg k2] at hQ
            rw [ip_ifF k2]
            by_cases k3 : k = 3
            · rw [if_pos k3] at hQ
              rw [ip_ifT k3, ip_B, ip_of w1.1 hn.2 cb.1 cb.2 (by omega) (by omega), ip_P]; exact hQ
            · rw [if_neg k3] at hQ
              rw [ip_ifF k3]
              by_cases k4 : k = 4
              · rw [if_pos k4] at hQ
                rw [ip_ifT k4, ip_B, ip_of w1.1 hn.2 cb.1 cb.2 (by omega) (by omega), ip_P]; exact hQ
              · rw [if_neg k4] at hQ
                rw [ip_ifF k4]
                by_cases k5 : k = 5
                · rw [if_pos k5] at hQ
                  rw [ip_ifT k5, ip_B, ip_of w1.1 hn.2 cb.1 cb.2 (by omega) (by omega), ip_P]; exact hQ
                · rw [if_neg k5] at hQ
                  rw [ip_ifF k5]
                  by_cases k6 : k = 6
                  · rw [if_pos k6] at hQ
                    rw [ip_ifT k6, ip_B, ip_of w1.1 hn.2 cb.1 cb.2 (by omega) (by omega), ip_P]; exact hQ
                  · rw [if_neg k6] at hQ
                    rw [ip_ifF k6]
                    by_cases k7 : k = 7
                    · rw [if_pos k7] at hQ
                      rw [ip_ifT k7, ip_B, ip_of w1.1 hn.2 cb.1 cb.2 (by omega) (by omega), ip_P]; exact hQ
                    · rw [if_neg k7, if_pos (show k = 8 by omega)] at hQ
                      rw [ip_ifF k7, ip_B, ip_of w1.1 hn.2 cb.1 cb.2 (by omega) (by omega), ip_P]; exact hQ
  · rw [if_neg cb]
    exact gv_const hI (fun Q h => by rw [ip_B, ip_isBlock hw hR, if_pos (show b < 0 ∨ rn R - 1 < b by omega), ip_ifT rfl, ip_P]; exact h)
theorem two_block (hI : InvX R τ) (b k : Int) : two R (iz_Top_block 0 b k) (iz_Model_block 367 b k) τ := gv_two (gv_block hI b k) (fun _ h _ => gv_Mblock h b k)
end
