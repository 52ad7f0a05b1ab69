/-! ===== set, tie, space, swap ===== -/
section
variable {τ τ' : iMem} {R R' : aRun} {H : Nat → aRun} {n : Nat} {x : Int} {K : Int → aRun} {f : Int → Int} {L : Int} {T : Int → Int}
theorem ip_act {m : iM Int} {v : Int} (hW : WS R H n K f L T) (hC : CS R H n x K f L T τ) (h : ∀ τ1, RunC τ1 1 R → (∀ a k, 405 ≤ a → τ1 a k = τ a k) → ip m (fun r τ2 => r = v ∧ RunC τ2 1 R' ∧ ∀ a k, ¬ (1 ≤ a ∧ a ≤ 3) → τ2 a k = τ1 a k) τ1) :
    ip (iB (iz_Top_beginAct 0) fun _ => m) (fun r τ2 => r = v ∧ CS R' (puH H n R) (puN n) ((x + 1) % 10) K f L T τ2 ∧ ∀ a k, 367 ≤ a → τ2 a k = τ a k) τ := by
  rw [ip_B]
  refine ip_beginAct hC.1.1 hW.1.1.2 hC.2.2.1 hW.2.1.1 (fun τ1 u1 u2 u3 u4 u5 => ?_)
  refine ip_mono (h τ1 u2 (fun a k z => u5 a k (by omega))) (fun r τ2 g => ⟨g.1, ?_, fun a k z => by rw [g.2.2 a k (by omega), u5 a k (by omega)]⟩)
  exact hC.next g.2.1 (by rw [g.2.2 _ _ (by omega)]; exact u3) (by rw [g.2.2 _ _ (by omega)]; exact u4) (u1.frame (fun a k _ _ => g.2.2 a k (by omega))) (fun a k z => by rw [g.2.2 a k (by omega), u5 a k (by omega)])
theorem ip_Mact {m : iM Int} {v : Int} (hW : WS R H n K f L T) (hM : MS R H n K f L T τ) (h : ∀ τ1, RunM τ1 368 0 R → ip m (fun r τ2 => r = v ∧ RunM τ2 368 0 R' ∧ ∀ a k, a ≠ 368 → τ2 a k = τ1 a k) τ1) :
    ip (iB (iz_Model_keepsAct 367) fun _ => m) (fun r τ2 => r = v ∧ MS R' (puH H n R) (puN n) K f L T τ2 ∧ ∀ a k, a ≤ 366 ∨ 405 ≤ a → τ2 a k = τ a k) τ := by
  rw [ip_B]
  refine ip_keepsAct hM.1 hW.1 hM.2.1 hW.2.1 (fun τ1 u1 u2 => ?_)
  refine ip_mono (h τ1 (hM.1.frame (fun k => u2 _ _ (by omega)))) (fun r τ2 g => ⟨g.1, ⟨g.2.1, u1.frame (g.2.2 _ _ (by omega)) (fun k => g.2.2 _ _ (by omega)), ?_, ?_⟩, fun a k z => by rw [g.2.2 a k (by omega), u2 a k (by omega)]⟩)
  · exact hM.2.2.1.frame (fun k => by rw [g.2.2 _ _ (by omega), u2 _ _ (by omega)]) (fun k => by rw [g.2.2 _ _ (by omega), u2 _ _ (by omega)])
  · exact hM.2.2.2.frame (by rw [g.2.2 _ _ (by omega), u2 _ _ (by omega)]) (fun k => by rw [g.2.2 _ _ (by omega), u2 _ _ (by omega)])
theorem pu_WS (hW : WS R H n K f L T) (h : WF R') : WS R' (puH H n R) (puN n) K f L T := ⟨h, pu_W hW.2.1 hW.1, hW.2.2.1, hW.2.2.2⟩
theorem ip_hasP {b : Int} {Q : Int → iMem → Prop} (hw : WF R) (hR : RunC τ 1 R) : ip (iz_Run_hasPieces 1 b) Q τ ↔ Q (if (0 ≤ b ∧ b < rn R) ∧ rc R b 0 ≠ 4 then 1 else 0) τ := by
  unfold iz_Run_hasPieces
  rw [ip_B, ip_has hR]
  by_cases c : 0 ≤ b ∧ b < rn R
  · rw [if_pos c, ip_ifF (by omega), ip_B, ip_cellC isRun_1 hR hw.1.2 c.1 c.2 (by omega) (by omega)]
    by_cases d : rc R b 0 = 4
    · rw [ip_ifT d, ip_P, if_neg (fun z => z.2 d)]
    · rw [ip_ifF d, ip_P, if_pos ⟨c, d⟩]
  · rw [if_neg c, ip_ifT rfl, ip_P, if_neg (fun z => c z.1)]
theorem ip_isPlain {b : Int} {Q : Int → iMem → Prop} (hw : WF R) (hR : RunM τ 368 0 R) : ip (iz_Model_isPlain 367 b) Q τ ↔ Q (if (0 ≤ b ∧ b < rn R) ∧ rc R b 0 ≠ 4 then 1 else 0) τ := by
  unfold iz_Model_isPlain
  rw [ip_B, ip_isBlock hw hR]
  by_cases c : 0 ≤ b ∧ b < rn R
  · rw [if_neg (show ¬ (b < 0 ∨ rn R - 1 < b) by omega), ip_ifF (by omega), ip_B, ip_of hR hw.1.2 c.1 c.2 (by omega) (by omega)]
    by_cases d : rc R b 0 = 4
    · rw [ip_ifT d, ip_P, if_neg (fun z => z.2 d)]
    · rw [ip_ifF d, ip_P, if_pos ⟨c, d⟩]
  · rw [if_pos (show b < 0 ∨ rn R - 1 < b by omega), ip_ifT rfl, ip_P, if_neg (fun z => c z.1)]
theorem RP_c {o : Nat} {b w v : Int} (h : RunC τ o R) (w0 : 0 ≤ w) (w1 : w < 16) : RunC (iu τ (o + 2) (b * 16 + w) v) o (RP R b w v) := by
  refine ⟨(iu_ne (Or.inl (by omega))).trans h.1, fun k k0 k1 => (iu_ne (Or.inl (by omega))).trans (h.2.1 k k0 k1), fun c u c0 c1 u0 u1 => ?_⟩
  rw [RP_rc]
  by_cases z : c = b ∧ u = w
  · rw [if_pos z, z.1, z.2, show 16 * b + w = b * 16 + w by omega, iu_eq]
  · rw [if_neg z, iu_ne (Or.inr (by omega))]
    exact h.2.2 c u c0 c1 u0 u1
theorem RP_m {b w v : Int} (h : RunM τ 368 0 R) (b0 : 0 ≤ b) (w0 : 0 ≤ w) (w1 : w < 8) : RunM (iu τ 368 (9 + 16 * b + w) v) 368 0 (RP R b w v) := by
  refine ⟨(iu_ne (Or.inr (by omega))).trans h.1, fun k k0 k1 => (iu_ne (Or.inr (by omega))).trans (h.2.1 k k0 k1), fun c u c0 c1 u0 u1 => ?_⟩
  have hp := pw_in u0 u1
  have hq : pw u = w ↔ u = w := by unfold pw; omega
  rw [RP_rc]
  by_cases z : c = b ∧ u = w
  · rw [if_pos z, hq.mpr z.2, z.1, show 0 + 9 + 16 * b + w = 9 + 16 * b + w by omega, iu_eq]
  · rw [if_neg z, iu_ne (Or.inr (by omega))]
    exact h.2.2 c u c0 c1 u0 u1
theorem act_set (hI : Inv τ) (k v : Int) : act (iz_Top_set 0 k v) (iz_Model_set 367 k v) τ := by
  have hI' := hI
  obtain ⟨hS, R, H, n, x, K, f, L, T, hW, hC, hM⟩ := hI
  have hs : okS k v ∨ ¬ okS k v := Classical.em _
  rcases hs with hs | hs
  · have hs' := hs
    unfold okS at hs'
    by_cases c : rs R k = v
    · refine act_same (v := -2) hI' ?_ ?_
      · unfold iz_Top_set
        rw [ip_B]
        refine ip_takes hS.1 (fun r hr => ?_)
        rcases hr with ⟨r1, r2⟩ | ⟨r1, r2⟩
        · rw [ip_ifT (by omega), t_0, ip_B, ip_settingC isRun_1 hC.1.1 hs'.1.1 hs'.1.2, ip_ifF (by omega), ip_P]
          exact ⟨rfl, rfl⟩
        · exact absurd hs r2
      · unfold iz_Model_set
        rw [ip_B]
        refine ip_isSetting (fun r hr => ?_)
        rcases hr with ⟨r1, r2⟩ | ⟨r1, r2⟩
        · rw [ip_ifT (by omega), ip_B, ip_Ld, m_0, l_368, rm_s hM.1 hs'.1.1 hs'.1.2]
          refine ⟨⟨by omega, by omega⟩, ?_⟩
          rw [ip_ifF (by omega), ip_P]
          exact ⟨rfl, fun _ _ _ => rfl⟩
        · exact absurd hs r2
    · refine act_of (v := rs R k) hS hM (R' := RS R k v) (x' := (x + 1) % 10) (pu_WS hW (RS_wf hW.1 hs)) ?_ (fun τ1 hM1 => ?_)
      · unfold iz_Top_set
        rw [ip_B]
        refine ip_takes hS.1 (fun r hr => ?_)
        rcases hr with ⟨r1, r2⟩ | ⟨r1, r2⟩
        · rw [ip_ifT (by omega), t_0, ip_B, ip_settingC isRun_1 hC.1.1 hs'.1.1 hs'.1.2, ip_ifT c]
          refine ip_act hW hC (fun τ1 u1 u2 => ?_)
          unfold iz_Run_put
          rw [ip_B, ip_B]
          refine ip_takes (hS.1.frame (fun a k z => u2 a k (by omega))) (fun r' hr' => ?_)
          rcases hr' with ⟨q1, q2⟩ | ⟨q1, q2⟩
          · rw [ip_ifF (by omega), ip_B, ip_St, rr_1 isRun_1, rl_1 isRun_1]
            refine ⟨⟨⟨by omega, by omega⟩, by omega⟩, ?_⟩
            rw [ip_P, ip_P]
            exact ⟨rfl, RS_rc u1, fun a k z => iu_ne (by omega)⟩
          · exact absurd hs q2
        · exact absurd hs r2
      · unfold iz_Model_set
        rw [ip_B]
        refine ip_isSetting (fun r hr => ?_)
        rcases hr with ⟨r1, r2⟩ | ⟨r1, r2⟩
        · rw [ip_ifT (by omega), ip_B, ip_Ld, m_0, l_368, rm_s hM1.1 hs'.1.1 hs'.1.2]
          refine ⟨⟨by omega, by omega⟩, ?_⟩
          rw [ip_ifT c]
          refine ip_Mact hW hM1 (fun τ2 u1 => ?_)
          rw [ip_B, ip_St, l_368]
          refine ⟨⟨⟨by omega, by omega⟩, by omega⟩, ?_⟩
          rw [ip_P]
          exact ⟨rfl, RS_rm u1 hs'.1.1 hs'.1.2, fun a k z => iu_ne (Or.inl z)⟩
        · exact absurd hs r2
  · refine act_same (v := -1) hI' ?_ ?_
    · unfold iz_Top_set
      rw [ip_B]
      refine ip_takes hS.1 (fun r hr => ?_)
      rcases hr with ⟨r1, r2⟩ | ⟨r1, r2⟩
      · exact absurd r2 hs
      · rw [ip_ifF (by omega), ip_P]; exact ⟨rfl, rfl⟩
    · unfold iz_Model_set
      rw [ip_B]
      refine ip_isSetting (fun r hr => ?_)
      rcases hr with ⟨r1, r2⟩ | ⟨r1, r2⟩
      · exact absurd r2 hs
      · rw [ip_ifF (by omega), ip_P]; exact ⟨rfl, fun _ _ _ => rfl⟩
theorem act_tie (hI : Inv τ) (b p : Int) (hp : p = 0 ∨ p = 1) : act (iz_Top_tie 0 b p) (iz_Model_tie 367 b p) τ := by
  have hI' := hI
  obtain ⟨hS, R, H, n, x, K, f, L, T, hW, hC, hM⟩ := hI
  have hw := hW.1
  by_cases hs : (0 ≤ b ∧ b < rn R) ∧ rc R b 0 ≠ 4
  · have hb := hw.2.2.1 b hs.1.1 hs.1.2
    have h01 : rc R b 4 = 0 ∨ rc R b 4 = 1 := hb.2.2.2.2.2.2.2.1
    have ebit : ∀ {τ : iMem} {Q : Int → iMem → Prop}, Q p τ → ip (if p = 0 then iP 0 else iP 1) Q τ := by
      intro τ Q h
      rcases hp with z | z
      · rw [ip_ifT z, ip_P]; rw [z] at h; exact h
      · rw [ip_ifF (by omega), ip_P]; rw [z] at h; exact h
    have ebit2 : ∀ {τ : iMem} {Q : Int → iMem → Prop}, Q (rc R b 4) τ → ip (if ¬ rc R b 4 = 1 then iP 0 else iP 1) Q τ := by
      intro τ Q h
      rcases h01 with z | z
      · rw [ip_ifT (by omega), ip_P]; rw [z] at h; exact h
      · rw [ip_ifF (by omega), ip_P]; rw [z] at h; exact h
    by_cases c : rc R b 4 = p
    · refine act_same (v := -2) hI' ?_ ?_
      · unfold iz_Top_tie
        rw [t_0, ip_B, ip_hasP hw hC.1.1, if_pos hs, ip_ifT (by omega), ip_B]
        refine ebit ?_
        rw [ip_B, ip_cellC isRun_1 hC.1.1 hw.1.2 hs.1.1 hs.1.2 (by omega) (by omega), ip_ifF (by omega), ip_P]
        exact ⟨rfl, rfl⟩
      · unfold iz_Model_tie
        rw [ip_B, ip_isPlain hw hM.1, if_pos hs, ip_ifT (by omega), ip_B, ip_of hM.1 hw.1.2 hs.1.1 hs.1.2 (by omega) (by omega), ip_B]
        refine ebit2 ?_
        rw [ip_ifF (by omega), ip_P]
        exact ⟨rfl, fun _ _ _ => rfl⟩
    · refine act_of (v := 1) hS hM (R' := RP R b 4 p) (x' := (x + 1) % 10) (pu_WS hW (RP_wf hw hs.1.1 hs.1.2 (Or.inl ⟨rfl, hs.2, hp⟩))) ?_ (fun τ1 hM1 => ?_)
      · unfold iz_Top_tie
        rw [t_0, ip_B, ip_hasP hw hC.1.1, if_pos hs, ip_ifT (by omega), ip_B]
        refine ebit ?_
        rw [ip_B, ip_cellC isRun_1 hC.1.1 hw.1.2 hs.1.1 hs.1.2 (by omega) (by omega), ip_ifT c]
        refine ip_act hW hC (fun τ1 u1 u2 => ?_)
        rw [ip_B, ip_putCell isRun_1 (by omega) hs.1.1 (by have := hw.1; omega) (by omega) (by omega), ip_P]
        exact ⟨rfl, RP_c u1 (by omega) (by omega), fun a k z => iu_ne (by omega)⟩
      · unfold iz_Model_tie
        rw [ip_B, ip_isPlain hw hM1.1, if_pos hs, ip_ifT (by omega), ip_B, ip_of hM1.1 hw.1.2 hs.1.1 hs.1.2 (by omega) (by omega), ip_B]
        refine ebit2 ?_
        have hn := hw.1
        rw [ip_ifT c]
        refine ip_Mact hW hM1 (fun τ2 u1 => ?_)
        have key : ∀ y : Int, y = p → ip (iA (16 * b) fun y1 => iA (9 + y1) fun y2 => iA (y2 + 4) fun y3 => iB (iSt (qm_rf 367 0) y3 y) fun _ => (iP 1 : iM Int)) (fun r τ3 => r = 1 ∧ RunM τ3 368 0 (RP R b 4 p) ∧ ∀ a k, a ≠ 368 → τ3 a k = τ2 a k) τ2 := by
          intro y hy
          rw [ip_A]
          refine ⟨⟨by omega, by omega⟩, ?_⟩
          rw [ip_A]
          refine ⟨⟨by omega, by omega⟩, ?_⟩
          rw [ip_A]
          refine ⟨⟨by omega, by omega⟩, ?_⟩
          rw [ip_B, ip_St, m_0, l_368]
          refine ⟨⟨⟨by omega, by omega⟩, by omega⟩, ?_⟩
          rw [ip_P, hy]
          exact ⟨rfl, RP_m u1 hs.1.1 (by omega) (by omega), fun a k z => iu_ne (Or.inl z)⟩
        rcases hp with z | z
        · rw [ip_ifT z]; exact key 0 z.symm
        · rw [ip_ifF (by omega)]; exact key 1 z.symm
  · refine act_same (v := -1) hI' ?_ ?_
    · unfold iz_Top_tie
      rw [t_0, ip_B, ip_hasP hw hC.1.1, if_neg hs, ip_ifF (by omega), ip_P]
      exact ⟨rfl, rfl⟩
    · unfold iz_Model_tie
      rw [ip_B, ip_isPlain hw hM.1, if_neg hs, ip_ifF (by omega), ip_P]
      exact ⟨rfl, fun _ _ _ => rfl⟩
theorem act_space (hI : Inv τ) (b p : Int) : act (iz_Top_space 0 b p) (iz_Model_space 367 b p) τ := by
  have hI' := hI
  obtain ⟨hS, R, H, n, x, K, f, L, T, hW, hC, hM⟩ := hI
  have hw := hW.1
  have hn := hw.1
  by_cases hs : (0 ≤ b ∧ b < rn R) ∧ rc R b 0 ≠ 4
  · by_cases hp : 0 ≤ p ∧ p ≤ 30
    · by_cases c : rc R b 6 = p
      · refine act_same (v := -2) hI' ?_ ?_
        · unfold iz_Top_space
          rw [t_0, ip_B, ip_hasP hw hC.1.1, if_pos hs, ip_ifF (by omega), ip_ifF (by omega), ip_ifT hp.2, ip_B, ip_cellC isRun_1 hC.1.1 hw.1.2 hs.1.1 hs.1.2 (by omega) (by omega), ip_ifF (by omega), ip_P]
          exact ⟨rfl, rfl⟩
        · unfold iz_Model_space
          rw [ip_B, ip_isPlain hw hM.1, if_pos hs, ip_ifF (by omega), ip_B, ip_in, if_neg (show ¬ (p < 0 ∨ 30 < p) by omega), ip_ifT (by omega), ip_B, ip_of hM.1 hw.1.2 hs.1.1 hs.1.2 (by omega) (by omega), ip_ifF (by omega), ip_P]
          exact ⟨rfl, fun _ _ _ => rfl⟩
      · refine act_of (v := rc R b 6) hS hM (R' := RP R b 6 p) (x' := (x + 1) % 10) (pu_WS hW (RP_wf hw hs.1.1 hs.1.2 (Or.inr ⟨rfl, hp⟩))) ?_ (fun τ1 hM1 => ?_)
        · unfold iz_Top_space
          rw [t_0, ip_B, ip_hasP hw hC.1.1, if_pos hs, ip_ifF (by omega), ip_ifF (by omega), ip_ifT hp.2, ip_B, ip_cellC isRun_1 hC.1.1 hw.1.2 hs.1.1 hs.1.2 (by omega) (by omega), ip_ifT c]
          refine ip_act hW hC (fun τ1 u1 u2 => ?_)
          rw [ip_B, ip_putCell isRun_1 (by omega) hs.1.1 (by omega) (by omega) (by omega), ip_P]
          exact ⟨rfl, RP_c u1 (by omega) (by omega), fun a k z => iu_ne (by omega)⟩
        · unfold iz_Model_space
          rw [ip_B, ip_isPlain hw hM1.1, if_pos hs, ip_ifF (by omega), ip_B, ip_in, if_neg (show ¬ (p < 0 ∨ 30 < p) by omega), ip_ifT (by omega), ip_B, ip_of hM1.1 hw.1.2 hs.1.1 hs.1.2 (by omega) (by omega), ip_ifT c]
          refine ip_Mact hW hM1 (fun τ2 u1 => ?_)
          rw [ip_A]
          refine ⟨⟨by omega, by omega⟩, ?_⟩
          rw [ip_A]
          refine ⟨⟨by omega, by omega⟩, ?_⟩
          rw [ip_A]
          refine ⟨⟨by omega, by omega⟩, ?_⟩
          rw [ip_B, ip_St, m_0, l_368]
          refine ⟨⟨⟨by omega, by omega⟩, by omega⟩, ?_⟩
          rw [ip_P]
          exact ⟨rfl, RP_m u1 hs.1.1 (by omega) (by omega), fun a k z => iu_ne (Or.inl z)⟩
    · refine act_same (v := -1) hI' ?_ ?_
      · unfold iz_Top_space
        rw [t_0, ip_B, ip_hasP hw hC.1.1, if_pos hs, ip_ifF (by omega)]
        by_cases d : p < 0
        · rw [ip_ifT d, ip_P]; exact ⟨rfl, rfl⟩
        · rw [ip_ifF d, ip_ifF (by omega), ip_P]; exact ⟨rfl, rfl⟩
      · unfold iz_Model_space
        rw [ip_B, ip_isPlain hw hM.1, if_pos hs, ip_ifF (by omega), ip_B, ip_in, if_pos (show p < 0 ∨ 30 < p by omega), ip_ifF (by omega), ip_P]
        exact ⟨rfl, fun _ _ _ => rfl⟩
  · refine act_same (v := -1) hI' ?_ ?_
    · unfold iz_Top_space
      rw [t_0, ip_B, ip_hasP hw hC.1.1, if_neg hs, ip_ifT rfl, ip_P]
      exact ⟨rfl, rfl⟩
    · unfold iz_Model_space
      rw [ip_B, ip_isPlain hw hM.1, if_neg hs, ip_ifT rfl, ip_P]
      exact ⟨rfl, fun _ _ _ => rfl⟩
theorem act_swap (hI : Inv τ) (b p : Int) : act (iz_Top_swap 0 b p) (iz_Model_swap 367 b p) τ := by
  have hI' := hI
  obtain ⟨hS, R, H, n, x, K, f, L, T, hW, hC, hM⟩ := hI
  have hw := hW.1
  have hn := hw.1
  by_cases hb : 0 ≤ b ∧ b < rn R
  · by_cases hp : 0 ≤ p ∧ p < rn R
    · by_cases c : b = p
      · refine act_same (v := -1) hI' ?_ ?_
        · unfold iz_Top_swap
          rw [t_0, ip_B, ip_has hC.1.1, if_pos hb, ip_ifF (by omega), ip_B, ip_has hC.1.1, if_pos hp, ip_ifF (by omega), ip_ifF (by omega), ip_P]
          exact ⟨rfl, rfl⟩
        · unfold iz_Model_swap
          rw [ip_B, ip_isBlock hw hM.1, if_neg (show ¬ (b < 0 ∨ rn R - 1 < b) by omega), ip_ifF (by omega), ip_B, ip_isBlock hw hM.1, if_neg (show ¬ (p < 0 ∨ rn R - 1 < p) by omega), ip_ifF (by omega), ip_ifF (by omega), ip_P]
          exact ⟨rfl, fun _ _ _ => rfl⟩
      · refine act_of (v := 1) hS hM (R' := RX R b p) (x' := (x + 1) % 10) (pu_WS hW (RX_wf2 hw hb.1 hb.2 hp.1 hp.2 c)) ?_ (fun τ1 hM1 => ?_)
        · unfold iz_Top_swap
          rw [t_0, ip_B, ip_has hC.1.1, if_pos hb, ip_ifF (by omega), ip_B, ip_has hC.1.1, if_pos hp, ip_ifF (by omega), ip_ifT c]
          refine ip_act hW hC (fun τ1 u1 u2 => ?_)
          rw [ip_B]
          refine ip_exchange isRun_1 (by omega) hb.1 (by omega) hp.1 (by omega) c (fun τ2 v1 v2 => ?_)
          rw [ip_P]
          exact ⟨rfl, RX_c u1 hb.1 hb.2 hp.1 hp.2 c v1 v2, fun a k z => v2 a k (by omega)⟩
        · unfold iz_Model_swap
          rw [ip_B, ip_isBlock hw hM1.1, if_neg (show ¬ (b < 0 ∨ rn R - 1 < b) by omega), ip_ifF (by omega), ip_B, ip_isBlock hw hM1.1, if_neg (show ¬ (p < 0 ∨ rn R - 1 < p) by omega), ip_ifF (by omega), ip_ifT c]
          refine ip_Mact hW hM1 (fun τ2 u1 => ?_)
          rw [ip_B]
          refine ip_trades hb.1 (by omega) hp.1 (by omega) c (fun τ3 v1 v2 => ?_)
          rw [ip_P]
          exact ⟨rfl, RX_m u1 hb.1 hb.2 hp.1 hp.2 c v1 v2, fun a k z => v2 a k (by omega)⟩
    · refine act_same (v := -1) hI' ?_ ?_
      · unfold iz_Top_swap
        rw [t_0, ip_B, ip_has hC.1.1, if_pos hb, ip_ifF (by omega), ip_B, ip_has hC.1.1, if_neg hp, ip_ifT rfl, ip_P]
        exact ⟨rfl, rfl⟩
      · unfold iz_Model_swap
        rw [ip_B, ip_isBlock hw hM.1, if_neg (show ¬ (b < 0 ∨ rn R - 1 < b) by omega), ip_ifF (by omega), ip_B, ip_isBlock hw hM.1, if_pos (show p < 0 ∨ rn R - 1 < p by omega), ip_ifT rfl, ip_P]
        exact ⟨rfl, fun _ _ _ => rfl⟩
  · refine act_same (v := -1) hI' ?_ ?_
    · unfold iz_Top_swap
      rw [t_0, ip_B, ip_has hC.1.1, if_neg hb, ip_ifT rfl, ip_P]
      exact ⟨rfl, rfl⟩
    · unfold iz_Model_swap
      rw [ip_B, ip_isBlock hw hM.1, if_pos (show b < 0 ∨ rn R - 1 < b by omega), ip_ifT rfl, ip_P]
      exact ⟨rfl, fun _ _ _ => rfl⟩
end
