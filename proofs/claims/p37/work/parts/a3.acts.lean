/-! ===== set, tie, space, swap ===== -/
section
variable {τ τ' : iMem} {R R' : aRun} {H : Nat → aRun} {n : Nat} {x : Int} {K : Int → aRun} {f : Int → Int} {L : Int} {T : Int → Int}
theorem ip_act {m : iM Int} {v : Int} (hW : WS R H n K f L T) (hC : CS R H n x K f L T τ) (h : ∀ τ1, RunC τ1 1 R → (∀ a k, 405 ≤ a → τ1 a k = τ a k) → ip m (fun r τ2 => r = v ∧ RunC τ2 1 R' ∧ ∀ a k, ¬ (1 ≤ a ∧ a ≤ 3) → τ2 a k = τ1 a k) τ1) :
    ip (iB (iz_Top_beginAct 0) fun _ => m) (fun r τ2 => r = v ∧ CS R' (puH H n R) (puN n) ((x + 1) % 10) K f L T τ2 ∧ ∀ a k, 367 ≤ a → τ2 a k = τ a k) τ := by
  rw [ip_B]
  refine ip_beginAct hC.1.1 hW.1.1.2 hC.2.2.1 hW.2.1.1 (fun τ1 u1 u2 u3 u4 u5 => ?_)
  refine ip_mono (h τ1 u2 (fun a k z => u5 a k (by omega))) (fun r τ2 g => ⟨g.1, ?_, fun a k z => by rw [g.2.2 a k (by omega), u5 a k (by omega)]⟩)
  exact hC.next g.2.1 (by rw [g.2.2 _ _ (by omega)]; exact u3) (by rw [g.2.2 _ _ (by omega)]; exact u4) (u1.frame (fun a k _ _ => g.2.2 a k (by omega))) (fun a k z => by rw [g.2.2 a k (by omega), u5 a k (by omega)])
theorem pu_WS (hW : WS R H n K f L T) (h : WF R') : WS R' (puH H n R) (puN n) K f L T := ⟨h, pu_W hW.2.1 hW.1, hW.2.2.1, hW.2.2.2⟩
theorem ip_hasP {b : Int} {Q : Int → iMem → Prop} (hw : WF R) (hR : RunC τ 1 R) : ip (iz_Run_hasPieces 1 b) Q τ ↔ Q (if (0 ≤ b ∧ b < rn R) ∧ rc R b 0 ≠ 4 then 1 else 0) τ := by
  unfold iz_Run_hasPieces
  rw [ip_B, ip_has hR]
  by_cases c : 0 ≤ b ∧ b < rn R
  · rw [if_pos c, ip_ifF (by omega), ip_B, ip_cellC isRun_1 hR hw.1.2 c.1 c.2 (by omega) (by omega)]
    by_cases d : rc R b 0 = 4
    · rw [ip_ifT d, ip_P, if_neg (fun z => z.2 d)]
    · rw [ip_ifF d, ip_P, if_pos ⟨c, d⟩]
  · rw [if_neg c, ip_ifT rfl, ip_P, if_neg (fun z => c z.1)]
theorem RP_c {o : Nat} {b w v : Int} (h : RunC τ o R) (w0 : 0 ≤ w) (w1 : w < 16) : RunC (iu τ (o + 2) (b * 16 + w) v) o (RP R b w v) := by
  refine ⟨(iu_ne (Or.inl (by omega))).trans h.1, fun k k0 k1 => (iu_ne (Or.inl (by omega))).trans (h.2.1 k k0 k1), fun c u c0 c1 u0 u1 => ?_⟩
  rw [RP_rc]
  by_cases z : c = b ∧ u = w
  · rw [if_pos z, z.1, z.2, show 16 * b + w = b * 16 + w by omega, iu_eq]
  · rw [if_neg z, iu_ne (Or.inr (by omega))]
    exact h.2.2 c u c0 c1 u0 u1
theorem ca_set (hI : cI R H n x K f L T τ) (k v : Int) {S : Int → aRun → (Nat → aRun) → Nat → (Int → aRun) → (Int → Int) → Int → (Int → Int) → Prop} (h1 : okS k v → rs R k = v → S (-2) R H n K f L T) (h2 : okS k v → ¬ rs R k = v → S (rs R k) (RS R k v) (puH H n R) (puN n) K f L T) (h3 : ¬ okS k v → S (-1) R H n K f L T) : aC (iz_Top_set 0 k v) τ S := by
  have hI9 := hI
  obtain ⟨hS, hW, hC⟩ := hI
  have hs : okS k v ∨ ¬ okS k v := Classical.em _
  rcases hs with hs | hs
  · have hs' := hs
    unfold okS at hs'
    by_cases c : rs R k = v
    · refine ac_same (v := -2) hI9 ?_ (h1 hs c)
      · unfold iz_Top_set
        rw [ip_B]
        refine ip_takes hS.1 (fun r hr => ?_)
        rcases hr with ⟨r1, r2⟩ | ⟨r1, r2⟩
        · rw [ip_ifT (by omega), t_0, ip_B, ip_settingC isRun_1 hC.1.1 hs'.1.1 hs'.1.2, ip_ifF (by omega), ip_P]
          exact ⟨rfl, rfl⟩
        · exact absurd hs r2
    · refine ac_of (v := rs R k) hS (R' := RS R k v) (x' := (x + 1) % 10) (pu_WS hW (RS_wf hW.1 hs)) ?_ (h2 hs c)
      · unfold iz_Top_set
        rw [ip_B]
        refine ip_takes hS.1 (fun r hr => ?_)
        rcases hr with ⟨r1, r2⟩ | ⟨r1, r2⟩
        · rw [ip_ifT (by omega), t_0, ip_B, ip_settingC isRun_1 hC.1.1 hs'.1.1 hs'.1.2, ip_ifT c]
          refine ip_act hW hC (fun τ1 u1 u2 => ?_)
          unfold iz_Run_put
          rw [ip_B, ip_B]
          refine ip_takes (hS.1.frame (fun a k z => u2 a k (by omega))) (fun r' hr' => ?_)
          rcases hr' with ⟨q1, q2⟩ | ⟨q1, q2⟩
          · rw [ip_ifF (by omega), ip_B, ip_St, rr_1 isRun_1, rl_1 isRun_1]
            refine ⟨⟨⟨by omega, by omega⟩, by omega⟩, ?_⟩
            rw [ip_P, ip_P]
            exact ⟨rfl, RS_rc u1, fun a k z => iu_ne (by omega)⟩
          · exact absurd hs q2
        · exact absurd hs r2
  · refine ac_same (v := -1) hI9 ?_ (h3 hs)
    · unfold iz_Top_set
      rw [ip_B]
      refine ip_takes hS.1 (fun r hr => ?_)
      rcases hr with ⟨r1, r2⟩ | ⟨r1, r2⟩
      · exact absurd r2 hs
      · rw [ip_ifF (by omega), ip_P]; exact ⟨rfl, rfl⟩
theorem ca_tie (hI : cI R H n x K f L T τ) (b p : Int) (hp : p = 0 ∨ p = 1) {S : Int → aRun → (Nat → aRun) → Nat → (Int → aRun) → (Int → Int) → Int → (Int → Int) → Prop} (h1 : (0 ≤ b ∧ b < rn R) ∧ rc R b 0 ≠ 4 → rc R b 4 = p → S (-2) R H n K f L T) (h2 : (0 ≤ b ∧ b < rn R) ∧ rc R b 0 ≠ 4 → ¬ rc R b 4 = p → S 1 (RP R b 4 p) (puH H n R) (puN n) K f L T) (h3 : ¬ ((0 ≤ b ∧ b < rn R) ∧ rc R b 0 ≠ 4) → S (-1) R H n K f L T) : aC (iz_Top_tie 0 b p) τ S := by
  have hI9 := hI
  obtain ⟨hS, hW, hC⟩ := hI
  have hw := hW.1
  by_cases hs : (0 ≤ b ∧ b < rn R) ∧ rc R b 0 ≠ 4
  · have hb := hw.2.2.1 b hs.1.1 hs.1.2
    have h01 : rc R b 4 = 0 ∨ rc R b 4 = 1 := hb.2.2.2.2.2.2.2.1
    have ebit : ∀ {τ : iMem} {Q : Int → iMem → Prop}, Q p τ → ip (if p = 0 then iP 0 else iP 1) Q τ := by
      intro τ Q h
      rcases hp with z | z
      · rw [ip_ifT z, ip_P]; rw [z] at h; exact h
      · rw [ip_ifF (by omega), ip_P]; rw [z] at h; exact h
    have ebit2 : ∀ {τ : iMem} {Q : Int → iMem → Prop}, Q (rc R b 4) τ → ip (if ¬ rc R b 4 = 1 then iP 0 else iP 1) Q τ := by
      intro τ Q h
      rcases h01 with z | z
      · rw [ip_ifT (by omega), ip_P]; rw [z] at h; exact h
      · rw [ip_ifF (by omega), ip_P]; rw [z] at h; exact h
    by_cases c : rc R b 4 = p
    · refine ac_same (v := -2) hI9 ?_ (h1 hs c)
      · unfold iz_Top_tie
        rw [t_0, ip_B, ip_hasP hw hC.1.1, if_pos hs, ip_ifT (by omega), ip_B]
        refine ebit ?_
        rw [ip_B, ip_cellC isRun_1 hC.1.1 hw.1.2 hs.1.1 hs.1.2 (by omega) (by omega), ip_ifF (by omega), ip_P]
        exact ⟨rfl, rfl⟩
    · refine ac_of (v := 1) hS (R' := RP R b 4 p) (x' := (x + 1) % 10) (pu_WS hW (RP_wf hw hs.1.1 hs.1.2 (Or.inl ⟨rfl, hs.2, hp⟩))) ?_ (h2 hs c)
      · unfold iz_Top_tie
        rw [t_0, ip_B, ip_hasP hw hC.1.1, if_pos hs, ip_ifT (by omega), ip_B]
        refine ebit ?_
        rw [ip_B, ip_cellC isRun_1 hC.1.1 hw.1.2 hs.1.1 hs.1.2 (by omega) (by omega), ip_ifT c]
        refine ip_act hW hC (fun τ1 u1 u2 => ?_)
        rw [ip_B, ip_putCell isRun_1 (by omega) hs.1.1 (by have := hw.1; omega) (by omega) (by omega), ip_P]
        exact ⟨rfl, RP_c u1 (by omega) (by omega), fun a k z => iu_ne (by omega)⟩
  · refine ac_same (v := -1) hI9 ?_ (h3 hs)
    · unfold iz_Top_tie
      rw [t_0, ip_B, ip_hasP hw hC.1.1, if_neg hs, ip_ifF (by omega), ip_P]
      exact ⟨rfl, rfl⟩
theorem ca_space (hI : cI R H n x K f L T τ) (b p : Int) {S : Int → aRun → (Nat → aRun) → Nat → (Int → aRun) → (Int → Int) → Int → (Int → Int) → Prop} (h1 : (0 ≤ b ∧ b < rn R) ∧ rc R b 0 ≠ 4 → (0 ≤ p ∧ p ≤ 30) → rc R b 6 = p → S (-2) R H n K f L T) (h2 : (0 ≤ b ∧ b < rn R) ∧ rc R b 0 ≠ 4 → (0 ≤ p ∧ p ≤ 30) → ¬ rc R b 6 = p → S (rc R b 6) (RP R b 6 p) (puH H n R) (puN n) K f L T) (h3 : (0 ≤ b ∧ b < rn R) ∧ rc R b 0 ≠ 4 → ¬ (0 ≤ p ∧ p ≤ 30) → S (-1) R H n K f L T) (h4 : ¬ ((0 ≤ b ∧ b < rn R) ∧ rc R b 0 ≠ 4) → S (-1) R H n K f L T) : aC (iz_Top_space 0 b p) τ S := by
  have hI9 := hI
  obtain ⟨hS, hW, hC⟩ := hI
  have hw := hW.1
  have hn := hw.1
  by_cases hs : (0 ≤ b ∧ b < rn R) ∧ rc R b 0 ≠ 4
  · by_cases hp : 0 ≤ p ∧ p ≤ 30
    · by_cases c : rc R b 6 = p
      · refine ac_same (v := -2) hI9 ?_ (h1 hs hp c)
        · unfold iz_Top_space
          rw [t_0, ip_B, ip_hasP hw hC.1.1, if_pos hs, ip_ifF (by omega), ip_ifF (by omega), ip_ifT hp.2, ip_B, ip_cellC isRun_1 hC.1.1 hw.1.2 hs.1.1 hs.1.2 (by omega) (by omega), ip_ifF (by omega), ip_P]
          exact ⟨rfl, rfl⟩
      · refine ac_of (v := rc R b 6) hS (R' := RP R b 6 p) (x' := (x + 1) % 10) (pu_WS hW (RP_wf hw hs.1.1 hs.1.2 (Or.inr ⟨rfl, hp⟩))) ?_ (h2 hs hp c)
        · unfold iz_Top_space
          rw [t_0, ip_B, ip_hasP hw hC.1.1, if_pos hs, ip_ifF (by omega), ip_ifF (by omega), ip_ifT hp.2, ip_B, ip_cellC isRun_1 hC.1.1 hw.1.2 hs.1.1 hs.1.2 (by omega) (by omega), ip_ifT c]
          refine ip_act hW hC (fun τ1 u1 u2 => ?_)
          rw [ip_B, ip_putCell isRun_1 (by omega) hs.1.1 (by omega) (by omega) (by omega), ip_P]
          exact ⟨rfl, RP_c u1 (by omega) (by omega), fun a k z => iu_ne (by omega)⟩
    · refine ac_same (v := -1) hI9 ?_ (h3 hs hp)
      · unfold iz_Top_space
        rw [t_0, ip_B, ip_hasP hw hC.1.1, if_pos hs, ip_ifF (by omega)]
        by_cases d : p < 0
        · rw [ip_ifT d, ip_P]; exact ⟨rfl, rfl⟩
        · rw [ip_ifF d, ip_ifF (by omega), ip_P]; exact ⟨rfl, rfl⟩
  · refine ac_same (v := -1) hI9 ?_ (h4 hs)
    · unfold iz_Top_space
      rw [t_0, ip_B, ip_hasP hw hC.1.1, if_neg hs, ip_ifT rfl, ip_P]
      exact ⟨rfl, rfl⟩
theorem ca_swap (hI : cI R H n x K f L T τ) (b p : Int) {S : Int → aRun → (Nat → aRun) → Nat → (Int → aRun) → (Int → Int) → Int → (Int → Int) → Prop} (h1 : (0 ≤ b ∧ b < rn R) → (0 ≤ p ∧ p < rn R) → b = p → S (-1) R H n K f L T) (h2 : (0 ≤ b ∧ b < rn R) → (0 ≤ p ∧ p < rn R) → ¬ b = p → S 1 (RX R b p) (puH H n R) (puN n) K f L T) (h3 : (0 ≤ b ∧ b < rn R) → ¬ (0 ≤ p ∧ p < rn R) → S (-1) R H n K f L T) (h4 : ¬ (0 ≤ b ∧ b < rn R) → S (-1) R H n K f L T) : aC (iz_Top_swap 0 b p) τ S := by
  have hI9 := hI
  obtain ⟨hS, hW, hC⟩ := hI
  have hw := hW.1
  have hn := hw.1
  by_cases hb : 0 ≤ b ∧ b < rn R
  · by_cases hp : 0 ≤ p ∧ p < rn R
    · by_cases c : b = p
      · refine ac_same (v := -1) hI9 ?_ (h1 hb hp c)
        · unfold iz_Top_swap
          rw [t_0, ip_B, ip_has hC.1.1, if_pos hb, ip_ifF (by omega), ip_B, ip_has hC.1.1, if_pos hp, ip_ifF (by omega), ip_ifF (by omega), ip_P]
          exact ⟨rfl, rfl⟩
      · refine ac_of (v := 1) hS (R' := RX R b p) (x' := (x + 1) % 10) (pu_WS hW (RX_wf2 hw hb.1 hb.2 hp.1 hp.2 c)) ?_ (h2 hb hp c)
        · unfold iz_Top_swap
          rw [t_0, ip_B, ip_has hC.1.1, if_pos hb, ip_ifF (by omega), ip_B, ip_has hC.1.1, if_pos hp, ip_ifF (by omega), ip_ifT c]
          refine ip_act hW hC (fun τ1 u1 u2 => ?_)
          rw [ip_B]
          refine ip_exchange isRun_1 (by omega) hb.1 (by omega) hp.1 (by omega) c (fun τ2 v1 v2 => ?_)
          rw [ip_P]
          exact ⟨rfl, RX_c u1 hb.1 hb.2 hp.1 hp.2 c v1 v2, fun a k z => v2 a k (by omega)⟩
    · refine ac_same (v := -1) hI9 ?_ (h3 hb hp)
      · unfold iz_Top_swap
        rw [t_0, ip_B, ip_has hC.1.1, if_pos hb, ip_ifF (by omega), ip_B, ip_has hC.1.1, if_neg hp, ip_ifT rfl, ip_P]
        exact ⟨rfl, rfl⟩
  · refine ac_same (v := -1) hI9 ?_ (h4 hb)
    · unfold iz_Top_swap
      rw [t_0, ip_B, ip_has hC.1.1, if_neg hb, ip_ifT rfl, ip_P]
      exact ⟨rfl, rfl⟩
end
