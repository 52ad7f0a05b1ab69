section
variable {τ : iMem} {R : aRun}
theorem ip_goesBy {s p c v h : Int} {t : Int → Int} {Q : Unit → iMem → Prop} (hw : WF R) (hx : Mx R τ) (a1 : 0 ≤ s) (a2 : s < ns R) (p0 : bg R s ≤ p) (p1 : p ≤ bg R (s + 1)) (hen : en R p) (c0 : 0 ≤ c) (c1 : c < 20) (hh : 0 ≤ h) (hh2 : h ≤ 2000) (hc : τ 401 (20 * p + c) = v) (ht : ∀ y, 0 ≤ y → y < 1840 → τ 402 y = t y)
    (hQ : ∀ τ', (∀ y, 0 ≤ y → y < 1840 → τ' 402 y = wayN R h p c v t (bg R (s + 1) + 1 - p).toNat y) → (∀ a k, a ≠ 402 → τ' a k = τ a k) → Q () τ') : ip (iz_Model_goesBy 367 s p c h) Q τ := by
  have h90 := hw.2.2.2
  have hb := bg_step hw s
  unfold iz_Model_goesBy
  rw [ip_B]
  refine ip_mono (Q := fun _ τ' => (∀ y, 0 ≤ y → y < 1840 → τ' 402 y = wayN R h p c v t (bg R (s + 1) + 1 - p).toNat y) ∧ (∀ a k, a ≠ 402 → τ' a k = τ a k)) ?_ (fun _ τ' e => by rw [ip_P]; exact hQ τ' e.1 e.2)
  refine ip_W (fun j τ' => (p ≤ j ∧ j ≤ bg R (s + 1) + 1) ∧ (∀ y, 0 ≤ y → y < 1840 → τ' 402 y = wayN R h p c v t (j - p).toNat y) ∧ (∀ a k, a ≠ 402 → τ' a k = τ a k)) (fun j _ => (bg R (s + 1) + 1 - j).toNat) ?_ ⟨⟨Int.le_refl _, by omega⟩, fun y y0 y1 => by rw [show (p - p).toNat = 0 by omega]; exact ht y y0 y1, fun _ _ _ => rfl⟩
  intro j τ' ⟨b1, b2, b3⟩
  have hx' : Mx R τ' := hx.frame (fun a k z => b3 a k (by omega))
  have hc' : τ' 401 (20 * p + c) = v := (b3 _ _ (by omega)).trans hc
  rw [ip_B, ip_endOf hx'.2 hw a1 a2]
  by_cases z : bg R (s + 1) < j
  · rw [ip_ifT z, ip_P]
    exact ⟨fun y y0 y1 => by rw [b2 y y0 y1, show j = bg R (s + 1) + 1 by omega], b3⟩
  · have hlo := lo_in hw (p := p) (e := j) (c := c) (h := h) (by omega) (by omega) c0 c1 hh2
    have en : (j + 1 - p).toNat = (j - p).toNat + 1 := by omega
    have ep : p + (((j - p).toNat : Nat) : Int) = j := by omega
    have eW : wayN R h p c v t ((j - p).toNat + 1) = wayE R h p c v (wayN R h p c v t (j - p).toNat) j := by
      show wayE R h p c v (wayN R h p c v t (j - p).toNat) (p + (((j - p).toNat : Nat) : Int)) = _
      rw [ep]
    have tail : ∀ τ3 : iMem, (∀ y, 0 ≤ y → y < 1840 → τ3 402 y = wayE R h p c v (wayN R h p c v t (j - p).toNat) j y) → (∀ a k, a ≠ 402 → τ3 a k = τ' a k) → ip (iA (j + 1) fun y1 => iB (iP y1) fun x11 => iP (Sum.inl x11 : Int ⊕ Unit)) (fun r2 τ'' => Sum.elim (fun s' => ((p ≤ s' ∧ s' ≤ bg R (s + 1) + 1) ∧ (∀ y, 0 ≤ y → y < 1840 → τ'' 402 y = wayN R h p c v t (s' - p).toNat y) ∧ (∀ a k, a ≠ 402 → τ'' a k = τ a k)) ∧ (bg R (s + 1) + 1 - s').toNat < (bg R (s + 1) + 1 - j).toNat) (fun _ => (∀ y, 0 ≤ y → y < 1840 → τ'' 402 y = wayN R h p c v t (bg R (s + 1) + 1 - p).toNat y) ∧ (∀ a k, a ≠ 402 → τ'' a k = τ a k)) r2) τ3 := by
      intro τ3 q1 q2
      rw [ip_A]
      refine ⟨⟨by omega, by omega⟩, ?_⟩
      rw [ip_B, ip_P, ip_P]
      simp only [Sum.elim_inl]
      refine ⟨⟨⟨by omega, by omega⟩, fun y y0 y1 => ?_, fun a k y => by rw [q2 a k y]; exact b3 a k y⟩, by omega⟩
      rw [en, eW]; exact q1 y y0 y1
    have same : (enb R j = 0 ∨ lo R p j c h = -1) → ∀ y, 0 ≤ y → y < 1840 → τ' 402 y = wayE R h p c v (wayN R h p c v t (j - p).toNat) j y := fun hs y y0 y1 => by
      unfold wayE
      rw [if_pos hs]; exact b2 y y0 y1
    have body : enb R j ≠ 0 → ip (iB (iz_Model_canEnd 367 p j c h) fun x7 => if ¬ x7 = 0 then iB (iz_Model_ownOf 367 p j) fun x8 => iB (iz_Model_standsOf 367 p j c h) fun x9 => iA (20 * j) fun y1 => iA (y1 + c) fun y2 => iA (y2 + x8) fun y3 => iA (y3 - x9) fun y4 => iB (iLd (qm_rf 367 43) y4) fun x10 => iA (20 * p) fun y5 => iA (y5 + c) fun y6 => iB (iLd (qm_rf 367 42) y6) fun x11 => iA (20 * j) fun y7 => iA (y7 + c) fun y8 => iA (y8 + x8) fun y9 => iA (y9 - x9) fun y10 => iB (iSt (qm_rf 367 43) y10 (ibAdd x10 x11)) fun _ => iP () else iP ()) (fun (_ : Unit) τ3 => (∀ y, 0 ≤ y → y < 1840 → τ3 402 y = wayE R h p c v (wayN R h p c v t (j - p).toNat) j y) ∧ (∀ a k, a ≠ 402 → τ3 a k = τ' a k)) τ' := by
      intro en0
      rw [m_42, m_43, ip_B, ip_canEnd hw hx'.1 hx'.2 (by omega) b1.1 (by omega) c0 (by omega) hh hh2]
      by_cases z3 : lo R p j c h = -1
      · rw [if_pos z3, ip_ifF (by omega), ip_P]
        exact ⟨same (Or.inr z3), fun _ _ _ => rfl⟩
      · have hst := st_lo hw (p := p) (e := j) (c := c) (h := h) (by omega) (by omega) c0 hh2 z3
        have ho := ol_in hw (p := p) (e := j) (by omega) (by omega)
        have tj := b2 (20 * j + lo R p j c h) (by omega) (by omega)
        have ei : 20 * j + c + ol R p j - st R p j c h = 20 * j + lo R p j c h := by omega
        rw [if_neg z3, ip_ifT (by omega), ip_B, ip_ownOf hw hx'.2 (by omega) b1.1 (by omega), ip_B, ip_standsOf hw hx'.1 hx'.2 (by omega) b1.1 (by omega) c0 (by omega) hh hh2, ip_A]
        refine ⟨⟨by omega, by omega⟩, ?_⟩
        rw [ip_A]
        refine ⟨⟨by omega, by omega⟩, ?_⟩
        rw [ip_A]
        refine ⟨⟨by omega, by omega⟩, ?_⟩
        rw [ip_A]
        refine ⟨⟨by omega, by omega⟩, ?_⟩
        rw [ei, ip_B, ip_Ld, l_402, tj]
        refine ⟨⟨by omega, by omega⟩, ?_⟩
        rw [ip_A]
        refine ⟨⟨by omega, by omega⟩, ?_⟩
        rw [ip_A]
        refine ⟨⟨by omega, by omega⟩, ?_⟩
        rw [ip_B, ip_Ld, l_401, hc']
        refine ⟨⟨by omega, by omega⟩, ?_⟩
        rw [ip_A]
        refine ⟨⟨by omega, by omega⟩, ?_⟩
        rw [ip_A]
        refine ⟨⟨by omega, by omega⟩, ?_⟩
        rw [ip_A]
        refine ⟨⟨by omega, by omega⟩, ?_⟩
        rw [ip_A]
        refine ⟨⟨by omega, by omega⟩, ?_⟩
        rw [ei, ip_B, ip_St, l_402]
        refine ⟨⟨⟨by omega, by omega⟩, by omega⟩, ?_⟩
        rw [ip_P]
        refine ⟨fun y y0 y1 => ?_, fun a k y => iu_ne (Or.inl y)⟩
        unfold wayE
        rw [if_neg (show ¬ (enb R j = 0 ∨ lo R p j c h = -1) by omega)]
        unfold up
        by_cases d : y = 20 * j + lo R p j c h
        · rw [if_pos d, d, iu_eq]
        · rw [if_neg d, iu_ne (Or.inr d)]; exact b2 y y0 y1
    rw [ip_ifF z, ip_B, ip_B]
    by_cases z1 : j ≤ p
    · have hj : j = p := by omega
      rw [ip_ifT z1, ip_P]
      simp only [Sum.elim_inl]
      refine ip_mono (body (by rw [hj, enb_1 hen]; omega)) (fun _ τ3 e => tail τ3 e.1 e.2)
    · rw [ip_ifF z1, ip_B]
      refine ip_isEnd hx'.2 hw a1 a2 (by omega) (by omega) (fun r hr => ?_)
      have er := enb_is hr
      by_cases z2 : r = 0
      · rw [ip_ifT z2, ip_P]
        simp only [Sum.elim_inr, ip_P]
        exact tail τ' (same (Or.inl (by omega))) (fun _ _ _ => rfl)
      · rw [ip_ifF z2, ip_P]
        simp only [Sum.elim_inl]
        refine ip_mono (body (by omega)) (fun _ τ3 e => tail τ3 e.1 e.2)
theorem ip_fillW {r : Nat} {g : Int → iM Int} {v : Int → Int} {Q : Unit → iMem → Prop} (hr : r < 405) (hb : iLen r = 1840)
    (hg : ∀ (j : Int) (τ' : iMem) (Q' : Int → iMem → Prop), 0 ≤ j → j < 1840 → (∀ x k, x ≠ r → τ' x k = τ x k) → Q' (v j) τ' → ip (g j) Q' τ')
    (hQ : ∀ τ', (∀ e, 0 ≤ e → e < 1840 → τ' r e = v e) → (∀ x k, x ≠ r → τ' x k = τ x k) → Q () τ') :
    ip (iW (S := Int) (α := Unit) (fun j => if 1840 ≤ j then iP (Sum.inr ()) else iB (g j) fun y => iB (iSt r j y) fun _ => iA (j + 1) fun y1 => iB (iP y1) fun x => iP (Sum.inl x)) 0) Q τ := by
  refine ip_W (fun j τ' => (0 ≤ j ∧ j ≤ 1840) ∧ (∀ e, 0 ≤ e → e < j → τ' r e = v e) ∧ (∀ x k, x ≠ r → τ' x k = τ x k)) (fun j _ => (1840 - j).toNat) ?_ ⟨⟨Int.le_refl _, by omega⟩, fun e e0 e1 => by omega, fun _ _ _ => rfl⟩
  intro j τ' ⟨b1, b2, b3⟩
  by_cases z : 1840 ≤ j
  · rw [ip_ifT z, ip_P]
    exact hQ τ' (fun e e0 e1 => b2 e e0 (by omega)) b3
  · rw [ip_ifF z, ip_B]
    refine hg j τ' _ b1.1 (by omega) b3 ?_
    rw [ip_B, ip_St]
    refine ⟨⟨⟨by omega, by omega⟩, hr⟩, ?_⟩
    rw [ip_A]
    refine ⟨⟨by omega, by omega⟩, ?_⟩
    rw [ip_B, ip_P, ip_P]
    simp only [Sum.elim_inl]
    refine ⟨⟨⟨by omega, by omega⟩, fun e e0 e1 => ?_, fun x k h => by rw [iu_ne (Or.inl h)]; exact b3 x k h⟩, by omega⟩
    by_cases d : e = j
    · subst d; exact iu_eq
    · rw [iu_ne (Or.inr d)]; exact b2 e e0 (by omega)
theorem gv_Mways (hI : InvX R τ) (s h : Int) : gv R (iz_Model_ways 367 s h) (wayV R s h) τ := by
  have hw := hI.1
  have h90 := hw.2.2.2
  have hb := bg_step hw s
  have hns := ns_in hw
  have hn16 := hw.1.2
  have hS := hw.2.1.1
  unfold iz_Model_ways
  refine gv_Masks hI (fun a1 a2 τ1 hX hx => ?_) (fun z => if_neg (fun q => z q.1))
  unfold gv
  rw [ip_B, ip_in]
  by_cases ch : h < 0 ∨ 2000 < h
  · have ev : wayV R s h = -1 := if_neg (by omega)
    rw [if_pos ch, ip_ifF (by omega), ip_P, ev]
    exact ⟨rfl, hX, fun _ _ _ => rfl⟩
  · have ev : wayV R s h = way R s h (rs R 0).toNat (20 * bg R (s + 1)) := if_pos ⟨⟨a1, a2⟩, by omega⟩
    have hrow := way_ok hw a1 a2 (h := h) (by omega)
    have e380 := hx.2.2.2.2.2.2.1 s a1 (by omega)
    rw [if_neg ch, ip_ifT (by omega), m_42, m_43, ip_B]
    refine ip_fillW (τ := τ1) (r := 401) (g := fun _ => iP 0) (v := fun _ => 0) (by omega) l_401 (fun j τ' Q' _ _ _ hq => by rw [ip_P]; exact hq) (fun τ2 w1 w2 => ?_)
    rw [ip_B, ip_Ld, m_14, l_380, w2 _ _ (by omega), e380]
    refine ⟨⟨by omega, by omega⟩, ?_⟩
    rw [ip_A]
    refine ⟨⟨by omega, by omega⟩, ?_⟩
    rw [ip_B, ip_St, l_401]
    refine ⟨⟨⟨by omega, by omega⟩, by omega⟩, ?_⟩
    rw [ip_B]
    refine ip_mono (Q := fun _ τ3 => (∀ y, 0 ≤ y → y < 1840 → τ3 401 y = way R s h (rs R 0).toNat y) ∧ (∀ x j, ¬ (x = 401 ∨ x = 402) → τ3 x j = τ1 x j)) ?_ (fun _ τ3 e3 => ?_)
    · refine ip_W (fun i τ3 => (0 ≤ i ∧ i ≤ rs R 0) ∧ (∀ y, 0 ≤ y → y < 1840 → τ3 401 y = way R s h i.toNat y) ∧ (∀ x j, ¬ (x = 401 ∨ x = 402) → τ3 x j = τ1 x j)) (fun i _ => (rs R 0 - i).toNat) ?_ ⟨⟨Int.le_refl _, by omega⟩, fun y y0 y1 => ?_, fun x j y => by rw [iu_ne (Or.inl (by omega)), w2 x j (by omega)]⟩
      · intro i τ3 ⟨b1, b2, b3⟩
        have hx3 : Mx R τ3 := hx.frame (fun a k z => b3 a k (by omega))
        rw [ip_B, ip_Ld, m_0, l_368, rm_s hx3.1 (by omega) (by omega)]
        refine ⟨⟨by omega, by omega⟩, ?_⟩
        by_cases c : rs R 0 ≤ i
        · rw [ip_ifT c, ip_P]
          have ei : i = rs R 0 := by omega
          exact ⟨fun y y0 y1 => by rw [b2 y y0 y1, ei], b3⟩
        · rw [ip_ifF c, ip_B]
          refine ip_fillW (τ := τ3) (r := 402) (g := fun _ => iP 0) (v := fun _ => 0) (by omega) l_402 (fun j τ' Q' _ _ _ hq => by rw [ip_P]; exact hq) (fun τ4 x1 x2 => ?_)
          rw [ip_B]
          refine ip_mono (Q := fun _ τ5 => (∀ y, 0 ≤ y → y < 1840 → τ5 402 y = way R s h (i.toNat + 1) y) ∧ (∀ x j, ¬ (x = 402) → τ5 x j = τ3 x j)) ?_ (fun _ τ5 e5 => ?_)
          · refine ip_W (fun p τ5 => (0 ≤ p ∧ p ≤ 1840) ∧ (∀ y, 0 ≤ y → y < 1840 → τ5 402 y = wayO R h (bg R s) (bg R (s + 1)) (way R s h i.toNat) p.toNat y) ∧ (∀ x j, ¬ (x = 402) → τ5 x j = τ3 x j)) (fun p _ => (1840 - p).toNat) ?_ ⟨⟨Int.le_refl _, by omega⟩, fun y y0 y1 => by rw [x1 y y0 y1, wayO_low _ (by omega)], fun x j y => x2 x j y⟩
            intro p τ5 ⟨g1, g3, g4⟩
            have hx5 : Mx R τ5 := hx3.frame (fun a k z => g4 a k (by omega))
            by_cases z : 1840 ≤ p
            · rw [ip_ifT z, ip_P]
              refine ⟨fun y y0 y1 => ?_, g4⟩
              rw [g3 y y0 y1, show p.toNat = 1840 by omega]
              rfl
            · have gp : τ5 401 p = way R s h i.toNat p := (g4 _ _ (by omega)).trans (b2 p g1.1 (by omega))
              have en : (p + 1).toNat = p.toNat + 1 := by omega
              have ep : ((p.toNat : Nat) : Int) = p := by omega
              have eO := wayO_s (R := R) (h := h) (a := bg R s) (b := bg R (s + 1)) (src := way R s h i.toNat) p.toNat
              rw [ep] at eO
              have tail : ∀ τ6 : iMem, (∀ y, 0 ≤ y → y < 1840 → τ6 402 y = wayO R h (bg R s) (bg R (s + 1)) (way R s h i.toNat) (p.toNat + 1) y) → (∀ a k, a ≠ 402 → τ6 a k = τ5 a k) → ip (iA (p + 1) fun y2 => iB (iP y2) fun x16 => iP (Sum.inl x16 : Int ⊕ Unit)) (fun r2 τ'' => Sum.elim (fun s' => ((0 ≤ s' ∧ s' ≤ 1840) ∧ (∀ y, 0 ≤ y → y < 1840 → τ'' 402 y = wayO R h (bg R s) (bg R (s + 1)) (way R s h i.toNat) s'.toNat y) ∧ (∀ x j, ¬ (x = 402) → τ'' x j = τ3 x j)) ∧ (1840 - s').toNat < (1840 - p).toNat) (fun _ => (∀ y, 0 ≤ y → y < 1840 → τ'' 402 y = way R s h (i.toNat + 1) y) ∧ (∀ x j, ¬ (x = 402) → τ'' x j = τ3 x j)) r2) τ6 := by
                intro τ6 u1 u2
                rw [ip_A]
                refine ⟨⟨by omega, by omega⟩, ?_⟩
                rw [ip_B, ip_P, ip_P]
                simp only [Sum.elim_inl]
                refine ⟨⟨⟨by omega, by omega⟩, fun y y0 y1 => ?_, fun x j y => by rw [u2 x j y]; exact g4 x j y⟩, by omega⟩
                rw [en]; exact u1 y y0 y1
              rw [ip_ifF z, ip_B, ip_Ld, l_401, gp]
              refine ⟨⟨by omega, by omega⟩, ?_⟩
              rw [ip_B]
              by_cases z2 : way R s h i.toNat p ≤ 0
              · rw [ip_ifT z2, ip_P]
                exact tail τ5 (fun y y0 y1 => by rw [eO, if_pos (Or.inl z2)]; exact g3 y y0 y1) (fun _ _ _ => rfl)
              · have hp := hrow i.toNat p (by omega)
                rw [ip_ifF z2, ip_B, ip_Dv]
                refine ⟨⟨g1.1, by omega⟩, ?_⟩
                rw [ip_B, ip_Rm]
                refine ⟨⟨g1.1, by omega⟩, ?_⟩
                rw [ip_B]
                refine ip_goesBy (v := way R s h i.toNat p) (t := wayO R h (bg R s) (bg R (s + 1)) (way R s h i.toNat) p.toNat) hw hx5 a1 a2 (by omega) (by omega) hp.2 (by omega) (by omega) (by omega) (by omega) (by rw [show 20 * (p / 20) + p % 20 = p by omega]; exact gp) g3 (fun τ6 u1 u2 => ?_)
                rw [ip_P]
                refine tail τ6 (fun y y0 y1 => ?_) u2
                rw [u1 y y0 y1, eO, if_neg (show ¬ (way R s h i.toNat p ≤ 0 ∨ p < 20 * bg R s ∨ 20 * (bg R (s + 1) + 1) ≤ p) by omega)]
          · rw [ip_B]
            refine ip_fillW (τ := τ5) (r := 401) (g := fun j => iLd 402 j) (v := fun e => way R s h (i.toNat + 1) e) (by omega) l_401 (fun j τ' Q' j0 j1 hq0 hq => ?_) (fun τ6 y1 y2 => ?_)
            · try dsimp only at hq ⊢
              rw [ip_Ld, l_402, hq0 402 j (by omega), e5.1 j j0 j1]
              exact ⟨⟨by omega, by omega⟩, hq⟩
            · rw [ip_A]
              refine ⟨⟨by omega, by omega⟩, ?_⟩
              rw [ip_B, ip_P, ip_P]
              simp only [Sum.elim_inl]
              refine ⟨⟨⟨by omega, by omega⟩, fun y y0 z1 => ?_, fun x j y => by rw [y2 x j (by omega), e5.2 x j (by omega)]; exact b3 x j y⟩, by omega⟩
              rw [show (i + 1).toNat = i.toNat + 1 by omega]
              exact y1 y y0 z1
      · show _ = (if y = 20 * bg R s then 1 else 0)
        by_cases d : y = 20 * bg R s
        · rw [if_pos d, d, iu_eq]
        · rw [if_neg d, iu_ne (Or.inr d)]
          exact w1 y y0 y1
    · have hI3 : InvX R τ3 := hX.m (fun a k z => e3.2 a k (by unfold mz at z; omega))
      have fin : ∀ a j, ¬ zw a j → τ3 a j = τ1 a j := fun a j z => e3.2 a j (by unfold zw mz at z; omega)
      have hx3 : Mx R τ3 := hx.frame (fun a k z => e3.2 a k (by omega))
      rw [ip_B, ip_endOf hx3.2 hw a1 a2, ip_A]
      refine ⟨⟨by omega, by omega⟩, ?_⟩
      rw [ip_B, ip_Ld, l_401, e3.1 _ (by omega) (by omega), ip_P, ev]
      exact ⟨⟨by omega, by omega⟩, rfl, hI3, fin⟩
theorem two_ways (hI : InvX R τ) (s h : Int) : two R (iz_Top_ways 0 s h) (iz_Model_ways 367 s h) τ := gv_two (gv_ways hI s h) (fun _ q _ => gv_Mways q s h)
end
