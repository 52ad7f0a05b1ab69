section
variable {τ : iMem} {R : aRun}
theorem ip_rowsOfEnds {s k h : Int} {Q : Int → iMem → Prop} (hw : WF R) (hx : Cx R 70 53 1 τ) (a1 : 0 ≤ s) (a2 : s < ns R) (k1 : 0 ≤ k) (k5 : k ≤ 5) (hh : 0 ≤ h) (hh2 : h ≤ 2000)
    (hQ : ∀ τ', (∀ x j, ¬ (x = 365 ∨ x = 366) → τ' x j = τ x j) → Q (way R s h k.toNat (20 * bg R (s + 1))) τ') : ip (iz_Walker_rowsOfEnds 360 s k h) Q τ := by
  have h90 := hw.2.2.2
  have hb := bg_step hw s
  have hns := ns_in hw
  have hn16 := hw.1.2
  have hff := isFlow_53
  have hrn : 0 < rn R := by
    have := ns_0 hw
    have := hw.1.1
    omega
  obtain ⟨q0, q1, L5, L6, M5, M6⟩ := wl_365
  unfold iz_Walker_rowsOfEnds
  rw [w_0, fl_16 hff, fl_17 hff, w_3, ip_B, ip_at a1 (by rw [fl_l13 hff]; omega), (hx.2.1.2.2.2.2 s a1 a2).1, ip_B, ip_max, show (if 0 < bg R s then bg R s else 0) = bg R s by omega, ip_B, ip_at a1 (by rw [fl_l14 hff]; omega), (hx.2.1.2.2.2.2 s a1 a2).2.1, ip_B, ip_min, show (if bg R (s + 1) < 90 then bg R (s + 1) else 90) = bg R (s + 1) by omega, ip_ifT (by omega : bg R s ≤ bg R (s + 1)), ip_B, ip_Lr, wl_364]
  refine ⟨⟨by omega, by omega⟩, ?_⟩
  rw [show (0 : Int).toNat = 0 from rfl, q0, ip_B]
  refine ip_fillRow (by omega) M5 (fun τ1 w1 w2 => ?_)
  rw [ip_B, ip_Lr, wl_364]
  refine ⟨⟨by omega, by omega⟩, ?_⟩
  rw [show (0 : Int).toNat = 0 from rfl, q0, ip_A]
  refine ⟨⟨by omega, by omega⟩, ?_⟩
  rw [ip_B, ip_St]
  refine ⟨⟨⟨by omega, by omega⟩, by omega⟩, ?_⟩
  have row : ∀ i : Int, 0 ≤ i → i < 8 → ∃ r : Nat, (r = 365 ∨ r = 366) ∧ (r : Int) = 365 + i % 2 ∧ 1820 ≤ iLen r ∧ iLen r ≤ 5000 ∧ ∀ {α : Type} (f : Nat → iM α) (Q' : α → iMem → Prop) τ', ip (f r) Q' τ' → ip (iB (iLr 364 (ibAnd i 1)) f) Q' τ' := by
    intro i i0 i1
    have hm : i % 2 = 0 ∨ i % 2 = 1 := by omega
    rcases hm with hm | hm
    · refine ⟨365, Or.inl rfl, by omega, L5, M5, fun f Q' τ' h => ?_⟩
      rw [ip_B, ip_Lr, wl_364, ib_par i0 i1, hm]
      refine ⟨⟨by omega, by omega⟩, ?_⟩
      rw [show (0 : Int).toNat = 0 from rfl, q0]; exact h
    · refine ⟨366, Or.inr rfl, by omega, L6, M6, fun f Q' τ' h => ?_⟩
      rw [ip_B, ip_Lr, wl_364, ib_par i0 i1, hm]
      refine ⟨⟨by omega, by omega⟩, ?_⟩
      rw [show (1 : Int).toNat = 1 from rfl, q1]; exact h
  rw [ip_B]
  refine ip_mono (Q := fun _ τ2 => (∀ r : Nat, (r : Int) = 365 + k % 2 → ∀ y, 0 ≤ y → y < 1820 → τ2 r y = way R s h k.toNat y) ∧ (∀ x j, ¬ (x = 365 ∨ x = 366) → τ2 x j = τ x j)) ?_ (fun _ τ2 e2 => ?_)
  · refine ip_W (fun i τ2 => (0 ≤ i ∧ i ≤ k) ∧ (∀ r : Nat, (r : Int) = 365 + i % 2 → ∀ y, 0 ≤ y → y < 1820 → τ2 r y = way R s h i.toNat y) ∧ (∀ x j, ¬ (x = 365 ∨ x = 366) → τ2 x j = τ x j)) (fun i _ => (k - i).toNat) ?_ ⟨⟨Int.le_refl _, by omega⟩, fun r hr y y0 y1 => ?_, fun x j hxj => by rw [iu_ne (Or.inl (by omega)), w2 x j (by omega)]⟩
    · intro i τ2 ⟨b1, b2, b3⟩
      by_cases c : k ≤ i
      · rw [ip_ifT c, ip_P]
        have ei : i = k := by omega
        subst ei
        exact ⟨b2, b3⟩
      · rw [ip_ifF c]
        obtain ⟨r9, r9a, r9b, r9c, r9d, r9e⟩ := row i b1.1 (by omega)
        obtain ⟨r10, r10a, r10b, r10c, r10d, r10e⟩ := row (i + 1) (by omega) (by omega)
        have hne : r9 ≠ r10 := by omega
        refine r9e _ _ _ ?_
        rw [ip_A]
        refine ⟨⟨by omega, by omega⟩, ?_⟩
        refine r10e _ _ _ ?_
        rw [ip_B]
        refine ip_fillRow (by omega) r10d (fun τ3 x1 x2 => ?_)
        rw [ip_A]
        refine ⟨⟨by omega, by omega⟩, ?_⟩
        rw [ip_B, ip_P, ip_B]
        refine ip_mono (Q := fun _ τ4 => (∀ y, 0 ≤ y → y < 1820 → τ4 r10 y = way R s h (i.toNat + 1) y) ∧ (∀ x j, ¬ (x = 365 ∨ x = 366) → τ4 x j = τ x j)) ?_ (fun _ τ4 e4 => ?_)
        · refine ip_W (fun p τ4 => (20 * bg R s ≤ p ∧ p ≤ 20 * (bg R (s + 1) + 1)) ∧ (∀ y, 0 ≤ y → y < 1820 → τ4 r9 y = way R s h i.toNat y) ∧ (∀ y, 0 ≤ y → y < 1820 → τ4 r10 y = wayO R h (bg R s) (bg R (s + 1)) (way R s h i.toNat) p.toNat y) ∧ (∀ x j, ¬ (x = 365 ∨ x = 366) → τ4 x j = τ x j)) (fun p _ => (20 * (bg R (s + 1) + 1) - p).toNat) ?_ ⟨⟨by omega, by omega⟩, fun y y0 y1 => by rw [x2 _ _ hne]; exact b2 r9 r9b y y0 y1, fun y y0 y1 => ?_, fun x j y => by rw [x2 x j (by omega)]; exact b3 x j y⟩
          · intro p τ4 ⟨g1, g2, g3, g4⟩
            have hx4 : Cx R 70 53 1 τ4 := hx.frame (by omega) (fun a k z => g4 a k (by omega))
            rw [ip_A]
            refine ⟨⟨by omega, by omega⟩, ?_⟩
            rw [ip_A]
            refine ⟨⟨by omega, by omega⟩, ?_⟩
            by_cases z : (bg R (s + 1) + 1) * 20 ≤ p
            · rw [ip_ifT z, ip_P]
              refine ⟨fun y y0 y1 => ?_, g4⟩
              have tp := wayO_top (R := R) (h := h) (a := bg R s) (b := bg R (s + 1)) (src := way R s h i.toNat) p.toNat (by omega) (1840 - p.toNat)
              rw [show p.toNat + (1840 - p.toNat) = 1840 by omega] at tp
              rw [g3 y y0 y1, ← tp]
              rfl
            · have gp := g2 p (by omega) (by omega)
              have en : (p + 1).toNat = p.toNat + 1 := by omega
              have ep : ((p.toNat : Nat) : Int) = p := by omega
              have eO := wayO_s (R := R) (h := h) (a := bg R s) (b := bg R (s + 1)) (src := way R s h i.toNat) p.toNat
              rw [ep] at eO
              have tail : ∀ τ5 : iMem, (∀ y, 0 ≤ y → y < 1820 → τ5 r10 y = wayO R h (bg R s) (bg R (s + 1)) (way R s h i.toNat) (p.toNat + 1) y) → (∀ a k, a ≠ r10 → τ5 a k = τ4 a k) → ip (iA (p + 1) fun y2 => iB (iP y2) fun x16 => iP (Sum.inl x16 : Int ⊕ Unit)) (fun r2 τ'' => Sum.elim (fun s' => ((20 * bg R s ≤ s' ∧ s' ≤ 20 * (bg R (s + 1) + 1)) ∧ (∀ y, 0 ≤ y → y < 1820 → τ'' r9 y = way R s h i.toNat y) ∧ (∀ y, 0 ≤ y → y < 1820 → τ'' r10 y = wayO R h (bg R s) (bg R (s + 1)) (way R s h i.toNat) s'.toNat y) ∧ (∀ x j, ¬ (x = 365 ∨ x = 366) → τ'' x j = τ x j)) ∧ (20 * (bg R (s + 1) + 1) - s').toNat < (20 * (bg R (s + 1) + 1) - p).toNat) (fun _ => (∀ y, 0 ≤ y → y < 1820 → τ'' r10 y = way R s h (i.toNat + 1) y) ∧ (∀ x j, ¬ (x = 365 ∨ x = 366) → τ'' x j = τ x j)) r2) τ5 := by
                intro τ5 u1 u2
                rw [ip_A]
                refine ⟨⟨by omega, by omega⟩, ?_⟩
                rw [ip_B, ip_P, ip_P]
                simp only [Sum.elim_inl]
                refine ⟨⟨⟨by omega, by omega⟩, fun y y0 y1 => by rw [u2 _ _ hne]; exact g2 y y0 y1, fun y y0 y1 => ?_, fun x j y => by rw [u2 x j (by omega)]; exact g4 x j y⟩, by omega⟩
                rw [en]; exact u1 y y0 y1
              rw [ip_ifF z, ip_ifF (by omega), ip_B, ip_Ld, gp]
              refine ⟨⟨by omega, by omega⟩, ?_⟩
              rw [ip_B]
              by_cases z2 : way R s h i.toNat p ≤ 0
              · rw [ip_ifT z2, ip_P]
                exact tail τ4 (fun y y0 y1 => by rw [eO, if_pos (Or.inl z2)]; exact g3 y y0 y1) (fun _ _ _ => rfl)
              · rw [ip_ifF z2, ip_B, ip_Ld, gp]
                refine ⟨⟨by omega, by omega⟩, ?_⟩
                rw [ip_B]
                refine ip_stepW (t := wayO R h (bg R s) (bg R (s + 1)) (way R s h i.toNat) p.toNat) hw hx4 hrn (by omega) (by omega) r10c (by omega) (by omega) hb.2.2 hh hh2 g3 (fun τ5 u1 u2 => ?_)
                rw [ip_P]
                refine tail τ5 (fun y y0 y1 => ?_) u2
                rw [u1 y y0 y1, eO, if_neg (show ¬ (way R s h i.toNat p ≤ 0 ∨ p < 20 * bg R s ∨ 20 * (bg R (s + 1) + 1) ≤ p) by omega)]
          · rw [x1 y y0 (by omega), wayO_low _ (by omega)]
        · rw [ip_A]
          refine ⟨⟨by omega, by omega⟩, ?_⟩
          rw [ip_B, ip_P, ip_P]
          simp only [Sum.elim_inl]
          refine ⟨⟨⟨by omega, by omega⟩, fun r hr y y0 y1 => ?_, e4.2⟩, by omega⟩
          rw [show r = r10 by omega, show (i + 1).toNat = i.toNat + 1 by omega]
          exact e4.1 y y0 y1
    · rw [show r = 365 by omega]
      show iu τ1 365 (bg R s * 20) 1 365 y = (if y = 20 * bg R s then 1 else 0)
      by_cases d : y = 20 * bg R s
      · rw [if_pos d, d, show bg R s * 20 = 20 * bg R s by omega, iu_eq]
      · rw [if_neg d, iu_ne (Or.inr (by omega))]
        exact w1 y (by omega) (by omega)
  · obtain ⟨rK, rKa, rKb, rKc, rKd, rKe⟩ := row k (by omega) (by omega)
    refine rKe _ _ _ ?_
    rw [ip_A]
    refine ⟨⟨by omega, by omega⟩, ?_⟩
    rw [ip_B, ip_Ld, e2.1 rK rKb _ (by omega) (by omega), ip_P]
    refine ⟨⟨by omega, by omega⟩, ?_⟩
    rw [show bg R (s + 1) * 20 = 20 * bg R (s + 1) by omega]
    exact hQ τ2 e2.2
noncomputable def wayV (R : aRun) (s h : Int) : Int := if (0 ≤ s ∧ s < ns R) ∧ 0 ≤ h ∧ h ≤ 2000 then way R s h (rs R 0).toNat (20 * bg R (s + 1)) else -1
theorem gv_ways (hI : InvX R τ) (s h : Int) : gv R (iz_Top_ways 0 s h) (wayV R s h) τ := by
  have hS := hI.1.2.1.1
  unfold iz_Top_ways
  refine gv_asks hI (fun a1 a2 a3 a4 τ1 hX h9 hx => ?_) (fun z => if_neg z)
  have ev : wayV R s h = way R s h (rs R 0).toNat (20 * bg R (s + 1)) := if_pos ⟨⟨a1, a2⟩, a3, a4⟩
  unfold gv
  rw [t_0, t_8, ip_B, ip_settingC isRun_1 hx.1 (by omega) (by omega), ip_B]
  refine ip_rowsOfEnds hI.1 hx a1 a2 (by omega) (by omega) a3 a4 (fun τ2 hf => ?_)
  rw [ip_P, ev]
  exact ⟨rfl, hX.b (hX.2.2.1.frame (fun a k _ => hf a k (by omega))) (fun a k _ => hf a k (by omega)), fun a j z => hf a j (by unfold zw at z; omega)⟩
end
