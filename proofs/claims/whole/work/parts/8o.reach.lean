section
variable {τ : iMem} {R : aRun}
noncomputable def reaW (R : aRun) (s k h : Int) : Int := if last (fun e => rch R s h k.toNat e ≠ -1) (bg R s) (bg R (s + 1)) = -1 then -2 else last (fun e => rch R s h k.toNat e ≠ -1) (bg R s) (bg R (s + 1))
noncomputable def reaV (R : aRun) (s k h : Int) : Int := if ((0 ≤ s ∧ s < ns R) ∧ 0 ≤ h ∧ h ≤ 2000) ∧ 1 ≤ k ∧ k ≤ 5 then reaW R s k h else -1
theorem rea_is {s k h i : Int} (hw : WF R) (i0 : bg R s ≤ i) (i1 : i ≤ bg R (s + 1)) (h1 : rch R s h k.toNat i ≠ -1) (h2 : ∀ e, i < e → e ≤ bg R (s + 1) → rch R s h k.toNat e = -1) : reaW R s k h = i := by
  have hb := bg_step hw s
  have e : last (fun e => rch R s h k.toNat e ≠ -1) (bg R s) (bg R (s + 1)) = i := last_is i0 i1 h1 (fun e a b => by rw [h2 e a b]; exact fun q => q rfl)
  unfold reaW
  rw [e, if_neg (by omega)]
theorem rea_no {s k h : Int} (h2 : ∀ e, bg R s ≤ e → e ≤ bg R (s + 1) → rch R s h k.toNat e = -1) : reaW R s k h = -2 := by
  have e : last (fun e => rch R s h k.toNat e ≠ -1) (bg R s) (bg R (s + 1)) = -1 := last_no (fun e a b => by rw [h2 e a b]; exact fun q => q rfl)
  unfold reaW
  rw [e, if_pos rfl]
theorem frN_skip {h a e : Int} {src : Int → Int} {n : Nat} (hc : src (a + n) = -1 ∨ e < a + n ∨ enb R e = 0) : frN R h a src e (n + 1) = frN R h a src e n := by
  rw [frN_s, if_pos hc]
theorem ip_farthest {s k h : Int} {Q : Int → iMem → Prop} (hw : WF R) (hx : Cx R 70 53 1 τ) (a1 : 0 ≤ s) (a2 : s < ns R) (k1 : 1 ≤ k) (k5 : k ≤ 5) (hh : 0 ≤ h) (hh2 : h ≤ 2000)
    (hQ : ∀ τ', (∀ x j, ¬ (x = 362 ∨ x = 363) → τ' x j = τ x j) → Q (reaW R s k h) τ') : ip (iz_Walker_farthest 360 s k h) Q τ := by
  have h90 := hw.2.2.2
  have hb := bg_step hw s
  have hns := ns_in hw
  have hn16 := hw.1.2
  have hff := isFlow_53
  have hrn : 0 < rn R := by
    have := ns_0 hw
    have := hw.1.1
    omega
  have hrow := rch_ok hw a1 a2 (h := h) hh2
  have q0 := w_361 (i := 0) (by omega)
  have q1 := w_361 (i := 1) (by omega)
  have L2 : iLen 362 ≤ 5000 := by decide +kernel
  have L3 : iLen 363 ≤ 5000 := by decide +kernel
  have L2' : 91 ≤ iLen 362 := q0.2
  have L3' : 91 ≤ iLen 363 := q1.2
  unfold iz_Walker_farthest
  rw [w_0, fl_16 hff, fl_17 hff, w_2, ip_B, ip_at a1 (by rw [fl_l13 hff]; omega), (hx.2.1.2.2.2.2 s a1 a2).1, ip_B, ip_max, show (if 0 < bg R s then bg R s else 0) = bg R s by omega, ip_B, ip_at a1 (by rw [fl_l14 hff]; omega), (hx.2.1.2.2.2.2 s a1 a2).2.1, ip_B, ip_min, show (if bg R (s + 1) < 90 then bg R (s + 1) else 90) = bg R (s + 1) by omega, ip_ifT (by omega : bg R s ≤ bg R (s + 1)), ip_B, ip_Lr, wl_361]
  refine ⟨⟨by omega, by omega⟩, ?_⟩
  rw [show (0 : Int).toNat = 0 from rfl, q0.1, ip_B]
  refine ip_fillRow (by omega) L2 (fun τ1 w1 w2 => ?_)
  rw [ip_B, ip_Lr, wl_361]
  refine ⟨⟨by omega, by omega⟩, ?_⟩
  rw [show (0 : Int).toNat = 0 from rfl, q0.1, ip_B, ip_St]
  refine ⟨⟨⟨by omega, by omega⟩, by omega⟩, ?_⟩
  -- which row
  have row : ∀ i : Int, 0 ≤ i → i < 8 → ∃ r : Nat, (r = 362 ∨ r = 363) ∧ (r : Int) = 362 + i % 2 ∧ 91 ≤ iLen r ∧ iLen r ≤ 5000 ∧ ∀ {α : Type} (f : Nat → iM α) (Q' : α → iMem → Prop) τ', ip (f r) Q' τ' → ip (iB (iLr 361 (ibAnd i 1)) f) Q' τ' := by
    intro i i0 i1
    have hm : i % 2 = 0 ∨ i % 2 = 1 := by omega
    rcases hm with hm | hm
    · refine ⟨362, Or.inl rfl, by omega, L2', L2, fun f Q' τ' h => ?_⟩
      rw [ip_B, ip_Lr, wl_361, ib_par i0 i1, hm]
      refine ⟨⟨by omega, by omega⟩, ?_⟩
      rw [show (0 : Int).toNat = 0 from rfl, q0.1]; exact h
    · refine ⟨363, Or.inr rfl, by omega, L3', L3, fun f Q' τ' h => ?_⟩
      rw [ip_B, ip_Lr, wl_361, ib_par i0 i1, hm]
      refine ⟨⟨by omega, by omega⟩, ?_⟩
      rw [show (1 : Int).toNat = 1 from rfl, q1.1]; exact h
  rw [ip_B]
  refine ip_mono (Q := fun _ τ2 => (∀ r : Nat, (r : Int) = 362 + k % 2 → ∀ e, bg R s ≤ e → e ≤ bg R (s + 1) → τ2 r e = rch R s h k.toNat e) ∧ (∀ x j, ¬ (x = 362 ∨ x = 363) → τ2 x j = τ x j)) ?_ (fun _ τ2 e2 => ?_)
  · refine ip_W (fun i τ2 => (0 ≤ i ∧ i ≤ k) ∧ (∀ r : Nat, (r : Int) = 362 + i % 2 → ∀ e, bg R s ≤ e → e ≤ bg R (s + 1) → τ2 r e = rch R s h i.toNat e) ∧ (∀ x j, ¬ (x = 362 ∨ x = 363) → τ2 x j = τ x j)) (fun i _ => (k - i).toNat) ?_ ⟨⟨Int.le_refl _, by omega⟩, fun r hr e e0 e1 => ?_, fun x j hxj => by rw [iu_ne (Or.inl (by omega)), w2 x j (by omega)]⟩
    · intro i τ2 ⟨b1, b2, b3⟩
      by_cases c : k ≤ i
      · rw [ip_ifT c, ip_P]
        have ei : i = k := by omega
        subst ei
        exact ⟨b2, b3⟩
      · rw [ip_ifF c]
        obtain ⟨r9, r9a, r9b, r9c, r9d, r9e⟩ := row i b1.1 (by omega)
        obtain ⟨r10, r10a, r10b, r10c, r10d, r10e⟩ := row (i + 1) (by omega) (by omega)
        have hne : r9 ≠ r10 := by omega
        refine r9e _ _ _ ?_
        rw [ip_A]
        refine ⟨⟨by omega, by omega⟩, ?_⟩
        refine r10e _ _ _ ?_
        rw [ip_B]
        refine ip_fillRow (by omega) r10d (fun τ3 x1 x2 => ?_)
        rw [ip_B]
        refine ip_mono (Q := fun _ τ4 => (∀ e, bg R s ≤ e → e ≤ bg R (s + 1) → τ4 r10 e = rch R s h (i.toNat + 1) e) ∧ (∀ x j, ¬ (x = 362 ∨ x = 363) → τ4 x j = τ x j)) ?_ (fun _ τ4 e4 => ?_)
        · refine ip_W (fun p τ4 => (bg R s ≤ p ∧ p ≤ bg R (s + 1) + 1) ∧ (∀ e, bg R s ≤ e → e ≤ bg R (s + 1) → τ4 r9 e = rch R s h i.toNat e) ∧ (∀ e, bg R s ≤ e → e ≤ bg R (s + 1) → τ4 r10 e = frN R h (bg R s) (rch R s h i.toNat) e (p - bg R s).toNat) ∧ (∀ x j, ¬ (x = 362 ∨ x = 363) → τ4 x j = τ x j)) (fun p _ => (bg R (s + 1) + 1 - p).toNat) ?_ ⟨⟨Int.le_refl _, by omega⟩, fun e e0 e1 => by rw [x2 _ _ hne]; exact b2 r9 r9b e e0 e1, fun e e0 e1 => ?_, fun x j y => by rw [x2 x j (by omega)]; exact b3 x j y⟩
          · intro p τ4 ⟨g1, g2, g3, g4⟩
            have hx4 : Cx R 70 53 1 τ4 := hx.frame (by omega) (fun a k z => g4 a k (by omega))
            by_cases z : bg R (s + 1) < p
            · rw [ip_ifT z, ip_P]
              refine ⟨fun e e0 e1 => ?_, g4⟩
              rw [g3 e e0 e1, show p = bg R (s + 1) + 1 by omega]
              rfl
            · have gp := g2 p g1.1 (by omega)
              have hsp := hrow i.toNat p g1.1 (by omega)
              have en : (p + 1 - bg R s).toNat = (p - bg R s).toNat + 1 := by omega
              have ep : bg R s + (((p - bg R s).toNat : Nat) : Int) = p := by omega
              have tail : ∀ τ5 : iMem, (∀ e, bg R s ≤ e → e ≤ bg R (s + 1) → τ5 r10 e = frN R h (bg R s) (rch R s h i.toNat) e ((p - bg R s).toNat + 1)) → (∀ a k, a ≠ r10 → τ5 a k = τ4 a k) → ip (iA (p + 1) fun y2 => iB (iP y2) fun x16 => iP (Sum.inl x16 : Int ⊕ Unit)) (fun r2 τ'' => Sum.elim (fun s' => ((bg R s ≤ s' ∧ s' ≤ bg R (s + 1) + 1) ∧ (∀ e, bg R s ≤ e → e ≤ bg R (s + 1) → τ'' r9 e = rch R s h i.toNat e) ∧ (∀ e, bg R s ≤ e → e ≤ bg R (s + 1) → τ'' r10 e = frN R h (bg R s) (rch R s h i.toNat) e (s' - bg R s).toNat) ∧ (∀ x j, ¬ (x = 362 ∨ x = 363) → τ'' x j = τ x j)) ∧ (bg R (s + 1) + 1 - s').toNat < (bg R (s + 1) + 1 - p).toNat) (fun _ => (∀ e, bg R s ≤ e → e ≤ bg R (s + 1) → τ'' r10 e = rch R s h (i.toNat + 1) e) ∧ (∀ x j, ¬ (x = 362 ∨ x = 363) → τ'' x j = τ x j)) r2) τ5 := by
                intro τ5 u1 u2
                rw [ip_A]
                refine ⟨⟨by omega, by omega⟩, ?_⟩
                rw [ip_B, ip_P, ip_P]
                simp only [Sum.elim_inl]
                refine ⟨⟨⟨by omega, by omega⟩, fun e e0 e1 => by rw [u2 _ _ hne]; exact g2 e e0 e1, fun e e0 e1 => ?_, fun x j y => by rw [u2 x j (by omega)]; exact g4 x j y⟩, by omega⟩
                rw [en]; exact u1 e e0 e1
              rw [ip_ifF z, ip_B, ip_Ld, gp]
              refine ⟨⟨by omega, by omega⟩, ?_⟩
              rw [ip_B]
              by_cases z2 : rch R s h i.toNat p = -1
              · rw [ip_ifT z2, ip_P]
                exact tail τ4 (fun e e0 e1 => by rw [frN_skip (Or.inl (by rw [ep]; exact z2))]; exact g3 e e0 e1) (fun _ _ _ => rfl)
              · rw [ip_ifF z2, ip_B, ip_Ld, gp]
                refine ⟨⟨by omega, by omega⟩, ?_⟩
                rw [ip_B]
                refine ip_stepF (t := fun e => frN R h (bg R s) (rch R s h i.toNat) e (p - bg R s).toNat) hw hx4 hrn (by omega) (by omega) r10c (by omega) (by omega) hb.2.2 (by omega) (by omega) hh hh2 (fun e e0 e1 => g3 e (by omega) e1) (fun τ5 u1 u2 => ?_)
                rw [ip_P]
                refine tail τ5 (fun e e0 e1 => ?_) (fun a k y => u2 a k (by omega))
                by_cases z3 : e < p
                · rw [u2 _ _ (by omega), g3 e e0 e1, frN_skip (Or.inr (Or.inl (by rw [ep]; exact z3)))]
                · rw [u1 e (by omega) e1]
                  by_cases z4 : enb R e = 0
                  · rw [if_pos z4, frN_skip (Or.inr (Or.inr z4))]
                  · rw [if_neg z4, frN_s, ep, if_neg (by omega)]
          · rw [x1 e (by omega) (by omega), show (bg R s - bg R s).toNat = 0 by omega]
            rfl
        · rw [ip_A]
          refine ⟨⟨by omega, by omega⟩, ?_⟩
          rw [ip_B, ip_P, ip_P]
          simp only [Sum.elim_inl]
          refine ⟨⟨⟨by omega, by omega⟩, fun r hr e e0 e1 => ?_, e4.2⟩, by omega⟩
          rw [show r = r10 by omega, show (i + 1).toNat = i.toNat + 1 by omega]
          exact e4.1 e e0 e1
    · rw [show r = 362 by omega]
      show iu τ1 362 (bg R s) 0 362 e = (if e = bg R s then 0 else -1)
      by_cases d : e = bg R s
      · rw [if_pos d, d, iu_eq]
      · rw [if_neg d, iu_ne (Or.inr d)]
        exact w1 e (by omega) (by omega)
  · obtain ⟨rK, rKa, rKb, rKc, rKd, rKe⟩ := row k (by omega) (by omega)
    have hv := e2.1 rK rKb
    rw [ip_B]
    refine ip_mono (Q := fun v τ3 => (v = Sum.inr (reaW R s k h) ∨ (v = Sum.inl () ∧ reaW R s k h = -2)) ∧ τ3 = τ2) ?_ (fun v τ3 e => ?_)
    · refine ip_W (fun i τ3 => (bg R s - 1 ≤ i ∧ i ≤ bg R (s + 1)) ∧ (∀ e, i < e → e ≤ bg R (s + 1) → rch R s h k.toNat e = -1) ∧ τ3 = τ2) (fun i _ => (i + 1 - bg R s).toNat) ?_ ⟨⟨by omega, Int.le_refl _⟩, fun e e0 e1 => by omega, rfl⟩
      intro i τ3 ⟨g1, g2, g3⟩
      subst g3
      by_cases z : i < bg R s
      · rw [ip_ifT z, ip_P]
        exact ⟨Or.inr ⟨rfl, rea_no (fun e e0 e1 => g2 e (by omega) e1)⟩, rfl⟩
      · rw [ip_ifF z]
        refine rKe _ _ _ ?_
        rw [ip_B, ip_Ld, hv i (by omega) g1.2]
        refine ⟨⟨by omega, by omega⟩, ?_⟩
        by_cases z2 : rch R s h k.toNat i = -1
        · rw [ip_ifT z2, ip_A]
          refine ⟨⟨by omega, by omega⟩, ?_⟩
          rw [ip_B, ip_P, ip_P]
          simp only [Sum.elim_inl]
          refine ⟨⟨⟨by omega, by omega⟩, fun e e0 e1 => ?_, trivial⟩, by omega⟩
          by_cases y : e = i
          · subst y; exact z2
          · exact g2 e (by omega) e1
        · rw [ip_ifF z2, ip_P]
          exact ⟨Or.inl (by rw [rea_is hw (by omega) g1.2 z2 g2]), rfl⟩
    · rw [e.2]
      rcases e.1 with q | ⟨q, q2⟩
      · rw [q]
        simp only [Sum.elim_inr, ip_P]
        exact hQ τ2 e2.2
      · rw [q]
        simp only [Sum.elim_inl, ip_P]
        rw [← q2]
        exact hQ τ2 e2.2
theorem gv_reach (hI : InvX R τ) (s k h : Int) : gv R (iz_Top_reach 0 s k h) (reaV R s k h) τ := by
  unfold iz_Top_reach
  by_cases c : 1 ≤ k ∧ k ≤ 5
  · refine gv_asksK hI (fun τ1 hX => gv_const hX (fun Q h => by rw [ip_ifT rfl, ip_P]; exact h)) (fun a1 a2 a3 a4 τ1 hX h9 hx => ?_) (fun z => if_neg (fun q => z q.1))
    have ev : reaV R s k h = reaW R s k h := if_pos ⟨⟨⟨a1, a2⟩, a3, a4⟩, c⟩
    unfold gv
    rw [ip_ifF (by omega), ip_ifF (by omega), ip_ifT c.2, t_8, ip_B]
    refine ip_farthest hI.1 hx a1 a2 c.1 c.2 a3 a4 (fun τ2 hf => ?_)
    rw [ip_P, ev]
    exact ⟨rfl, hX.b (hX.2.2.1.frame (fun a k _ => hf a k (by omega))) (fun a k _ => hf a k (by omega)), fun a j z => hf a j (by unfold zw at z; omega)⟩
  · have ev : reaV R s k h = -1 := if_neg (fun q => c q.2)
    rw [ev]
    refine gv_asksK hI (fun τ1 hX => gv_const hX (fun Q h => by rw [ip_ifT rfl, ip_P]; exact h)) (fun a1 a2 a3 a4 τ1 hX h9 hx => ?_) (fun _ => rfl)
    refine gv_const hX (fun Q h => ?_)
    rw [ip_ifF (by omega)]
    by_cases d : k < 1
    · rw [ip_ifT d, ip_P]; exact h
    · rw [ip_ifF d, ip_ifF (by omega), ip_P]; exact h
end
