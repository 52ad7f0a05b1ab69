/-! ===== where things stand ===== -/
noncomputable def fstN (P : Int → Prop) : Nat → Int
  | 0 => -1
  | n + 1 => if fstN P n = -1 then @ite Int (P n) (Classical.propDecidable _) n (-1) else fstN P n
theorem fstN_is {P : Int → Prop} {i : Int} (h0 : 0 ≤ i) (hP : P i) (hn : ∀ j, 0 ≤ j → j < i → ¬ P j) : ∀ n : Nat, fstN P n = if i < n then i else -1 := by
  intro n
  induction n with
  | zero => rw [if_neg (by omega)]; rfl
  | succ n ih =>
    show (if fstN P n = -1 then @ite Int (P n) (Classical.propDecidable _) n (-1) else fstN P n) = _
    rw [ih]
    by_cases c : i < n
    · rw [if_pos c, if_neg (by omega), if_pos (by omega)]
    · rw [if_neg c, if_pos rfl]
      by_cases d : i = n
      · rw [if_pos (by rw [← d]; exact hP), if_pos (by omega)]; exact d.symm
      · rw [if_neg (hn n (by omega) (by omega)), if_neg (by omega)]
theorem fstN_no {P : Int → Prop} : ∀ n : Nat, (∀ j : Int, 0 ≤ j → j < (n : Int) → ¬ P j) → fstN P n = -1 := by
  intro n
  induction n with
  | zero => intro _; rfl
  | succ n ih =>
    intro h
    show (if fstN P n = -1 then @ite Int (P n) (Classical.propDecidable _) n (-1) else fstN P n) = _
    rw [ih (fun j a b => h j a (by omega)), if_pos rfl, if_neg (h n (by omega) (by omega))]
theorem fstN_or (P : Int → Prop) : ∀ n : Nat, (fstN P n = -1 ∧ ∀ j : Int, 0 ≤ j → j < (n : Int) → ¬ P j) ∨ (0 ≤ fstN P n ∧ fstN P n < n ∧ P (fstN P n)) := by
  intro n
  induction n with
  | zero => exact Or.inl ⟨rfl, fun j a b => by omega⟩
  | succ n ih =>
    have e : fstN P (n + 1) = if fstN P n = -1 then @ite Int (P n) (Classical.propDecidable _) n (-1) else fstN P n := rfl
    rcases ih with ⟨a, b⟩ | ⟨a, b, c⟩
    · rw [if_pos a] at e
      by_cases d : P n
      · rw [if_pos d] at e
        rw [e]
        exact Or.inr ⟨by omega, by omega, d⟩
      · rw [if_neg d] at e
        refine Or.inl ⟨e, fun j j0 j1 => ?_⟩
        by_cases z : j = n
        · rw [z]; exact d
        · exact b j j0 (by omega)
    · rw [if_neg (by omega)] at e
      rw [e]
      exact Or.inr ⟨a, by omega, c⟩
noncomputable def cOf (R : aRun) (p : Int) : Int := fstN (fun i => cf R i 3 ≤ p ∧ p < cf R i 4) (pcn (pou R).1).toNat
theorem cOf_or {R : aRun} (hw : WF R) (p : Int) : cOf R p = -1 ∨ (0 ≤ cOf R p ∧ cOf R p < pcn (pou R).1 ∧ cf R (cOf R p) 3 ≤ p ∧ p < cf R (cOf R p) 4) := by
  have h := pou_240 hw
  unfold cOf
  rcases fstN_or (fun i => cf R i 3 ≤ p ∧ p < cf R i 4) (pcn (pou R).1).toNat with ⟨a, -⟩ | ⟨a, b, c⟩
  · exact Or.inl a
  · exact Or.inr ⟨a, by omega, c⟩
section
variable {τ : iMem} {R : aRun}
theorem ip_columnOf {p : Int} {Q : Int → iMem → Prop} (hw : WF R) (hP : PoC R 52 79 320 240 τ (pou R)) (hQ : Q (cOf R p) τ) : ip (iz_Press_columnOf 52 p) Q τ := by
  have h240 := pou_240 hw
  unfold iz_Press_columnOf
  rw [ip_B]
  refine ip_W (fun i τ' => τ' = τ ∧ 0 ≤ i ∧ i ≤ pcn (pou R).1 ∧ ∀ j, 0 ≤ j → j < i → ¬ (cf R j 3 ≤ p ∧ p < cf R j 4)) (fun i _ => (pcn (pou R).1 - i).toNat) ?_ ⟨rfl, Int.le_refl _, h240.1, fun j a b => by omega⟩
  intro i τ' ⟨et, i0, i1, ij⟩
  subst et
  rw [ip_B, ip_Gt, hP.1.1]
  by_cases c1 : pcn (pou R).1 ≤ i
  · have e : i = pcn (pou R).1 := by omega
    rw [ip_ifT c1, ip_P]
    simp only [Sum.elim_inl, Sum.elim_inr, ip_P]
    have : cOf R p = -1 := fstN_no _ (fun j a b => ij j a (by omega))
    rw [this] at hQ
    exact hQ
  · have next : ¬ (cf R i 3 ≤ p ∧ p < cf R i 4) → ip (iA (i + 1) fun y1 => iB (iP y1) fun x7 => iP (Sum.inl x7 : Int ⊕ (Unit ⊕ Int))) (fun r τ'' => Sum.elim (fun s' => (τ'' = τ' ∧ 0 ≤ s' ∧ s' ≤ pcn (pou R).1 ∧ ∀ j, 0 ≤ j → j < s' → ¬ (cf R j 3 ≤ p ∧ p < cf R j 4)) ∧ (pcn (pou R).1 - s').toNat < (pcn (pou R).1 - i).toNat) (fun a => ip (Sum.elim (fun s1 => iP (-1)) iP a) Q τ'') r) τ' := by
      intro hno
      rw [ip_A]
      refine ⟨⟨by omega, by omega⟩, ?_⟩
      rw [ip_B, ip_P, ip_P]
      simp only [Sum.elim_inl]
      refine ⟨⟨trivial, by omega, by omega, fun j a b => ?_⟩, by omega⟩
      by_cases d : j = i
      · rw [d]; exact hno
      · exact ij j a (by omega)
    rw [ip_ifF c1, ip_B, ip_pcell hw hP i0 (by omega) (by omega) (by omega), ip_B]
    by_cases c2 : p < cf R i 3
    · rw [ip_ifT c2, ip_P]
      simp only [Sum.elim_inl]
      exact next (fun q => by omega)
    · rw [ip_ifF c2, ip_B, ip_pcell hw hP i0 (by omega) (by omega) (by omega)]
      by_cases c3 : cf R i 4 ≤ p
      · rw [ip_ifT c3, ip_P]
        simp only [Sum.elim_inl]
        exact next (fun q => by omega)
      · rw [ip_ifF c3, ip_P]
        simp only [Sum.elim_inl, Sum.elim_inr, ip_P]
        have : cOf R p = i := by
          have := fstN_is (P := fun i => cf R i 3 ≤ p ∧ p < cf R i 4) i0 ⟨by omega, by omega⟩ ij (pcn (pou R).1).toNat
          rw [if_pos (by omega)] at this
          exact this
        rw [this] at hQ
        exact hQ
theorem ip_McolumnOf {p : Int} {Q : Int → iMem → Prop} (hw : WF R) (hP : PoM R τ (pou R)) (hQ : Q (cOf R p) τ) : ip (iz_Model_columnOf 367 p) Q τ := by
  have h240 := pou_240 hw
  have h90 := hw.2.2.2
  unfold iz_Model_columnOf
  rw [ip_B]
  refine ip_W (fun i τ' => τ' = τ ∧ 0 ≤ i ∧ i ≤ pcn (pou R).1 ∧ ∀ j, 0 ≤ j → j < i → ¬ (cf R j 3 ≤ p ∧ p < cf R j 4)) (fun i _ => (pcn (pou R).1 - i).toNat) ?_ ⟨rfl, Int.le_refl _, h240.1, fun j a b => by omega⟩
  intro i τ' ⟨et, i0, i1, ij⟩
  subst et
  rw [ip_B, ip_Gt, hP.1.1]
  by_cases c1 : pcn (pou R).1 ≤ i
  · have e : i = pcn (pou R).1 := by omega
    rw [ip_ifT c1, ip_P]
    simp only [Sum.elim_inl, Sum.elim_inr, ip_P]
    have : cOf R p = -1 := fstN_no _ (fun j a b => ij j a (by omega))
    rw [this] at hQ
    exact hQ
  · obtain ⟨o1, o2, o3, o4, o5, o6, o7, o8, o9⟩ := okC_at hw (i := i) i0 (by omega)
    have hb := bg_in hw (pC (pou R).1 i 2 + 1)
    have hb2 := bg_in hw (pC (pou R).1 i 2)
    obtain ⟨m0, m1, m2, m3, m4, m5, m6, m7, m8⟩ := hP.2.1 i i0 (by omega)
    have e3 : cf R i 3 = pC (pou R).1 i 3 := rfl
    have e4 : cf R i 4 = pC (pou R).1 i 4 := rfl
    rw [ip_ifF c1, ip_B, ip_Ld, m_26, l_391]
    refine ⟨⟨by omega, by omega⟩, ?_⟩
    rw [m3, ip_B, ip_Ld, m_27, l_392]
    refine ⟨⟨by omega, by omega⟩, ?_⟩
    rw [m4, ip_A]
    refine ⟨⟨by omega, by omega⟩, ?_⟩
    rw [ip_B, ip_in]
    by_cases c2 : p < pC (pou R).1 i 3 ∨ pC (pou R).1 i 4 - 1 < p
    · rw [if_pos c2, ip_ifT rfl, ip_A]
      refine ⟨⟨by omega, by omega⟩, ?_⟩
      rw [ip_B, ip_P, ip_P]
      simp only [Sum.elim_inl]
      refine ⟨⟨trivial, by omega, by omega, fun j a b => ?_⟩, by omega⟩
      by_cases d : j = i
      · rw [d, e3, e4]; exact fun q => by omega
      · exact ij j a (by omega)
    · rw [if_neg c2, ip_ifF (by omega), ip_P]
      simp only [Sum.elim_inl, Sum.elim_inr, ip_P]
      have : cOf R p = i := by
        have := fstN_is (P := fun i => cf R i 3 ≤ p ∧ p < cf R i 4) i0 ⟨by rw [e3]; omega, by rw [e4]; omega⟩ ij (pcn (pou R).1).toNat
        rw [if_pos (by omega)] at this
        exact this
      rw [this] at hQ
      exact hQ
theorem two_where (hI : InvX R τ) (p k : Int) : two R (iz_Top_where 0 p k) (iz_Model_where 367 p k) τ := by
  have hw := hI.1
  have h240 := pou_240 hw
  have h90 := hw.2.2.2
  have hnp := np_ge hw
  unfold iz_Top_where iz_Model_where
  refine two_poured (Fn := fun r => r = if (0 ≤ p ∧ p < np R) ∧ 0 ≤ k ∧ k ≤ 2 then (if cOf R p = -1 then -2 else if k = 0 then cf R (cOf R p) 0 else if k = 1 then cOf R p else if p = cf R (cOf R p) 3 then pT R p else tx R (cf R (cOf R p) 3) p + pG R p) else -1) hI (fun τ1 Q w1 w2 hQ => ?_) (fun τ1 Q w1 w2 hQ => ?_) (fun r r' e e' => e'.trans e.symm)
  · have hQ := hQ _ rfl
    have hff := ft_F (pr_F isPress_52)
    obtain ⟨x1, x2, x3, x4⟩ := id w1
    rw [pr_1 isPress_52]
    by_cases c1 : p < 0
    · rw [if_neg (by omega)] at hQ
      rw [ip_ifT c1, ip_P]; exact hQ
    · rw [ip_ifF c1, ip_B, ip_Gt, x2.1]
      by_cases c2 : np R ≤ p
      · rw [if_neg (by omega)] at hQ
        rw [ip_ifT c2, ip_P]; exact hQ
      · rw [ip_ifF c2]
        by_cases c3 : k < 0
        · rw [if_neg (by omega)] at hQ
          rw [ip_ifT c3, ip_P]; exact hQ
        · rw [ip_ifF c3]
          by_cases c4 : k ≤ 2
          · rw [if_pos (by omega)] at hQ
            rw [ip_ifT c4, ip_B]
            refine ip_columnOf hw w2 ?_
            by_cases c5 : cOf R p = -1
            · rw [if_pos c5] at hQ
              rw [ip_ifF (by omega), ip_P]; exact hQ
            · rw [if_neg c5] at hQ
              obtain ⟨g0, g1, g2, g3⟩ := (cOf_or hw p).resolve_left c5
              obtain ⟨o1, o2, o3, o4, o5, o6, o7, o8, o9⟩ := okC_at hw g0 g1
              have hb2 := bg_in hw (pC (pou R).1 (cOf R p) 2)
              have e3 : cf R (cOf R p) 3 = pC (pou R).1 (cOf R p) 3 := rfl
              rw [ip_ifT c5]
              by_cases d0 : k = 0
              · rw [if_pos d0] at hQ
                rw [ip_ifT d0, ip_B, ip_pcell hw w2 g0 g1 (by omega) (by omega), ip_P]; exact hQ
              · rw [if_neg d0] at hQ
                rw [ip_ifF d0]
                by_cases d1 : k = 1
                · rw [if_pos d1] at hQ
                  rw [ip_ifT d1, ip_P]; exact hQ
                · rw [if_neg d1] at hQ
                  rw [ip_ifF d1, ip_B, ip_pcell hw w2 g0 g1 (by omega) (by omega), ip_B]
                  unfold iz_Flow_above
                  have A := x2.2.2.1.1 p (by omega) (by omega)
                  by_cases d2 : p = cf R (cOf R p) 3
                  · rw [if_pos d2] at hQ
                    rw [ip_ifF (by omega), fl_11 hff, ip_B, ip_at (by omega) (by rw [fl_l8 hff]; omega), ← d2, A.2.2.2.2.2.2, ip_P, ip_P]
                    exact hQ
                  · rw [if_neg d2] at hQ
                    have a1 := tx_in hw (p := cf R (cOf R p) 3) (e := p) (by omega) (by omega)
                    have a2 := pG_in hw (p := p) (by omega) (by omega)
                    rw [ip_ifT d2, ip_B, ip_text hff hw x2 (by omega) (by omega), fl_8 hff, ip_B, ip_at (by omega) (by rw [fl_l5 hff]; omega), A.2.2.2.1, ip_A, ip_P, ip_P]
                    exact ⟨⟨by omega, by omega⟩, hQ⟩
          · rw [if_neg (by omega)] at hQ
            rw [ip_ifF c4, ip_P]; exact hQ
  · have hQ := hQ _ rfl
    obtain ⟨f1, f2, f3, f4, -⟩ := id w1.2
    rw [ip_B, ip_Gt, f1, ip_A]
    refine ⟨⟨by omega, by omega⟩, ?_⟩
    rw [ip_B, ip_in]
    by_cases c1 : p < 0 ∨ np R - 1 < p
    · rw [if_neg (by omega)] at hQ
      rw [if_pos c1, ip_ifT rfl, ip_P]; exact hQ
    · rw [if_neg c1, ip_ifF (by omega), ip_B, ip_in]
      by_cases c2 : k < 0 ∨ 2 < k
      · rw [if_neg (by omega)] at hQ
        rw [if_pos c2, ip_ifF (by omega), ip_P]; exact hQ
      · rw [if_pos (by omega)] at hQ
        rw [if_neg c2, ip_ifT (by omega), ip_B]
        refine ip_McolumnOf hw w2 ?_
        by_cases c5 : cOf R p = -1
        · rw [if_pos c5] at hQ
          rw [ip_ifF (by omega), ip_P]; exact hQ
        · rw [if_neg c5] at hQ
          obtain ⟨g0, g1, g2, g3⟩ := (cOf_or hw p).resolve_left c5
          obtain ⟨o1, o2, o3, o4, o5, o6, o7, o8, o9⟩ := okC_at hw g0 g1
          have hb2 := bg_in hw (pC (pou R).1 (cOf R p) 2)
          obtain ⟨m0, m1, m2, m3, m4, m5, m6, m7, m8⟩ := w2.2.1 _ g0 g1
          have e3 : cf R (cOf R p) 3 = pC (pou R).1 (cOf R p) 3 := rfl
          have e0 : cf R (cOf R p) 0 = pC (pou R).1 (cOf R p) 0 := rfl
          rw [ip_ifT c5]
          by_cases d2 : 2 ≤ k
          · rw [if_neg (by omega), if_neg (by omega)] at hQ
            rw [ip_ifT d2, ip_B, ip_Ld, m_26, l_391]
            refine ⟨⟨by omega, by omega⟩, ?_⟩
            rw [m3, ← e3]
            by_cases d3 : p = cf R (cOf R p) 3
            · rw [if_pos d3] at hQ
              rw [ip_ifF (by omega), ← d3, ip_A]
              refine ⟨⟨by omega, by omega⟩, ?_⟩
              have A := f3 p (by omega) (by omega)
              have a1 := tx_in hw (p := p) (e := p + 1) (by omega) (by omega)
              have a2 := pH_in hw (p := p) (by omega) (by omega)
              rw [ip_B, ip_textOf hw w1.1 w1.2 (by omega) (by omega) (by omega), ip_B, ip_Ld, m_8, l_375]
              refine ⟨⟨by omega, by omega⟩, ?_⟩
              rw [A.2.2.1, ip_A, ip_P]
              have et : tx R p (p + 1) - pH R p = pT R p := by
                unfold tx
                rw [if_neg (by omega), hT_s (by omega)]
                omega
              rw [et]
              have := pT_in hw (p := p) (by omega) (by omega)
              exact ⟨⟨by omega, by omega⟩, hQ⟩
            · rw [if_neg d3] at hQ
              have A := f3 p (by omega) (by omega)
              have a1 := tx_in hw (p := cf R (cOf R p) 3) (e := p) (by omega) (by omega)
              have a2 := pG_in hw (p := p) (by omega) (by omega)
              rw [ip_ifT d3, ip_B, ip_textOf hw w1.1 w1.2 (by omega) (by omega) (by omega), ip_B, ip_Ld, m_9, l_376]
              refine ⟨⟨by omega, by omega⟩, ?_⟩
              rw [A.2.2.2.1, ip_A, ip_P]
              exact ⟨⟨by omega, by omega⟩, hQ⟩
          · rw [ip_ifF d2]
            by_cases d0 : k = 0
            · rw [if_pos d0] at hQ
              rw [ip_ifF (by omega), ip_B, ip_Ld, m_23, l_388]
              refine ⟨⟨by omega, by omega⟩, ?_⟩
              rw [m0, ip_P, ← e0]; exact hQ
            · rw [if_neg d0, if_pos (by omega)] at hQ
              rw [ip_ifT d0, ip_P]; exact hQ
theorem two_span (hI : InvX R τ) (k w : Int) : two R (iz_Top_span 0 k w) (iz_Model_span 367 k w) τ := by
  have hw := hI.1
  have hns := ns_in hw
  have hn := hw.1.2
  have hok := pou_ok hw
  unfold iz_Top_span iz_Model_span
  refine two_poured (Fn := fun r => r = if (0 ≤ k ∧ k < ns R - 1) ∧ 0 ≤ w ∧ w ≤ 1 then (if k < aSp (pou R) then (if w = 0 then aPg (pou R) k else aAb (pou R) k) else -2) else -1) hI (fun τ1 Q w1 w2 hQ => ?_) (fun τ1 Q w1 w2 hQ => ?_) (fun r r' e e' => e'.trans e.symm)
  · have hQ := hQ _ rfl
    obtain ⟨x1, x2, x3, x4⟩ := id w1
    rw [pr_1 isPress_52]
    by_cases c1 : k < 0
    · rw [if_neg (by omega)] at hQ
      rw [ip_ifT c1, ip_P]; exact hQ
    · rw [ip_ifF c1, ip_B]
      unfold iz_Flow_spans
      rw [ip_B, ip_Gt, x2.2.1, ip_A]
      refine ⟨⟨by omega, by omega⟩, ?_⟩
      rw [ip_B, ip_max, ip_P]
      by_cases c2 : ns R - 1 ≤ k
      · rw [if_neg (by omega)] at hQ
        rw [ip_ifT (by split <;> omega), ip_P]; exact hQ
      · rw [ip_ifF (by split <;> omega)]
        by_cases c3 : w < 0
        · rw [if_neg (by omega)] at hQ
          rw [ip_ifT c3, ip_P]; exact hQ
        · rw [ip_ifF c3]
          by_cases c4 : w ≤ 1
          · rw [if_pos (by omega)] at hQ
            rw [ip_ifT c4, ip_B, ip_Gt, w2.2.2.2.1]
            by_cases c5 : k < aSp (pou R)
            · have hk := w2.2.2.2.2 k (by omega) c5
              rw [if_pos c5] at hQ
              rw [ip_ifT c5]
              by_cases d0 : w = 0
              · rw [if_pos d0] at hQ
                rw [ip_ifF (by omega), pr_11 isPress_52, ip_B, ip_at (by omega) (by rw [(pr_ls isPress_52).1]; omega), hk.1, ip_P]; exact hQ
              · rw [if_neg d0] at hQ
                rw [ip_ifT d0, pr_12 isPress_52, ip_B, ip_at (by omega) (by rw [(pr_ls isPress_52).2]; omega), hk.2, ip_P]; exact hQ
            · rw [if_neg c5] at hQ
              rw [ip_ifF c5, ip_P]; exact hQ
          · rw [if_neg (by omega)] at hQ
            rw [ip_ifF c4, ip_P]; exact hQ
  · have hQ := hQ _ rfl
    rw [ip_B, ip_Gt, w1.2.2.1, ip_A]
    refine ⟨⟨by omega, by omega⟩, ?_⟩
    rw [ip_B, ip_in]
    by_cases c1 : k < 0 ∨ ns R - 2 < k
    · rw [if_neg (by omega)] at hQ
      rw [if_pos c1, ip_ifT rfl, ip_P]; exact hQ
    · rw [if_neg c1, ip_ifF (by omega), ip_B, ip_in]
      by_cases c2 : w < 0 ∨ 1 < w
      · rw [if_neg (by omega)] at hQ
        rw [if_pos c2, ip_ifF (by omega), ip_P]; exact hQ
      · rw [if_pos (by omega)] at hQ
        have hS := w2.2.2 (k + 1) (by omega) (by omega)
        rw [show k + 1 - 1 = k by omega] at hS
        rw [if_neg c2, ip_ifT (by omega), ip_A]
        refine ⟨⟨by omega, by omega⟩, ?_⟩
        rw [ip_B, ip_Ld, m_38, l_397]
        refine ⟨⟨by omega, by omega⟩, ?_⟩
        rw [hS.1]
        by_cases c5 : k < aSp (pou R)
        · have hpg := hok.2.2.2.2.2.2 k (by omega) c5
          rw [if_pos c5] at hQ
          rw [if_pos (show k + 1 ≤ aSp (pou R) by omega), ip_ifT (by omega)]
          by_cases d0 : w = 0
          · rw [if_pos d0] at hQ
            rw [ip_ifF (by omega), ip_A]
            refine ⟨⟨by omega, by omega⟩, ?_⟩
            rw [ip_B, ip_Ld, l_397]
            refine ⟨⟨by omega, by omega⟩, ?_⟩
            rw [hS.1, if_pos (show k + 1 ≤ aSp (pou R) by omega), ip_P]; exact hQ
          · rw [if_neg d0] at hQ
            rw [ip_ifT d0, ip_A]
            refine ⟨⟨by omega, by omega⟩, ?_⟩
            rw [ip_B, ip_Ld, m_39, l_398]
            refine ⟨⟨by omega, by omega⟩, ?_⟩
            rw [hS.2 (by omega), ip_P]; exact hQ
        · rw [if_neg c5] at hQ
          rw [if_neg (show ¬ k + 1 ≤ aSp (pou R) by omega), ip_ifF (by omega), ip_P]; exact hQ
end
