/-! ===== the TEXT split ===== -/
def TK (L : Int) (T : Int → Int) (N : Nat) (τ : iMem) : Prop := TaC L T τ ∧ tq L T N = L ∧ (∀ i, i < N → tq L T i < L) ∧ (∀ i : Nat, i ≤ N → τ 10 i = sn L T (tq L T i) ∧ τ 11 i = tq L T i) ∧ ∀ i : Nat, i < N → τ 12 i = va L T (tq L T i)
section
variable {τ τ0 : iMem} {L : Int} {T : Int → Int}
theorem tq_in (hL : 0 ≤ L) : ∀ i : Nat, (∀ j, j < i → tq L T j < L) → (i : Int) ≤ tq L T i ∧ tq L T i ≤ L := by
  intro i
  induction i with
  | zero =>
    intro _
    have := (sk_in (L := L) (T := T) (p := 0) hL).1
    exact ⟨this.1, this.2⟩
  | succ i ih =>
    intro h
    have h1 := ih (fun j hj => h j (by omega))
    have h2 := nx_in (T := T) (h i (by omega))
    show ((i + 1 : Nat) : Int) ≤ nx L T (tq L T i) ∧ nx L T (tq L T i) ≤ L
    omega
theorem ip_split {Q : Unit → iMem → Prop} (hW : TaW L T) (hT : TaC L T τ) (hQ : ∀ N τ', TK L T N τ' → (∀ a k, ¬ (10 ≤ a ∧ a ≤ 12) → τ' a k = τ a k) → Q () τ') : ip (iz_Teller_split 6) Q τ := by
  have hL := hW.1
  unfold iz_Teller_split
  rw [u_0, u_2, u_3, u_4, t_tp, ip_B]
  refine ip_mono (Q := fun (v : Int) τ1 => ∃ N : Nat, v = (N : Int) ∧ tq L T N = L ∧ (∀ i, i < N → tq L T i < L) ∧ (∀ i : Nat, i < N → τ1 10 i = sn L T (tq L T i) ∧ τ1 11 i = tq L T i ∧ τ1 12 i = va L T (tq L T i)) ∧ (∀ a k, ¬ (10 ≤ a ∧ a ≤ 12) → τ1 a k = τ a k)) ?_ (fun v τ1 g => ?_)
  · refine ip_W (fun (s : Int × Int) τ1 => ∃ m : Nat, s.1 = (m : Int) ∧ (0 ≤ s.2 ∧ s.2 ≤ L) ∧ sk L T s.2 = tq L T m ∧ (m : Int) ≤ s.2 ∧ (∀ i, i < m → tq L T i < L) ∧ (∀ i : Nat, i < m → τ1 10 i = sn L T (tq L T i) ∧ τ1 11 i = tq L T i ∧ τ1 12 i = va L T (tq L T i)) ∧ (∀ a k, ¬ (10 ≤ a ∧ a ≤ 12) → τ1 a k = τ a k)) (fun s _ => (L - s.2).toNat) ?_ ⟨0, rfl, ⟨Int.le_refl _, hL.1⟩, rfl, Int.le_refl _, fun i hi => absurd hi (Nat.not_lt_zero _), fun i hi => absurd hi (Nat.not_lt_zero _), fun _ _ _ => rfl⟩
    intro s τ1 ⟨m, b1, b2, b3, b4, b5, b6, b7⟩
    obtain ⟨v, p⟩ := s
    dsimp only at b1 b2 b3 b4 ⊢
    subst b1
    have hT1 : TaC L T τ1 := hT.frame (b7 _ _ (by omega)) (fun k => b7 _ _ (by omega))
    rw [ip_B, ip_Gt, hT1.1]
    by_cases c : L ≤ p
    · rw [ip_ifT c, ip_P]
      simp only [Sum.elim_inr]
      refine ⟨m, rfl, ?_, b5, b6, b7⟩
      rw [← b3, sk_e (fun z => by omega)]
      omega
    · rw [ip_ifF c, ip_A]
      refine ⟨⟨by omega, by omega⟩, ?_⟩
      rw [ip_ifF (by omega), ip_B, ip_byte hW hT1 b2.1 (by omega), ip_A]
      refine ⟨⟨by omega, by omega⟩, ?_⟩
      rw [ip_B, ip_P, ip_B]
      by_cases d : T p = 32
      · rw [ip_ifT d, ip_P, ip_P]
        simp only [Sum.elim_inl]
        exact ⟨⟨m, rfl, ⟨by omega, by omega⟩, by rw [← sk_s (by omega) d]; exact b3, by omega, b5, b6, b7⟩, by omega⟩
      · have hq : tq L T m = p := by rw [← b3, sk_e (fun z => d z.2)]
        have hee := ee_in (L := L) (T := T) (q := p) (by omega)
        rw [ip_ifF d, ip_B, ip_signOf, ip_A]
        refine ⟨⟨by omega, by omega⟩, ?_⟩
        rw [ip_B, ip_St, ul_11]
        refine ⟨⟨⟨by omega, by omega⟩, by omega⟩, ?_⟩
        rw [ip_B, ip_St, ul_10]
        refine ⟨⟨⟨by omega, by omega⟩, by omega⟩, ?_⟩
        rw [ip_B]
        generalize hτ : iu (iu τ1 11 (m : Int) (p + 1 - 1)) 10 (m : Int) (sg (T p)) = τ2
        have hT2 : TaC L T τ2 := by rw [← hτ]; exact hT1.frame (by rw [iu_ne (Or.inl (by omega)), iu_ne (Or.inl (by omega))]) (fun k => by rw [iu_ne (Or.inl (by omega)), iu_ne (Or.inl (by omega))])
        refine ip_mono (Q := fun v τ3 => v = ee L T p ∧ τ3 = τ2) ?_ (fun v τ3 g => ?_)
        · have hg := sg_in (T p)
          by_cases y : sg (T p) = 0 ∨ sg (T p) = 1
          · have eru : ee L T p = ru L T (sg (T p)) (p + 1) := by
              unfold ee
              rw [if_pos y]
              exact go_s (P := fun x => sg x = sg (T p)) (by omega) rfl
            refine ip_W (fun e τ3 => τ3 = τ2 ∧ (p + 1 ≤ e ∧ e ≤ L) ∧ ru L T (sg (T p)) e = ee L T p) (fun e _ => (L - e).toNat) ?_ ⟨rfl, ⟨Int.le_refl _, by omega⟩, eru.symm⟩
            intro e τ3 ⟨et, g1, g2⟩
            subst et
            rw [ip_B]
            have test : ∀ {Q : (Unit ⊕ (Int ⊕ Int)) → iMem → Prop}, Q (Sum.inl ()) τ3 → ip (if sg (T p) = 0 then iP (Sum.inl ()) else if ¬ sg (T p) = 1 then iP (Sum.inr (Sum.inr e)) else iP (Sum.inl ())) Q τ3 := by
              intro Q h
              by_cases z : sg (T p) = 0
              · rw [ip_ifT z, ip_P]; exact h
              · rw [ip_ifF z, ip_ifF (by omega), ip_P]; exact h
            refine test ?_
            simp only [Sum.elim_inl]
            rw [ip_B, ip_Gt, hT2.1]
            by_cases z : L ≤ e
            · rw [ip_ifT z, ip_P]
              simp only [Sum.elim_inr]
              refine ⟨?_, trivial⟩
              rw [← g2]
              unfold ru
              rw [go_e (fun y => by omega)]
            · rw [ip_ifF z, ip_B, ip_byte hW hT2 (by omega) (by omega), ip_B, ip_signOf]
              by_cases x : sg (T e) = sg (T p)
              · rw [ip_ifF (by omega), ip_A]
                refine ⟨⟨by omega, by omega⟩, ?_⟩
                rw [ip_B, ip_P, ip_P]
                simp only [Sum.elim_inl]
                refine ⟨⟨trivial, ⟨by omega, by omega⟩, ?_⟩, by omega⟩
                rw [← g2]
                unfold ru
                exact (go_s (P := fun y => sg y = sg (T p)) (by omega) x).symm
              · rw [ip_ifT x, ip_P]
                simp only [Sum.elim_inr]
                refine ⟨?_, trivial⟩
                rw [← g2]
                unfold ru
                exact (go_e (P := fun y => sg y = sg (T p)) (fun y => x y.2)).symm
          · have ep : ee L T p = p + 1 := by unfold ee; rw [if_neg y]
            refine ip_W (fun e τ3 => τ3 = τ2 ∧ e = p + 1) (fun e _ => 0) ?_ ⟨rfl, rfl⟩
            intro e τ3 ⟨et, g1⟩
            subst et g1
            rw [ip_B, ip_ifF (by omega), ip_ifT (by omega), ip_P]
            simp only [Sum.elim_inr, ip_P]
            exact ⟨ep.symm, trivial⟩
        · obtain ⟨g1, g2⟩ := g
          subst g1 g2
          have e11 : τ3 11 (m : Int) = p := by rw [← hτ, iu_ne (Or.inl (by omega)), iu_eq]; omega
          have hfr : ∀ a k, ¬ ((a = 10 ∨ a = 11) ∧ k = (m : Int)) → τ3 a k = τ1 a k := fun a k z => by rw [← hτ, iu_ne (by omega), iu_ne (by omega)]
          rw [ip_B]
          refine ip_mono (Q := fun v τ4 => v = va L T p ∧ τ4 = τ3) ?_ (fun v τ4 g => ?_)
          · unfold va
            by_cases y : sg (T p) = 0
            · rw [ip_ifF (by omega), if_pos y, ip_B, ip_Ld, ul_11, e11]
              refine ⟨⟨by omega, by omega⟩, ?_⟩
              rw [ip_B]
              refine ip_wordOf hW hT2 b2.1 (by omega) y ?_
              rw [ip_P]
              exact ⟨rfl, rfl⟩
            · rw [ip_ifT y, if_neg y, ip_B, ip_Ld, ul_11, e11]
              refine ⟨⟨by omega, by omega⟩, ?_⟩
              rw [ip_B]
              refine ip_numberOf hW hT2 b2.1 (by omega) hee.2 ?_ ?_
              · by_cases x : sg (T p) = 1
                · exact Or.inr (fun k k0 k1 => sg_1.mp (ee_num (by omega) x k k0 k1))
                · left
                  unfold ee
                  rw [if_neg (by omega)]
              · rw [ip_P]
                exact ⟨rfl, rfl⟩
          · obtain ⟨g1, g2⟩ := g
            subst g1 g2
            rw [ip_B, ip_St, ul_12]
            refine ⟨⟨⟨by omega, by omega⟩, by omega⟩, ?_⟩
            rw [ip_A]
            refine ⟨⟨by omega, by omega⟩, ?_⟩
            rw [ip_B, ip_P, ip_P, ip_P]
            simp only [Sum.elim_inl]
            refine ⟨⟨m + 1, by omega, ⟨by omega, hee.2⟩, ?_, by omega, fun i hi => ?_, fun i hi => ?_, fun a k z => ?_⟩, by omega⟩
            · show sk L T (ee L T p) = nx L T (tq L T m)
              rw [hq]; rfl
            · by_cases z : i = m
              · rw [z, hq]; omega
              · exact b5 i (by omega)
            · by_cases z : i = m
              · rw [z, hq, iu_eq, iu_ne (Or.inl (by omega)), iu_ne (Or.inl (by omega)), e11]
                refine ⟨?_, rfl, rfl⟩
                rw [← hτ, iu_eq, sn_of (by omega)]
              · rw [iu_ne (Or.inr (by omega)), iu_ne (Or.inr (by omega)), iu_ne (Or.inr (by omega)), hfr _ _ (by omega), hfr _ _ (by omega), hfr _ _ (by omega)]
                exact b6 i (by omega)
            · rw [iu_ne (by omega), hfr a k (by omega)]
              exact b7 a k z
  · obtain ⟨N, g1, g2, g3, g4, g5⟩ := g
    subst g1
    have hN := (tq_in (L := L) (T := T) hL.1 N g3).1
    rw [ip_B, ip_St, ul_10]
    refine ⟨⟨⟨by omega, by omega⟩, by omega⟩, ?_⟩
    rw [ip_B, ip_Gt, iu_ne (Or.inl (by omega)), g5 4 1 (by omega), hT.1, ip_B, ip_St, ul_11]
    refine ⟨⟨⟨by omega, by omega⟩, by omega⟩, ?_⟩
    rw [ip_P]
    refine hQ N _ ⟨?_, g2, g3, fun i hi => ?_, fun i hi => ?_⟩ (fun a k z => ?_)
    · exact hT.frame (by rw [iu_ne (Or.inl (by omega)), iu_ne (Or.inl (by omega)), g5 _ _ (by omega)]) (fun k => by rw [iu_ne (Or.inl (by omega)), iu_ne (Or.inl (by omega)), g5 _ _ (by omega)])
    · by_cases z : i = N
      · subst z
        rw [iu_ne (Or.inl (by omega)), iu_eq, iu_eq, g2, sn_4 (by omega)]
        exact ⟨rfl, rfl⟩
      · rw [iu_ne (Or.inl (by omega)), iu_ne (Or.inr (by omega)), iu_ne (Or.inr (by omega)), iu_ne (Or.inl (by omega))]
        exact ⟨(g4 i (by omega)).1, (g4 i (by omega)).2.1⟩
    · rw [iu_ne (Or.inl (by omega)), iu_ne (Or.inl (by omega))]
      exact (g4 i hi).2.2
    · rw [iu_ne (by omega), iu_ne (by omega)]
      exact g5 a k z
end
