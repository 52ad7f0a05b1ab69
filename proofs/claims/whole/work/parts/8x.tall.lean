section
variable {τ : iMem} {R : aRun}
noncomputable def talN (R : aRun) (p : Int) : Nat → Int
  | 0 => -2
  | n + 1 => if talN R p n ≠ -2 then talN R p n else if 0 ≤ ans (RS R 1 (10 + n)) ∧ ans (RS R 1 (10 + n)) ≤ p then 10 + n else -2
theorem tal_s {p : Int} (n : Nat) : talN R p (n + 1) = if talN R p n ≠ -2 then talN R p n else if 0 ≤ ans (RS R 1 (10 + n)) ∧ ans (RS R 1 (10 + n)) ≤ p then 10 + n else -2 := rfl
theorem tal_stay {p : Int} {n : Nat} (h : talN R p n ≠ -2) : ∀ k, talN R p (n + k) = talN R p n := by
  intro k
  induction k with
  | zero => rfl
  | succ k ih => rw [show n + (k + 1) = (n + k) + 1 from rfl, tal_s, ih, if_pos h]
noncomputable def talV (R : aRun) (p : Int) : Int := if 0 ≤ p ∧ p ≤ 40 then talN R p 391 else -1
theorem gv_Mtall (hI : InvX R τ) (p : Int) : gv R (iz_Model_tall 367 p) (talV R p) τ := by
  have hw := hI.1
  unfold gv iz_Model_tall talV
  rw [ip_B, ip_in]
  by_cases c : p < 0 ∨ 40 < p
  · rw [if_pos c, ip_ifF (by omega), ip_P, if_neg (show ¬ (0 ≤ p ∧ p ≤ 40) by omega)]
    exact ⟨rfl, hI, fun _ _ _ => rfl⟩
  · rw [if_neg c, ip_ifT (by omega), if_pos (show (0 ≤ p ∧ p ≤ 40) by omega), m_0, ip_B]
    refine ip_keepsAside (fun τ1 w1 w2 => ?_)
    have hR1 : RunM τ1 368 0 R := hI.2.2.2.frame (fun k => w2 _ _ (by omega))
    rw [ip_B]
    refine ip_mono (Q := fun v τ2 => v = talN R p 391 ∧ (∀ k, τ2 372 k = τ1 372 k) ∧ (∀ k, k < 0 ∨ 265 ≤ k → τ2 368 k = τ1 368 k) ∧ (∀ a k, ¬ mz a k → a ≠ 368 → τ2 a k = τ1 a k)) ?_ (fun v τ2 e => ?_)
    · refine ip_W (fun (q : Int × Int) τ2 => (10 ≤ q.2 ∧ q.2 ≤ 401) ∧ q.1 = talN R p (q.2 - 10).toNat ∧ (∀ k, τ2 372 k = τ1 372 k) ∧ (∀ k, k ≠ 1 → τ2 368 k = τ1 368 k) ∧ (∀ a k, ¬ mz a k → a ≠ 368 → τ2 a k = τ1 a k)) (fun (q : Int × Int) _ => (401 - q.2).toNat) ?_ ⟨⟨Int.le_refl _, by show (10 : Int) ≤ 401; omega⟩, rfl, fun _ => rfl, fun _ _ => rfl, fun _ _ _ _ => rfl⟩
      intro q τ2 ⟨b1, b2, b3, b4, b5⟩
      obtain ⟨v, i⟩ := q
      dsimp only at b1 b2 ⊢
      have fin : v = talN R p 391 → v = talN R p 391 ∧ (∀ k, τ2 372 k = τ1 372 k) ∧ (∀ k, k < 0 ∨ 265 ≤ k → τ2 368 k = τ1 368 k) ∧ (∀ a k, ¬ mz a k → a ≠ 368 → τ2 a k = τ1 a k) := fun h => ⟨h, b3, fun k hk => b4 k (by omega), b5⟩
      by_cases c1 : 400 < i
      · rw [ip_ifT c1, ip_P]
        exact fin (by rw [b2, show (i - 10).toNat = 391 by omega])
      · rw [ip_ifF c1]
        by_cases c2 : v = -2
        · have hts := tal_s (R := R) (p := p) (i - 10).toNat
          rw [← b2, if_neg (show ¬ v ≠ -2 by omega), show 10 + (((i - 10).toNat : Nat) : Int) = i by omega] at hts
          have hs : okS 1 i := by unfold okS lwV hiV; omega
          rw [ip_ifF (by omega), ip_B, ip_St, l_368]
          refine ⟨⟨⟨by omega, by omega⟩, by omega⟩, ?_⟩
          have hR2 : RunM (iu τ2 368 1 i) 368 0 (RS R 1 i) := (RS_rm hR1 (by omega) (by omega)).frame (fun k => by
            by_cases y : k = 1
            · rw [y, iu_eq, iu_eq]
            · rw [iu_ne (Or.inr y), iu_ne (Or.inr y)]; exact b4 k y)
          rw [ip_B]
          refine ip_pours (RS_wf hw hs) hR2 (fun τ3 _ _ v3 => ?_)
          rw [ip_B, ip_in, ip_B, ip_ifP, ip_A]
          refine ⟨⟨by omega, by omega⟩, ?_⟩
          rw [ip_B, ip_P, ip_P]
          simp only [Sum.elim_inl]
          refine ⟨⟨⟨by omega, by omega⟩, ?_, fun k => ?_, fun k hk => ?_, fun a k y1 y2 => ?_⟩, by omega⟩
          · rw [show (i + 1 - 10).toNat = (i - 10).toNat + 1 by omega, hts]
            by_cases y : 0 ≤ ans (RS R 1 i) ∧ ans (RS R 1 i) ≤ p
            · rw [if_pos y, if_neg (show ¬ (ans (RS R 1 i) < 0 ∨ p < ans (RS R 1 i)) by omega), if_neg (by omega)]
            · rw [if_neg y, if_pos (show (ans (RS R 1 i) < 0 ∨ p < ans (RS R 1 i)) by omega), if_pos rfl]
          · rw [v3 _ _ (by unfold mlw pmw; omega), iu_ne (Or.inl (by omega))]; exact b3 k
          · rw [v3 _ _ (by unfold mlw pmw; omega), iu_ne (Or.inr hk)]; exact b4 k hk
          · rw [v3 _ _ (by unfold mz at y1; unfold mlw pmw; omega), iu_ne (Or.inl y2)]; exact b5 a k y1 y2
        · rw [ip_ifT c2, ip_P]
          refine fin ?_
          have := tal_stay (R := R) (p := p) (n := (i - 10).toNat) (by rw [← b2]; exact c2) (391 - (i - 10).toNat)
          rw [show (i - 10).toNat + (391 - (i - 10).toNat) = 391 by omega] at this
          rw [this]; exact b2
    · rw [ip_B]
      refine ip_putsBack (fun τ3 u1 u2 => ?_)
      have e368 : ∀ j, τ3 368 j = τ 368 j := back_is w1 (fun j => e.2.1 j) (fun j hj => (e.2.2.1 j hj).trans (w2 _ _ (by omega))) u1 u2
      have hf : ∀ a j, ¬ mz a j → τ3 a j = τ a j := fun a j z => by
        by_cases y : a = 368
        · rw [y]; exact e368 j
        · rw [u2 a j (by omega), e.2.2.2 a j z y, w2 a j (by unfold mz at z; omega)]
      rw [ip_P]
      exact ⟨e.1, hI.m hf, fun a j z => hf a j (fun y => z (Or.inr (Or.inr y)))⟩
end
