section
variable {τ : iMem} {R : aRun}
theorem gv_Meven (hI : InvX R τ) (s : Int) : gv R (iz_Model_even 367 s) (evV R s) τ := by
  have hw := hI.1
  have hbs := bg_step hw s
  have hS := hw.2.1.1
  have hH := hw.2.1.2.1
  unfold gv iz_Model_even
  rw [ip_B]
  refine ip_lays hw hI.2.2.2 (fun τ2 v1 v3 => ?_)
  have v4 : ∀ a k, ¬ mz a k → τ2 a k = τ a k := fun a k h => v3 a k (by unfold mz at h; unfold mlw; omega)
  have hX := hI.m v4
  have hx : Mx R τ2 := ⟨hX.2.2.2, v1⟩
  have hf : ∀ a k, ¬ zw a k → τ2 a k = τ a k := fun a k h => v4 a k (fun z => h (Or.inr (Or.inr z)))
  rw [ip_B, ip_isSection hw hx]
  by_cases c : s < 0 ∨ ns R - 1 < s
  · have ev : evV R s = -1 := if_neg (by omega)
    rw [if_pos c, ip_ifF (by omega), ip_P, ev]
    exact ⟨rfl, hX, hf⟩
  · have a1 : 0 ≤ s := by omega
    have a2 : s < ns R := by omega
    have hns := ns_in hw
    have hn16 := hw.1.2
    rw [if_neg c, ip_ifT (by omega), ip_B]
    refine ip_MleastOf hw hx.1 hx.2 a1 a2 (fun τ3 hf3 => ?_)
    have hX3 := hX.n hf3
    have hx3 := hx.f hf3
    have g3 : ∀ a k, ¬ mz a k → τ3 a k = τ a k := fun a k z => (hf3 a k (by unfold mz at z; omega)).trans (v4 a k z)
    have lin := lst_in hw (s := s)
    by_cases z : lst R s (bg R s) 0 2000 = -2
    · have ev : evV R s = -2 := by unfold evV; rw [if_pos ⟨a1, a2⟩, if_pos z]
      rw [ip_ifF (by omega), ip_P, ev]
      exact ⟨rfl, hX3, fun a k y => g3 a k (fun q => y (Or.inr (Or.inr q)))⟩
    · have ev : evV R s = (dfN (fun i => usC R (pC (evP R s) i)) (rs R 0).toNat).2 - (dfN (fun i => usC R (pC (evP R s) i)) (rs R 0).toNat).1 := by unfold evV; rw [if_pos ⟨a1, a2⟩, if_neg z]
      have e1 : τ3 368 1 = rs R 1 := rm_s hx3.1 (by omega) (by omega)
      have e380 := hx3.2.2.2.2.2.2.1 s a1 (by omega)
      rw [ip_ifT (by omega), ip_B, ip_Pt, ip_B, ip_Pt, ip_B, ip_Ld, m_0, l_368, iu_ne (Or.inl (by omega)), iu_ne (Or.inl (by omega)), e1]
      refine ⟨⟨by omega, by omega⟩, ?_⟩
      rw [ip_B, ip_Pt, ip_B, ip_Ld, m_14, l_380, iu_ne (Or.inl (by omega)), iu_ne (Or.inl (by omega)), iu_ne (Or.inl (by omega)), e380]
      refine ⟨⟨by omega, by omega⟩, ?_⟩
      rw [ip_B, ip_Pt, ip_B, ip_Pt, ip_B]
      generalize hτ5 : iu (iu (iu (iu (iu τ3 367 32 0) 367 33 0) 367 34 (rs R 1)) 367 36 (bg R s)) 367 37 0 = τ5
      have f5 : ∀ a k, ¬ (a = 367 ∧ 32 ≤ k ∧ k ≤ 37) → τ5 a k = τ3 a k := fun a k h => by rw [← hτ5, iu_ne (by omega), iu_ne (by omega), iu_ne (by omega), iu_ne (by omega), iu_ne (by omega)]
      have c32 : τ5 367 32 = 0 := by rw [← hτ5, iu_ne (Or.inr (by omega)), iu_ne (Or.inr (by omega)), iu_ne (Or.inr (by omega)), iu_ne (Or.inr (by omega)), iu_eq]
      have c33 : τ5 367 33 = 0 := by rw [← hτ5, iu_ne (Or.inr (by omega)), iu_ne (Or.inr (by omega)), iu_ne (Or.inr (by omega)), iu_eq]
      have c34 : τ5 367 34 = rs R 1 := by rw [← hτ5, iu_ne (Or.inr (by omega)), iu_ne (Or.inr (by omega)), iu_eq]
      have c36 : τ5 367 36 = bg R s := by rw [← hτ5, iu_ne (Or.inr (by omega)), iu_eq]
      have c37 : τ5 367 37 = 0 := by rw [← hτ5, iu_eq]
      have hx5 : Mx R τ5 := hx3.frame (fun a k h => f5 a k (by omega))
      obtain ⟨k1, k2, k3, k4, k5⟩ := ev_ok hw (a := 0) (b := rs R 1) a1 a2 (by omega) (by omega) z
      refine ip_levelsBy (P := (0, 0, rs R 1, bg R s, 0, fun _ _ => 0)) hw hx5 ⟨⟨c32, c33, c34, c36, c37⟩, fun i i0 i1 => by have i1 : i < 0 := i1; omega⟩ k1 (by show 0 + rs R 0 ≤ 300; omega) a1 a2 k2.1 k2.2 k3 (fun τ6 w1 w2 w3 => ?_)
      have k4 : okP R s (evP R s) := k4
      have k5 : pcn (evP R s) = rs R 0 := k5
      have w2 : PrM τ6 (evP R s) := w2
      have hok := k4.2.2.2.2.2.2
      have hu : ∀ i, 0 ≤ i → i < rs R 0 → 0 ≤ usC R (pC (evP R s) i) ∧ usC R (pC (evP R s) i) ≤ 30000 := fun i i0 i1 => (usC_in hw (hok i i0 (by omega))).2.2.2.2.2.2.2.1
      have hg6 : ∀ a j, ¬ mz a j → τ6 a j = τ a j := fun a j y => by
        rw [w3 a j (by unfold mz at y; omega), f5 a j (by unfold mz at y; omega), g3 a j y]
      have hI6 := hI.m hg6
      have din := dfN_in (f := fun i => usC R (pC (evP R s) i)) hu (rs R 0).toNat (by omega)
      rw [ip_B]
      refine ip_mono (Q := fun v τ7 => τ7 = τ6 ∧ v = dfN (fun i => usC R (pC (evP R s) i)) (rs R 0).toNat) ?_ (fun v τ7 e => ?_)
      · refine ip_W (fun (q : Int × (Int × Int)) τ7 => τ7 = τ6 ∧ (0 ≤ q.2.2 ∧ q.2.2 ≤ rs R 0) ∧ (q.1, q.2.1) = dfN (fun i => usC R (pC (evP R s) i)) q.2.2.toNat) (fun (q : Int × (Int × Int)) _ => (rs R 0 - q.2.2).toNat) ?_ ⟨rfl, ⟨Int.le_refl _, by show 0 ≤ rs R 0; omega⟩, rfl⟩
        intro q τ7 ⟨et, b1, b2⟩
        obtain ⟨mnn, mxx, i⟩ := q
        subst et
        dsimp only at b1 b2 ⊢
        rw [ip_B, ip_Gt, w2.1.1, k5]
        by_cases d : rs R 0 ≤ i
        · rw [ip_ifT d, ip_P]
          exact ⟨rfl, by rw [b2, show i = rs R 0 by omega]⟩
        · have hui := hu i b1.1 (by omega)
          have hcol := w2.2 i b1.1 (by omega)
          have ho := hok i b1.1 (by omega)
          have m7 := hcol.2.2.2.2.2.2.2.1
          have c7 := ho.2.2.2.2.2.1
          have b4 : (dfN (fun i => usC R (pC (evP R s) i)) i.toNat).1 = mnn := (congrArg Prod.fst b2).symm
          have b5 : (dfN (fun i => usC R (pC (evP R s) i)) i.toNat).2 = mxx := (congrArg Prod.snd b2).symm
          have en : dfN (fun i => usC R (pC (evP R s) i)) (i + 1).toNat = (if mnn ≤ usC R (pC (evP R s) i) then mnn else usC R (pC (evP R s) i), if usC R (pC (evP R s) i) ≤ mxx then mxx else usC R (pC (evP R s) i)) := by
            rw [show (i + 1).toNat = i.toNat + 1 by omega]
            show ((if (dfN (fun i => usC R (pC (evP R s) i)) i.toNat).1 ≤ usC R (pC (evP R s) (i.toNat : Int)) then (dfN (fun i => usC R (pC (evP R s) i)) i.toNat).1 else usC R (pC (evP R s) (i.toNat : Int))), (if usC R (pC (evP R s) (i.toNat : Int)) ≤ (dfN (fun i => usC R (pC (evP R s) i)) i.toNat).2 then (dfN (fun i => usC R (pC (evP R s) i)) i.toNat).2 else usC R (pC (evP R s) (i.toNat : Int)))) = _
            rw [b4, b5, show ((i.toNat : Nat) : Int) = i by omega]
          rw [ip_ifF d, ip_B, ip_Ld, m_30, l_395, m7]
          refine ⟨⟨by omega, by omega⟩, ?_⟩
          rw [ip_B, ip_looseG hw w1 hcol ho b1.1 (by omega), ip_A]
          refine ⟨⟨by omega, by omega⟩, ?_⟩
          rw [ip_B, ip_P, show pC (evP R s) i 7 - (pC (evP R s) i 7 - usC R (pC (evP R s) i)) = usC R (pC (evP R s) i) by omega, ip_B, ip_ifP, ip_B, ip_ifP, ip_A]
          refine ⟨⟨by omega, by omega⟩, ?_⟩
          rw [ip_B, ip_P, ip_P]
          simp only [Sum.elim_inl]
          exact ⟨⟨trivial, ⟨by omega, by omega⟩, en.symm⟩, by omega⟩
      · rw [e.1, e.2, ip_A]
        refine ⟨⟨by omega, by omega⟩, ?_⟩
        rw [ip_P, ev]
        exact ⟨rfl, hI6, fun a j y => hg6 a j (fun q => y (Or.inr (Or.inr q)))⟩
theorem two_even (hI : InvX R τ) (s : Int) : two R (iz_Top_even 0 s) (iz_Model_even 367 s) τ := gv_two (gv_even hI s) (fun _ q _ => gv_Meven q s)
end
