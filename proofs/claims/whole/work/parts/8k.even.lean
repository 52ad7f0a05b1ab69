section
variable {τ : iMem} {R : aRun}
theorem gv_even (hI : InvX R τ) (s : Int) : gv R (iz_Top_even 0 s) (evV R s) τ := by
  have hw := hI.1
  have hbs := bg_step hw s
  have hS := hw.2.1.1
  unfold iz_Top_even
  refine gv_asks hI (fun a1 a2 a3 a4 τ1 hX h9 hx => ?_) (fun z => if_neg (by omega))
  have hns := ns_in hw
  have hn16 := hw.1.2
  unfold gv
  rw [t_6, pr_2 isPress_52, ip_B]
  refine ip_leastOf isPress_52 hw hx a1 a2 (fun τ2 hF hk => ?_)
  have hX2 := hX.fit h9 hF hk
  have hf2 : ∀ a k, ¬ zw a k → τ2 a k = τ1 a k := fun a k z => hk a k (fw_zw z)
  by_cases z : lst R s (bg R s) 0 2000 = -2
  · have ev : evV R s = -2 := by unfold evV; rw [if_pos ⟨a1, a2⟩, if_pos z]
    rw [ip_ifF (by omega), ip_P, ev]
    exact ⟨rfl, hX2, hf2⟩
  · have ev : evV R s = (dfN (fun i => usC R (pC (evP R s) i)) (rs R 0).toNat).2 - (dfN (fun i => usC R (pC (evP R s) i)) (rs R 0).toNat).1 := by unfold evV; rw [if_pos ⟨a1, a2⟩, if_neg z]
    rw [ip_ifT z, t_0, t_7, p_0, ip_B]
    refine ip_ask hX2 (fun τ3 x1 x2 x3 => ?_)
    rw [ip_B]
    refine ip_Play isPress_322 hw x2 x1.2.2.1.1 x1.2.2.1.2.1 (fun τ4 v1 v2 => ?_)
    rw [ip_B]
    unfold iz_Press_levelAlone
    have hff := ft_F (pr_F isPress_322)
    rw [ip_B, ip_Pt, pr_1 isPress_322, fl_16 hff, ip_B, ip_at a1 (by rw [fl_l13 hff]; omega), iu_ne (Or.inl (by omega)), (v1.2.1.2.2.2.2 s a1 a2).1, ip_B, ip_Pt, ip_B, ip_Pt, ip_B]
    have b5 : 0 ≤ τ4 322 5 ∧ τ4 322 5 ≤ 39 := by rw [v2 _ _ (by omega)]; exact x1.2.2.1.2.2.1
    have b6 : 0 ≤ τ4 322 6 ∧ τ4 322 6 ≤ 400 := by rw [v2 _ _ (by omega)]; exact x1.2.2.1.2.2.2
    generalize hτ5 : iu (iu (iu τ4 322 4 0) 322 7 (bg R s)) 322 8 0 = τ5
    have f5 : ∀ a k, a ≠ 322 → τ5 a k = τ4 a k := fun a k h => by rw [← hτ5, iu_ne (Or.inl h), iu_ne (Or.inl h), iu_ne (Or.inl h)]
    have c4 : τ5 322 4 = 0 := by rw [← hτ5, iu_ne (Or.inr (by omega)), iu_ne (Or.inr (by omega)), iu_eq]
    have c5 : τ5 322 5 = τ4 322 5 := by rw [← hτ5, iu_ne (Or.inr (by omega)), iu_ne (Or.inr (by omega)), iu_ne (Or.inr (by omega))]
    have c6 : τ5 322 6 = τ4 322 6 := by rw [← hτ5, iu_ne (Or.inr (by omega)), iu_ne (Or.inr (by omega)), iu_ne (Or.inr (by omega))]
    have c7 : τ5 322 7 = bg R s := by rw [← hτ5, iu_ne (Or.inr (by omega)), iu_eq]
    have c8 : τ5 322 8 = 0 := by rw [← hτ5, iu_eq]
    obtain ⟨k1, k2, k3, k4, k5⟩ := ev_ok hw a1 a2 b5 b6 z
    have hx5 : Cx R 343 326 323 τ5 := v1.frame (by omega) (fun a k h => f5 a k (by omega))
    refine ip_level (P := (0, τ4 322 5, τ4 322 6, bg R s, 0, fun _ _ => 0)) isPress_322 hw hx5 ⟨⟨c4, c5, c6, c7, c8⟩, fun i i0 i1 => by have i1 : i < 0 := i1; omega⟩ k1 (by show (0 : Int) < 10000; omega) a1 a2 k2.1 k2.2 k3 (fun τ6 w1 w2 w3 w4 => ?_)
    rw [ip_P]
    have hle : pcn (evP R s) = rs R 0 := (ev_ok hw (a := 0) (b := rs R 1) a1 a2 (by omega) (by have := hw.2.1.2.1; omega) z).2.2.2.2
    have hus : ∀ i, 0 ≤ i → i < rs R 0 → usC R (pC (lvl R s (lst R s (bg R s) 0 2000) (0, τ4 322 5, τ4 322 6, bg R s, 0, fun _ _ => 0)) i) = usC R (pC (evP R s) i) := fun i i0 i1 => ev_us i0 (by omega)
    have hok := k4.2.2.2.2.2.2
    have hu : ∀ i, 0 ≤ i → i < rs R 0 → 0 ≤ usC R (pC (evP R s) i) ∧ usC R (pC (evP R s) i) ≤ 30000 := fun i i0 i1 => by rw [← hus i i0 i1]; exact (usC_in hw (hok i i0 (by omega))).2.2.2.2.2.2.2.1
    have used : ∀ i (Q : Int → iMem → Prop), 0 ≤ i → i < rs R 0 → (ip (iz_Press_used 322 i) Q τ6 ↔ Q (usC R (pC (evP R s) i)) τ6) := fun i Q i0 i1 => by
      rw [← hus i i0 i1]
      exact ip_usedG isPress_322 hw w1.1 r_323 w2 (hok i i0 (by omega)) i0 (by omega) (by omega)
    -- it stays
    have hf6 : ∀ a j, a < 322 ∨ 366 < a → τ6 a j = τ2 a j := fun a j h => by
      have : (5 : Int).toNat = 5 := rfl
      rw [w4 a j (by unfold fw; omega), f5 a j (by omega), v2 a j (by omega), x3 a j (by omega)]
    have hI6 : InvX R τ6 := by
      refine hX2.b ⟨w1.2.1.z hw, w1.2.2.2.l, ?_, ?_⟩ hf6
      · rw [w2.1.2.1]; exact k4.2.1
      · rw [w2.1.2.2.1]; exact k4.2.2.1
    rw [ip_B]
    unfold iz_Press_difference
    rw [ip_B, used 0 _ (Int.le_refl _) (by omega), ip_B]
    have hu0 := hu 0 (Int.le_refl _) (by omega)
    have din := dfN_in (f := fun i => usC R (pC (evP R s) i)) hu (rs R 0).toNat (by omega)
    refine ip_mono (Q := fun v τ7 => τ7 = τ6 ∧ v = ((dfN (fun i => usC R (pC (evP R s) i)) (rs R 0).toNat).2, (dfN (fun i => usC R (pC (evP R s) i)) (rs R 0).toNat).1)) ?_ (fun v τ7 e => ?_)
    · refine ip_W (fun (q : Int × (Int × Int)) τ7 => τ7 = τ6 ∧ (1 ≤ q.2.2 ∧ q.2.2 ≤ rs R 0) ∧ (0 ≤ q.1 ∧ q.1 ≤ 100000) ∧ (0 ≤ q.2.1 ∧ q.2.1 ≤ 100000) ∧ q.1 = (dfN (fun i => usC R (pC (evP R s) i)) q.2.2.toNat).2 ∧ q.2.1 = (dfN (fun i => usC R (pC (evP R s) i)) q.2.2.toNat).1) (fun (q : Int × (Int × Int)) _ => (rs R 0 - q.2.2).toNat) ?_ ⟨rfl, ⟨Int.le_refl _, hS.1⟩, by (try dsimp only); omega, by (try dsimp only); omega, ?_, ?_⟩
      · intro q τ7 ⟨et, b1, b2, b3, b4, b5⟩
        obtain ⟨mxx, mnn, i⟩ := q
        subst et
        dsimp only at b1 b2 b3 b4 b5 ⊢
        rw [ip_B, ip_Gt, w2.1.1, k5]
        by_cases c : rs R 0 ≤ i
        · rw [ip_ifT c, ip_P]
          have ei : i = rs R 0 := by omega
          exact ⟨rfl, by rw [b4, b5, ei]⟩
        · have hui := hu i (by omega) (by omega)
          have en : dfN (fun i => usC R (pC (evP R s) i)) (i + 1).toNat = (if mnn ≤ usC R (pC (evP R s) i) then mnn else usC R (pC (evP R s) i), if usC R (pC (evP R s) i) ≤ mxx then mxx else usC R (pC (evP R s) i)) := by
            rw [show (i + 1).toNat = i.toNat + 1 by omega]
            show ((if (dfN (fun i => usC R (pC (evP R s) i)) i.toNat).1 ≤ usC R (pC (evP R s) (i.toNat : Int)) then (dfN (fun i => usC R (pC (evP R s) i)) i.toNat).1 else usC R (pC (evP R s) (i.toNat : Int))), (if usC R (pC (evP R s) (i.toNat : Int)) ≤ (dfN (fun i => usC R (pC (evP R s) i)) i.toNat).2 then (dfN (fun i => usC R (pC (evP R s) i)) i.toNat).2 else usC R (pC (evP R s) (i.toNat : Int)))) = _
            rw [← b4, ← b5, show ((i.toNat : Nat) : Int) = i by omega]
          rw [ip_ifF c, ip_B, used i _ (by omega) (by omega), ip_B, ip_max, ip_B, used i _ (by omega) (by omega), ip_B, ip_min, ip_A]
          refine ⟨⟨by omega, by omega⟩, ?_⟩
          rw [ip_B, ip_P, ip_P]
          simp only [Sum.elim_inl]
          refine ⟨⟨trivial, ⟨by omega, by omega⟩, ⟨by split <;> omega, by split <;> omega⟩, ⟨by split <;> omega, by split <;> omega⟩, ?_, ?_⟩, by omega⟩
          · rw [en]
            show _ = (if usC R (pC (evP R s) i) ≤ mxx then mxx else usC R (pC (evP R s) i))
            omega
          · rw [en]
            show _ = (if mnn ≤ usC R (pC (evP R s) i) then mnn else usC R (pC (evP R s) i))
            omega
      · show usC R (pC (evP R s) 0) = (if usC R (pC (evP R s) 0) ≤ 0 then 0 else usC R (pC (evP R s) 0))
        omega
      · show usC R (pC (evP R s) 0) = (if 100000 ≤ usC R (pC (evP R s) 0) then 100000 else usC R (pC (evP R s) 0))
        omega
    · rw [e.1, e.2, ip_A]
      refine ⟨⟨by (try dsimp only); omega, by (try dsimp only); omega⟩, ?_⟩
      rw [ip_P, ip_P, ev]
      exact ⟨rfl, hI6, fun a j z => (hf6 a j (by unfold zw at z; omega)).trans (hf2 a j z)⟩
end
