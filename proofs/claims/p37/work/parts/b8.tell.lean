section
variable {τ τ' : iMem} {R R' : aRun} {H : Nat → aRun} {n : Nat} {x : Int} {K : Int → aRun} {f : Int → Int} {L : Int} {T : Int → Int}
/-- a TEXT that is a RUN's -/
theorem ca_tell (hI : cI R H n x K f L T τ) {S : Int → aRun → (Nat → aRun) → Nat → (Int → aRun) → (Int → Int) → Int → (Int → Int) → Prop} (hA : prA L T = Sum.inr R') (h : S (np R') R' H 0 K f 0 T) : aC (iz_Top_tell 0) τ S := by
  obtain ⟨hS, hW, hC⟩ := hI
  have hL := hW.2.2.2.1
  have hnil : ∀ (H : Nat → aRun), PaW H 0 := fun H => ⟨by omega, fun i hi => absurd hi (Nat.not_lt_zero _)⟩
  have hT0 : TaW 0 T := ⟨⟨by omega, by omega⟩, fun k k0 k1 => by omega⟩
  have hw' := prA_ok hL.2 hL.1 hA
  have hnp := np_ge hw'
  refine ac_of (v := np R') hS (R' := R') (H' := H) (n' := 0) (x' := x) (K' := K) (f' := f) (L' := 0) (T' := T) ⟨hw', hnil H, hW.2.2.1, hT0⟩ ?_ h
  · unfold iz_Top_tell
    rw [t_2, t_1, t_0, t_3, u_1, ip_B]
    refine ip_read hW.2.2.2 hC.2.2.2.2 hS (fun v τ1 hv hf => ?_)
    rcases hv with ⟨g', v1, v2, v3⟩ | ⟨R'', v1, v2, v3⟩
    · rw [hA] at v1; cases v1
    · rw [hA] at v1
      cases v1
      rw [ip_B, ip_Pt, ip_ifF (by omega), ip_B]
      refine ip_copyFrom isRun_1 isRun_7 (by omega) (by omega) (v3.frame (fun a k _ _ => iu_ne (Or.inl (by omega)))) hw'.1.2 (fun τ2 u1 u2 => ?_)
      rw [ip_B, ip_Pt, ip_B]
      refine ip_changed ?_
      rw [ip_P]
      have hf1 : ∀ a k, ¬ ((a = 0 ∧ (k = 9 ∨ k = 10)) ∨ (a = 13 ∧ k = 2)) → iu (iu (iu τ2 13 2 0) 0 9 0) 0 10 0 a k = τ2 a k := fun a k z => by rw [iu_ne (by omega), iu_ne (by omega), iu_ne (by omega)]
      have hf2 : ∀ a k, ¬ ((a = 0 ∧ (k = 9 ∨ k = 10)) ∨ (a = 13 ∧ k = 2) ∨ (1 ≤ a ∧ a ≤ 3) ∨ (6 ≤ a ∧ a ≤ 12) ∨ (a = 4 ∧ k = 1)) → iu (iu (iu τ2 13 2 0) 0 9 0) 0 10 0 a k = τ a k := fun a k z => by rw [hf1 a k (by omega), u2 a k (by omega), iu_ne (by omega), hf a k (by omega)]
      have e9 : iu (iu (iu τ2 13 2 0) 0 9 0) 0 10 0 0 9 = 0 := by rw [iu_ne (Or.inr (by omega)), iu_eq]
      obtain ⟨⟨g1, g2, g3, g4, g5, g6, g7⟩, gB, gP, gK, gT⟩ := hC
      refine ⟨v2, ⟨⟨u1.frame (fun a k _ _ => hf1 a k (by omega)), ?_, g3.frame (hf2 _ _ (by omega)) (fun k => hf2 _ _ (by omega)), Or.inl e9, Or.inl iu_eq, fun q => by omega, fun q => absurd q (by rw [iu_eq]; omega)⟩, gB.frame (fun a k z => hf2 a k (by omega)), ⟨?_, ?_, gP.2.2.1, fun i hi => absurd hi (Nat.not_lt_zero _)⟩, gK.frame (hf2 _ _ (by omega)) (fun a k _ _ => hf2 a k (by omega)), ?_, fun k k0 k1 => by omega⟩, fun a k z => hf2 a k (by omega)⟩
      · unfold FlZ at g2 ⊢
        rw [hf2 _ _ (by omega), hf2 _ _ (by omega), hf2 _ _ (by omega)]
        exact g2
      · rw [iu_ne (Or.inl (by omega)), iu_ne (Or.inl (by omega)), iu_eq]; rfl
      · rw [hf2 _ _ (by omega)]; exact gP.2.1
      · rw [hf1 _ _ (by omega), u2 _ _ (by omega), iu_eq]
end
