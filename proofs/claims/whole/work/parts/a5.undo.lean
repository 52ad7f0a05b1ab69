/-! ===== undo, keep, back ===== -/
theorem fl_set {p q j : Int} (hp : p = 0 ∨ p = 1) (hq : q = 0 ∨ q = 1) (hj : j = 0 ∨ j = 1) : ibOr (p + 2 * q) (ibShl 1 (ibAnd j 31)) = (if 0 = j then 1 else p) + 2 * (if 1 = j then 1 else q) := by
  rcases hp with rfl | rfl <;> rcases hq with rfl | rfl <;> rcases hj with rfl | rfl <;> decide +kernel
theorem fl_get {p q j : Int} (hp : p = 0 ∨ p = 1) (hq : q = 0 ∨ q = 1) (hj : j = 0 ∨ j = 1) : ibAnd (ibShr (p + 2 * q) (ibAnd j 31)) 1 = if j = 0 then p else q := by
  rcases hp with rfl | rfl <;> rcases hq with rfl | rfl <;> rcases hj with rfl | rfl <;> decide +kernel
section
variable {τ τ' : iMem} {R R' : aRun} {H : Nat → aRun} {n : Nat} {x : Int} {K : Int → aRun} {f : Int → Int} {L : Int} {T : Int → Int}
theorem ip_changed {Q : Unit → iMem → Prop} (h : Q () (iu (iu τ 0 9 0) 0 10 0)) : ip (iz_Top_changed 0) Q τ := by
  unfold iz_Top_changed
  rw [ip_B, ip_Pz]
  refine ⟨Or.inl rfl, ?_⟩
  rw [ip_B, ip_Pz]
  refine ⟨Or.inl rfl, ?_⟩
  rw [ip_P]
  exact h
theorem act_undo (hI : Inv τ) : act (iz_Top_undo 0) (iz_Model_undo 367) τ := by
  have hI' := hI
  obtain ⟨hS, R, H, n, x, K, f, L, T, hW, hC, hM⟩ := hI
  have hn := hW.2.1.1
  by_cases c : n = 0
  · refine act_same (v := -1) hI' ?_ ?_
    · unfold iz_Top_undo
      rw [t_3, ip_B, ip_Gt, hC.2.2.1.1, ip_ifF (by omega), ip_P]
      exact ⟨rfl, rfl⟩
    · unfold iz_Model_undo
      rw [ip_B, ip_Gt, hM.2.1.1, ip_ifF (by omega), ip_P]
      exact ⟨rfl, fun _ _ _ => rfl⟩
  · have hwn : WF (H (n - 1)) := hW.2.1.2 (n - 1) (by omega)
    refine act_of (v := ((n - 1 : Nat) : Int)) hS hM (R' := H (n - 1)) (H' := H) (n' := n - 1) (x' := (x - 1) % 10) ⟨hwn, ⟨by omega, fun i hi => hW.2.1.2 i (by omega)⟩, hW.2.2.1, hW.2.2.2⟩ ?_ (fun τ1 hM1 => ?_)
    · unfold iz_Top_undo
      rw [t_3, t_0, ip_B, ip_Gt, hC.2.2.1.1, ip_ifT (by omega), ip_B]
      refine ip_pop (by omega) hn hC.2.2.1 hwn.1.2 (fun τ1 u1 u2 u3 => ?_)
      rw [ip_B]
      refine ip_changed ?_
      have hf : ∀ a k, ¬ (a = 0 ∧ (k = 9 ∨ k = 10)) → iu (iu τ1 0 9 0) 0 10 0 a k = τ1 a k := fun a k z => by rw [iu_ne (by omega), iu_ne (by omega)]
      rw [ip_B, ip_Gt, hf _ _ (by omega), u1.1, ip_P]
      refine ⟨rfl, hC.next (u2.frame (fun a k _ _ => hf a k (by omega))) ?_ iu_eq (u1.frame (fun a k _ _ => hf a k (by omega))) (fun a k z => by rw [hf a k (by omega), u3 a k (by omega)]), fun a k z => by rw [hf a k (by omega), u3 a k (by omega)]⟩
      rw [iu_ne (Or.inr (by omega)), iu_eq]
    · unfold iz_Model_undo
      rw [ip_B, ip_Gt, hM1.2.1.1, ip_ifT (by omega), ip_B, ip_Gt, hM1.2.1.1, ip_A]
      refine ⟨⟨by omega, by omega⟩, ?_⟩
      rw [ip_B, ip_Pt, ip_B]
      refine ip_mono (Q := fun _ τ2 => (∀ k, 0 ≤ k → k < 265 → τ2 368 k = τ1 369 (265 * ((n : Int) - 1) + k)) ∧ (∀ a k, a ≠ 368 → τ2 a k = iu τ1 367 2 ((n : Int) - 1) a k)) ?_ (fun _ τ2 g => ?_)
      · refine ip_W (fun s τ2 => (0 ≤ s ∧ s ≤ 265) ∧ (∀ k, 0 ≤ k → k < s → τ2 368 k = τ1 369 (265 * ((n : Int) - 1) + k)) ∧ (∀ a k, a ≠ 368 → τ2 a k = iu τ1 367 2 ((n : Int) - 1) a k)) (fun s _ => (265 - s).toNat) ?_ ⟨⟨Int.le_refl _, by omega⟩, fun k k0 k1 => by omega, fun _ _ _ => rfl⟩
        intro s τ2 ⟨g1, g2, g3⟩
        by_cases d : 265 ≤ s
        · rw [ip_ifT d, ip_P]
          simp only [Sum.elim_inr]
          exact ⟨fun k k0 k1 => g2 k k0 (by omega), g3⟩
        · rw [ip_ifF d, ip_B, ip_Gt, g3 _ _ (by omega), iu_eq, ip_A]
          refine ⟨⟨by omega, by omega⟩, ?_⟩
          rw [ip_A]
          refine ⟨⟨by omega, by omega⟩, ?_⟩
          rw [ip_B, ip_Ld, m_1, l_369, g3 _ _ (by omega), iu_ne (Or.inl (by omega))]
          refine ⟨⟨by omega, by omega⟩, ?_⟩
          rw [ip_B, ip_St, m_0, l_368]
          refine ⟨⟨⟨by omega, by omega⟩, by omega⟩, ?_⟩
          rw [ip_A]
          refine ⟨⟨by omega, by omega⟩, ?_⟩
          rw [ip_B, ip_P, ip_P]
          simp only [Sum.elim_inl]
          refine ⟨⟨⟨by omega, by omega⟩, fun k k0 k1 => ?_, fun a k z => ?_⟩, by omega⟩
          · by_cases z : k = s
            · rw [z, iu_eq]
            · rw [iu_ne (Or.inr z)]; exact g2 k k0 (by omega)
          · rw [iu_ne (Or.inl z)]; exact g3 a k z
      · have hf : ∀ a k, ¬ (a = 368 ∨ (a = 367 ∧ k = 2)) → τ2 a k = τ1 a k := fun a k z => by rw [g.2 a k (by omega), iu_ne (by omega)]
        rw [ip_B, ip_Gt, g.2 _ _ (by omega), iu_eq, ip_P]
        refine ⟨by omega, ⟨?_, ⟨?_, fun i hi => (hM1.2.1.2 i (by omega)).frame (fun k => hf _ _ (by omega))⟩, hM1.2.2.1.frame (fun k => hf _ _ (by omega)) (fun k => hf _ _ (by omega)), hM1.2.2.2.frame (hf _ _ (by omega)) (fun k => hf _ _ (by omega))⟩, fun a k z => hf a k (by omega)⟩
        · refine (hM1.2.1.2 (n - 1) (by omega)).copy hwn.1.2 (fun k k0 k1 => ?_)
          rw [Int.zero_add, g.1 k k0 k1, show ((n - 1 : Nat) : Int) = (n : Int) - 1 by omega]
        · rw [g.2 _ _ (by omega), iu_eq]; omega
theorem act_keep (hI : Inv τ) (j : Int) : act (iz_Top_keep 0 j) (iz_Model_keep 367 j) τ := by
  have hI' := hI
  obtain ⟨hS, R, H, n, x, K, f, L, T, hW, hC, hM⟩ := hI
  have hw := hW.1
  by_cases c : 0 ≤ j ∧ j < 2
  · have hj : j = 0 ∨ j = 1 := by omega
    have hr := kp_rf c.1 c.2
    have f0 := (hW.2.2.1 0 (by omega) (by omega)).1
    have f1 := (hW.2.2.1 1 (by omega) (by omega)).1
    refine act_of (v := rn R) hS hM (R' := R) (H' := H) (n' := n) (x' := x) (K' := fun i => if i = j then R else K i) (f' := fun i => if i = j then 1 else f i) (L' := L) (T' := T) ⟨hw, hW.2.1, fun i i0 i1 => ?_, hW.2.2.2⟩ ?_ (fun τ1 hM1 => ?_)
    · have := hW.2.2.1 i i0 i1
      show ((if i = j then (1 : Int) else f i) = 0 ∨ (if i = j then (1 : Int) else f i) = 1) ∧ ((if i = j then (1 : Int) else f i) = 1 → WF (if i = j then R else K i))
      by_cases z : i = j
      · rw [if_pos z, if_pos z]; exact ⟨Or.inr rfl, fun _ => hw⟩
      · rw [if_neg z, if_neg z]; exact this
    · unfold iz_Top_keep
      rw [ip_ifF (by omega), t_4, t_45, t_0, ip_ifT (by omega), ip_B, ip_Lr, t_45]
      refine ⟨⟨by omega, by omega⟩, ?_⟩
      rw [hr.1, ip_B]
      refine ip_copyFrom hr.2 isRun_1 (by omega) (by omega) hC.1.1 hw.1.2 (fun τ1 u1 u2 => ?_)
      rw [ip_B, ip_Gt, u2 0 5 (by omega), hC.2.2.2.1.1, fl_set f0 f1 hj, ip_B, ip_Pt, ip_B, ip_Gt, iu_ne (Or.inl (by omega)), u2 1 0 (by omega), hC.1.1.1, ip_P]
      have hf : ∀ a k, ¬ ((a = 0 ∧ k = 5) ∨ (46 + 3 * j.toNat ≤ a ∧ a ≤ 48 + 3 * j.toNat)) → iu τ1 0 5 ((if 0 = j then 1 else f 0) + 2 * (if 1 = j then 1 else f 1)) a k = τ a k := fun a k z => by rw [iu_ne (by omega), u2 a k (by omega)]
      refine ⟨rfl, ⟨hC.1.frame (fun a k z => hf a k (by omega)), hC.2.1.frame (fun a k z => hf a k (by omega)), hC.2.2.1.frame (fun a k _ _ => hf a k (by omega)), ⟨iu_eq, fun i i0 i1 hi => ?_⟩, hC.2.2.2.2.frame (hf _ _ (by omega)) (fun k => hf _ _ (by omega))⟩, fun a k z => hf a k (by omega)⟩
      (try dsimp only at hi ⊢)
      by_cases z : i = j
      · rw [if_pos z, z]
        exact u1.frame (fun a k a0 a1 => iu_ne (by omega))
      · rw [if_neg z] at hi
        rw [if_neg z]
        exact (hC.2.2.2.1.2 i i0 i1 hi).frame (fun a k a0 a1 => hf a k (by omega))
    · unfold iz_Model_keep
      rw [ip_B, ip_in, if_neg (show ¬ (j < 0 ∨ 1 < j) by omega), ip_ifT (by omega), ip_B]
      refine ip_mono (Q := fun _ τ2 => (∀ k, 0 ≤ k → k < 265 → τ2 370 (265 * j + k) = τ1 368 k) ∧ (∀ a k, ¬ (a = 370 ∧ 265 * j ≤ k ∧ k < 265 * j + 265) → τ2 a k = τ1 a k)) ?_ (fun _ τ2 g => ?_)
      · refine ip_W (fun s τ2 => (0 ≤ s ∧ s ≤ 265) ∧ (∀ k, 0 ≤ k → k < s → τ2 370 (265 * j + k) = τ1 368 k) ∧ (∀ a k, ¬ (a = 370 ∧ 265 * j ≤ k ∧ k < 265 * j + 265) → τ2 a k = τ1 a k)) (fun s _ => (265 - s).toNat) ?_ ⟨⟨Int.le_refl _, by omega⟩, fun k k0 k1 => by omega, fun _ _ _ => rfl⟩
        intro s τ2 ⟨g1, g2, g3⟩
        by_cases d : 265 ≤ s
        · rw [ip_ifT d, ip_P]
          simp only [Sum.elim_inr]
          exact ⟨fun k k0 k1 => g2 k k0 (by omega), g3⟩
        · rw [ip_ifF d, ip_B, ip_Ld, m_0, l_368]
          refine ⟨⟨by omega, by omega⟩, ?_⟩
          rw [ip_A]
          refine ⟨⟨by omega, by omega⟩, ?_⟩
          rw [ip_A]
          refine ⟨⟨by omega, by omega⟩, ?_⟩
          rw [ip_B, ip_St, m_3, l_370]
          refine ⟨⟨⟨by omega, by omega⟩, by omega⟩, ?_⟩
          rw [ip_A]
          refine ⟨⟨by omega, by omega⟩, ?_⟩
          rw [ip_B, ip_P, ip_P]
          simp only [Sum.elim_inl]
          refine ⟨⟨⟨by omega, by omega⟩, fun k k0 k1 => ?_, fun a k z => ?_⟩, by omega⟩
          · by_cases z : k = s
            · rw [z, iu_eq, g3 _ _ (by omega)]
            · rw [iu_ne (Or.inr (by omega))]; exact g2 k k0 (by omega)
          · rw [iu_ne (by omega)]; exact g3 a k z
      · rw [ip_B, ip_Sz, m_4, l_371]
        refine ⟨⟨⟨⟨by omega, by omega⟩, by omega⟩, Or.inr rfl⟩, ?_⟩
        have hf : ∀ a k, ¬ ((a = 371 ∧ k = j) ∨ (a = 370 ∧ 265 * j ≤ k ∧ k < 265 * j + 265)) → iu τ2 371 j 1 a k = τ1 a k := fun a k z => by rw [iu_ne (by omega), g.2 a k (by omega)]
        have hR : RunM (iu τ2 371 j 1) 368 0 R := hM1.1.frame (fun k => hf _ _ (by omega))
        rw [ip_B, ip_blocks, rm_n hR, ip_P]
        refine ⟨rfl, ⟨hR, hM1.2.1.frame (hf _ _ (by omega)) (fun k => hf _ _ (by omega)), fun i i0 i1 => ?_, hM1.2.2.2.frame (hf _ _ (by omega)) (fun k => hf _ _ (by omega))⟩, fun a k z => hf a k (by omega)⟩
        show iu τ2 371 j 1 371 i = (if i = j then 1 else f i) ∧ ((if i = j then 1 else f i) = 1 → RunM (iu τ2 371 j 1) 370 (265 * i) (if i = j then R else K i))
        by_cases z : i = j
        · rw [if_pos z, if_pos z, z]
          refine ⟨iu_eq, fun _ => hM1.1.copy hw.1.2 (fun k k0 k1 => ?_)⟩
          rw [iu_ne (Or.inl (by omega)), g.1 k k0 k1, Int.zero_add]
        · rw [if_neg z, if_neg z]
          have hi := hM1.2.2.1 i i0 i1
          refine ⟨(hf _ _ (by omega)).trans hi.1, fun h1 => (hi.2 h1).copy ((hW.2.2.1 i i0 i1).2 h1).1.2 (fun k k0 k1 => hf _ _ (by omega))⟩
  · refine act_same (v := -1) hI' ?_ ?_
    · unfold iz_Top_keep
      by_cases d : j < 0
      · rw [ip_ifT d, ip_P]; exact ⟨rfl, rfl⟩
      · rw [ip_ifF d, t_4, t_45, ip_ifF (by omega), ip_P]; exact ⟨rfl, rfl⟩
    · unfold iz_Model_keep
      rw [ip_B, ip_in, if_pos (show j < 0 ∨ 1 < j by omega), ip_ifF (by omega), ip_P]
      exact ⟨rfl, fun _ _ _ => rfl⟩
theorem act_back (hI : Inv τ) (j : Int) : act (iz_Top_back 0 j) (iz_Model_back 367 j) τ := by
  have hI' := hI
  obtain ⟨hS, R, H, n, x, K, f, L, T, hW, hC, hM⟩ := hI
  have hw := hW.1
  by_cases c : 0 ≤ j ∧ j < 2
  · have hj : j = 0 ∨ j = 1 := by omega
    have hr := kp_rf c.1 c.2
    have f0 := (hW.2.2.1 0 (by omega) (by omega)).1
    have f1 := (hW.2.2.1 1 (by omega) (by omega)).1
    have fj := hW.2.2.1 j c.1 c.2
    have eg : (if j = 0 then f 0 else f 1) = f j := by
      rcases hj with z | z
      · rw [z]; rfl
      · rw [z]; rfl
    by_cases d : f j = 0
    · refine act_same (v := -2) hI' ?_ ?_
      · unfold iz_Top_back
        rw [ip_ifF (by omega), t_4, t_45, ip_ifT (by omega), ip_B, ip_Gt, hC.2.2.2.1.1, fl_get f0 f1 hj, eg, ip_ifF (by omega), ip_P]
        exact ⟨rfl, rfl⟩
      · unfold iz_Model_back
        rw [ip_B, ip_in, if_neg (show ¬ (j < 0 ∨ 1 < j) by omega), ip_ifT (by omega), ip_B, ip_Ld, m_4, l_371, (hM.2.2.1 j c.1 c.2).1]
        refine ⟨⟨by omega, by omega⟩, ?_⟩
        rw [ip_ifF (by omega), ip_P]
        exact ⟨rfl, fun _ _ _ => rfl⟩
    · have d1 : f j = 1 := by omega
      have hwk := fj.2 d1
      refine act_of (v := rn (K j)) hS hM (R' := K j) (H' := H) (n' := 0) (x' := x) (K' := K) (f' := f) (L' := L) (T' := T) ⟨hwk, ⟨by omega, fun i hi => absurd hi (Nat.not_lt_zero _)⟩, hW.2.2⟩ ?_ (fun τ1 hM1 => ?_)
      · unfold iz_Top_back
        rw [ip_ifF (by omega), t_4, t_45, t_0, t_3, ip_ifT (by omega), ip_B, ip_Gt, hC.2.2.2.1.1, fl_get f0 f1 hj, eg, ip_ifT (by omega), ip_B, ip_Lr, t_45]
        refine ⟨⟨by omega, by omega⟩, ?_⟩
        rw [hr.1, ip_B]
        refine ip_copyFrom isRun_1 hr.2 (by omega) (by omega) (hC.2.2.2.1.2 j c.1 c.2 d1) hwk.1.2 (fun τ1 u1 u2 => ?_)
        rw [ip_B, ip_Pt, ip_B]
        refine ip_changed ?_
        have hf : ∀ a k, ¬ ((a = 0 ∧ (k = 9 ∨ k = 10)) ∨ (a = 13 ∧ k = 2)) → iu (iu (iu τ1 13 2 0) 0 9 0) 0 10 0 a k = τ1 a k := fun a k z => by rw [iu_ne (by omega), iu_ne (by omega), iu_ne (by omega)]
        rw [ip_B, ip_Gt, hf _ _ (by omega), u1.1, ip_P]
        refine ⟨rfl, hC.next (u1.frame (fun a k _ _ => hf a k (by omega))) ?_ iu_eq ⟨?_, ?_, hC.2.2.1.2.2.1, fun i hi => absurd hi (Nat.not_lt_zero _)⟩ (fun a k z => by rw [hf a k (by omega), u2 a k (by omega)]), fun a k z => by rw [hf a k (by omega), u2 a k (by omega)]⟩
        · rw [iu_ne (Or.inr (by omega)), iu_eq]
        · rw [iu_ne (Or.inl (by omega)), iu_ne (Or.inl (by omega)), iu_eq]; rfl
        · rw [hf _ _ (by omega), u2 _ _ (by omega)]; exact hC.2.2.1.2.1
      · unfold iz_Model_back
        rw [ip_B, ip_in, if_neg (show ¬ (j < 0 ∨ 1 < j) by omega), ip_ifT (by omega), ip_B, ip_Ld, m_4, l_371, (hM1.2.2.1 j c.1 c.2).1]
        refine ⟨⟨by omega, by omega⟩, ?_⟩
        rw [ip_ifT (by omega), ip_B]
        refine ip_mono (Q := fun _ τ2 => (∀ k, 0 ≤ k → k < 265 → τ2 368 k = τ1 370 (265 * j + k)) ∧ (∀ a k, a ≠ 368 → τ2 a k = τ1 a k)) ?_ (fun _ τ2 g => ?_)
        · refine ip_W (fun s τ2 => (0 ≤ s ∧ s ≤ 265) ∧ (∀ k, 0 ≤ k → k < s → τ2 368 k = τ1 370 (265 * j + k)) ∧ (∀ a k, a ≠ 368 → τ2 a k = τ1 a k)) (fun s _ => (265 - s).toNat) ?_ ⟨⟨Int.le_refl _, by omega⟩, fun k k0 k1 => by omega, fun _ _ _ => rfl⟩
          intro s τ2 ⟨g1, g2, g3⟩
          by_cases d : 265 ≤ s
          · rw [ip_ifT d, ip_P]
            simp only [Sum.elim_inr]
            exact ⟨fun k k0 k1 => g2 k k0 (by omega), g3⟩
          · rw [ip_ifF d, ip_A]
            refine ⟨⟨by omega, by omega⟩, ?_⟩
            rw [ip_A]
            refine ⟨⟨by omega, by omega⟩, ?_⟩
            rw [ip_B, ip_Ld, m_3, l_370, g3 _ _ (by omega)]
            refine ⟨⟨by omega, by omega⟩, ?_⟩
            rw [ip_B, ip_St, m_0, l_368]
            refine ⟨⟨⟨by omega, by omega⟩, by omega⟩, ?_⟩
            rw [ip_A]
            refine ⟨⟨by omega, by omega⟩, ?_⟩
            rw [ip_B, ip_P, ip_P]
            simp only [Sum.elim_inl]
            refine ⟨⟨⟨by omega, by omega⟩, fun k k0 k1 => ?_, fun a k z => ?_⟩, by omega⟩
            · by_cases z : k = s
              · rw [z, iu_eq]
              · rw [iu_ne (Or.inr z)]; exact g2 k k0 (by omega)
            · rw [iu_ne (Or.inl z)]; exact g3 a k z
        · rw [ip_B, ip_Pt]
          have hf : ∀ a k, ¬ (a = 368 ∨ (a = 367 ∧ k = 2)) → iu τ2 367 2 0 a k = τ1 a k := fun a k z => by rw [iu_ne (by omega), g.2 a k (by omega)]
          have hR : RunM (iu τ2 367 2 0) 368 0 (K j) := ((hM1.2.2.1 j c.1 c.2).2 d1).copy hwk.1.2 (fun k k0 k1 => by rw [iu_ne (Or.inl (by omega)), Int.zero_add, g.1 k k0 k1])
          rw [ip_B, ip_blocks, rm_n hR, ip_P]
          exact ⟨rfl, ⟨hR, ⟨iu_eq, fun i hi => absurd hi (Nat.not_lt_zero _)⟩, hM1.2.2.1.frame (fun k => hf _ _ (by omega)) (fun k => hf _ _ (by omega)), hM1.2.2.2.frame (hf _ _ (by omega)) (fun k => hf _ _ (by omega))⟩, fun a k z => hf a k (by omega)⟩
  · refine act_same (v := -1) hI' ?_ ?_
    · unfold iz_Top_back
      by_cases d : j < 0
      · rw [ip_ifT d, ip_P]; exact ⟨rfl, rfl⟩
      · rw [ip_ifF d, t_4, t_45, ip_ifF (by omega), ip_P]; exact ⟨rfl, rfl⟩
    · unfold iz_Model_back
      rw [ip_B, ip_in, if_pos (show j < 0 ∨ 1 < j by omega), ip_ifF (by omega), ip_P]
      exact ⟨rfl, fun _ _ _ => rfl⟩
end
