/-! ===== undo, keep, back ===== -/
theorem fl_set {p q j : Int} (hp : p = 0 ∨ p = 1) (hq : q = 0 ∨ q = 1) (hj : j = 0 ∨ j = 1) : ibOr (p + 2 * q) (ibShl 1 (ibAnd j 31)) = (if 0 = j then 1 else p) + 2 * (if 1 = j then 1 else q) := by
  rcases hp with rfl | rfl <;> rcases hq with rfl | rfl <;> rcases hj with rfl | rfl <;> decide +kernel
theorem fl_get {p q j : Int} (hp : p = 0 ∨ p = 1) (hq : q = 0 ∨ q = 1) (hj : j = 0 ∨ j = 1) : ibAnd (ibShr (p + 2 * q) (ibAnd j 31)) 1 = if j = 0 then p else q := by
  rcases hp with rfl | rfl <;> rcases hq with rfl | rfl <;> rcases hj with rfl | rfl <;> decide +kernel
section
variable {τ τ' : iMem} {R R' : aRun} {H : Nat → aRun} {n : Nat} {x : Int} {K : Int → aRun} {f : Int → Int} {L : Int} {T : Int → Int}
theorem ip_changed {Q : Unit → iMem → Prop} (h : Q () (iu (iu τ 0 9 0) 0 10 0)) : ip (iz_Top_changed 0) Q τ := by
  unfold iz_Top_changed
  rw [ip_B, ip_Pz]
  refine ⟨Or.inl rfl, ?_⟩
  rw [ip_B, ip_Pz]
  refine ⟨Or.inl rfl, ?_⟩
  rw [ip_P]
  exact h
theorem ca_undo (hI : cI R H n x K f L T τ) {S : Int → aRun → (Nat → aRun) → Nat → (Int → aRun) → (Int → Int) → Int → (Int → Int) → Prop} (h1 : n = 0 → S (-1) R H n K f L T) (h2 : ¬ n = 0 → S ((n - 1 : Nat) : Int) (H (n - 1)) H (n - 1) K f L T) : aC (iz_Top_undo 0) τ S := by
  have hI9 := hI
  obtain ⟨hS, hW, hC⟩ := hI
  have hn := hW.2.1.1
  by_cases c : n = 0
  · refine ac_same (v := -1) hI9 ?_ (h1 c)
    · unfold iz_Top_undo
      rw [t_3, ip_B, ip_Gt, hC.2.2.1.1, ip_ifF (by omega), ip_P]
      exact ⟨rfl, rfl⟩
  · have hwn : WF (H (n - 1)) := hW.2.1.2 (n - 1) (by omega)
    refine ac_of (v := ((n - 1 : Nat) : Int)) hS (R' := H (n - 1)) (H' := H) (n' := n - 1) (x' := (x - 1) % 10) ⟨hwn, ⟨by omega, fun i hi => hW.2.1.2 i (by omega)⟩, hW.2.2.1, hW.2.2.2⟩ ?_ (h2 c)
    · unfold iz_Top_undo
      rw [t_3, t_0, ip_B, ip_Gt, hC.2.2.1.1, ip_ifT (by omega), ip_B]
      refine ip_pop (by omega) hn hC.2.2.1 hwn.1.2 (fun τ1 u1 u2 u3 => ?_)
      rw [ip_B]
      refine ip_changed ?_
      have hf : ∀ a k, ¬ (a = 0 ∧ (k = 9 ∨ k = 10)) → iu (iu τ1 0 9 0) 0 10 0 a k = τ1 a k := fun a k z => by rw [iu_ne (by omega), iu_ne (by omega)]
      rw [ip_B, ip_Gt, hf _ _ (by omega), u1.1, ip_P]
      refine ⟨rfl, hC.next (u2.frame (fun a k _ _ => hf a k (by omega))) ?_ iu_eq (u1.frame (fun a k _ _ => hf a k (by omega))) (fun a k z => by rw [hf a k (by omega), u3 a k (by omega)]), fun a k z => by rw [hf a k (by omega), u3 a k (by omega)]⟩
      rw [iu_ne (Or.inr (by omega)), iu_eq]
theorem ca_keep (hI : cI R H n x K f L T τ) (j : Int) {S : Int → aRun → (Nat → aRun) → Nat → (Int → aRun) → (Int → Int) → Int → (Int → Int) → Prop} (h1 : 0 ≤ j ∧ j < 2 → S (rn R) R H n (fun i => if i = j then R else K i) (fun i => if i = j then 1 else f i) L T) (h2 : ¬ (0 ≤ j ∧ j < 2) → S (-1) R H n K f L T) : aC (iz_Top_keep 0 j) τ S := by
  have hI9 := hI
  obtain ⟨hS, hW, hC⟩ := hI
  have hw := hW.1
  by_cases c : 0 ≤ j ∧ j < 2
  · have hj : j = 0 ∨ j = 1 := by omega
    have hr := kp_rf c.1 c.2
    have f0 := (hW.2.2.1 0 (by omega) (by omega)).1
    have f1 := (hW.2.2.1 1 (by omega) (by omega)).1
    refine ac_of (v := rn R) hS (R' := R) (H' := H) (n' := n) (x' := x) (K' := fun i => if i = j then R else K i) (f' := fun i => if i = j then 1 else f i) (L' := L) (T' := T) ⟨hw, hW.2.1, fun i i0 i1 => ?_, hW.2.2.2⟩ ?_ (h1 c)
    · have := hW.2.2.1 i i0 i1
      show ((if i = j then (1 : Int) else f i) = 0 ∨ (if i = j then (1 : Int) else f i) = 1) ∧ ((if i = j then (1 : Int) else f i) = 1 → WF (if i = j then R else K i))
      by_cases z : i = j
      · rw [if_pos z, if_pos z]; exact ⟨Or.inr rfl, fun _ => hw⟩
      · rw [if_neg z, if_neg z]; exact this
    · unfold iz_Top_keep
      rw [ip_ifF (by omega), t_4, t_45, t_0, ip_ifT (by omega), ip_B, ip_Lr, t_45]
      refine ⟨⟨by omega, by omega⟩, ?_⟩
      rw [hr.1, ip_B]
      refine ip_copyFrom hr.2 isRun_1 (by omega) (by omega) hC.1.1 hw.1.2 (fun τ1 u1 u2 => ?_)
      rw [ip_B, ip_Gt, u2 0 5 (by omega), hC.2.2.2.1.1, fl_set f0 f1 hj, ip_B, ip_Pt, ip_B, ip_Gt, iu_ne (Or.inl (by omega)), u2 1 0 (by omega), hC.1.1.1, ip_P]
      have hf : ∀ a k, ¬ ((a = 0 ∧ k = 5) ∨ (46 + 3 * j.toNat ≤ a ∧ a ≤ 48 + 3 * j.toNat)) → iu τ1 0 5 ((if 0 = j then 1 else f 0) + 2 * (if 1 = j then 1 else f 1)) a k = τ a k := fun a k z => by rw [iu_ne (by omega), u2 a k (by omega)]
      refine ⟨rfl, ⟨hC.1.frame (fun a k z => hf a k (by omega)), hC.2.1.frame (fun a k z => hf a k (by omega)), hC.2.2.1.frame (fun a k _ _ => hf a k (by omega)), ⟨iu_eq, fun i i0 i1 hi => ?_⟩, hC.2.2.2.2.frame (hf _ _ (by omega)) (fun k => hf _ _ (by omega))⟩, fun a k z => hf a k (by omega)⟩
      (try dsimp only at hi ⊢)
      by_cases z : i = j
      · rw [if_pos z, z]
        exact u1.frame (fun a k a0 a1 => iu_ne (by omega))
      · rw [if_neg z] at hi
        rw [if_neg z]
        exact (hC.2.2.2.1.2 i i0 i1 hi).frame (fun a k a0 a1 => hf a k (by omega))
  · refine ac_same (v := -1) hI9 ?_ (h2 c)
    · unfold iz_Top_keep
      by_cases d : j < 0
      · rw [ip_ifT d, ip_P]; exact ⟨rfl, rfl⟩
      · rw [ip_ifF d, t_4, t_45, ip_ifF (by omega), ip_P]; exact ⟨rfl, rfl⟩
theorem ca_back (hI : cI R H n x K f L T τ) (j : Int) {S : Int → aRun → (Nat → aRun) → Nat → (Int → aRun) → (Int → Int) → Int → (Int → Int) → Prop} (h1 : 0 ≤ j ∧ j < 2 → f j = 0 → S (-2) R H n K f L T) (h2 : 0 ≤ j ∧ j < 2 → f j = 1 → S (rn (K j)) (K j) H 0 K f L T) (h3 : ¬ (0 ≤ j ∧ j < 2) → S (-1) R H n K f L T) : aC (iz_Top_back 0 j) τ S := by
  have hI9 := hI
  obtain ⟨hS, hW, hC⟩ := hI
  have hw := hW.1
  by_cases c : 0 ≤ j ∧ j < 2
  · have hj : j = 0 ∨ j = 1 := by omega
    have hr := kp_rf c.1 c.2
    have f0 := (hW.2.2.1 0 (by omega) (by omega)).1
    have f1 := (hW.2.2.1 1 (by omega) (by omega)).1
    have fj := hW.2.2.1 j c.1 c.2
    have eg : (if j = 0 then f 0 else f 1) = f j := by
      rcases hj with z | z
      · rw [z]; rfl
      · rw [z]; rfl
    by_cases d : f j = 0
    · refine ac_same (v := -2) hI9 ?_ (h1 c d)
      · unfold iz_Top_back
        rw [ip_ifF (by omega), t_4, t_45, ip_ifT (by omega), ip_B, ip_Gt, hC.2.2.2.1.1, fl_get f0 f1 hj, eg, ip_ifF (by omega), ip_P]
        exact ⟨rfl, rfl⟩
    · have d1 : f j = 1 := by omega
      have hwk := fj.2 d1
      refine ac_of (v := rn (K j)) hS (R' := K j) (H' := H) (n' := 0) (x' := x) (K' := K) (f' := f) (L' := L) (T' := T) ⟨hwk, ⟨by omega, fun i hi => absurd hi (Nat.not_lt_zero _)⟩, hW.2.2⟩ ?_ (h2 c d1)
      · unfold iz_Top_back
        rw [ip_ifF (by omega), t_4, t_45, t_0, t_3, ip_ifT (by omega), ip_B, ip_Gt, hC.2.2.2.1.1, fl_get f0 f1 hj, eg, ip_ifT (by omega), ip_B, ip_Lr, t_45]
        refine ⟨⟨by omega, by omega⟩, ?_⟩
        rw [hr.1, ip_B]
        refine ip_copyFrom isRun_1 hr.2 (by omega) (by omega) (hC.2.2.2.1.2 j c.1 c.2 d1) hwk.1.2 (fun τ1 u1 u2 => ?_)
        rw [ip_B, ip_Pt, ip_B]
        refine ip_changed ?_
        have hf : ∀ a k, ¬ ((a = 0 ∧ (k = 9 ∨ k = 10)) ∨ (a = 13 ∧ k = 2)) → iu (iu (iu τ1 13 2 0) 0 9 0) 0 10 0 a k = τ1 a k := fun a k z => by rw [iu_ne (by omega), iu_ne (by omega), iu_ne (by omega)]
        rw [ip_B, ip_Gt, hf _ _ (by omega), u1.1, ip_P]
        refine ⟨rfl, hC.next (u1.frame (fun a k _ _ => hf a k (by omega))) ?_ iu_eq ⟨?_, ?_, hC.2.2.1.2.2.1, fun i hi => absurd hi (Nat.not_lt_zero _)⟩ (fun a k z => by rw [hf a k (by omega), u2 a k (by omega)]), fun a k z => by rw [hf a k (by omega), u2 a k (by omega)]⟩
        · rw [iu_ne (Or.inr (by omega)), iu_eq]
        · rw [iu_ne (Or.inl (by omega)), iu_ne (Or.inl (by omega)), iu_eq]; rfl
        · rw [hf _ _ (by omega), u2 _ _ (by omega)]; exact hC.2.2.1.2.1
  · refine ac_same (v := -1) hI9 ?_ (h3 c)
    · unfold iz_Top_back
      by_cases d : j < 0
      · rw [ip_ifT d, ip_P]; exact ⟨rfl, rfl⟩
      · rw [ip_ifF d, t_4, t_45, ip_ifF (by omega), ip_P]; exact ⟨rfl, rfl⟩
end
