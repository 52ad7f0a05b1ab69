/-! ===== the first memory, as numbers ===== -/
def qz_t0 : iMem := fun a k => (qz_s0 a k.toNat).toInt
theorem qz_rel : iRel qz_s0 qz_t0 := fun a k => by
  show (qz_s0 a ((k : Int)).toNat).toInt = _
  rw [Int.toNat_natCast]
theorem i8_all {P : Int → Prop} (h : P 0 ∧ P 1 ∧ P 2 ∧ P 3 ∧ P 4 ∧ P 5 ∧ P 6 ∧ P 7) : ∀ k, 0 ≤ k → k < 8 → P k := fun k k0 k1 => by
  have hk : k = 0 ∨ k = 1 ∨ k = 2 ∨ k = 3 ∨ k = 4 ∨ k = 5 ∨ k = 6 ∨ k = 7 := by omega
  obtain ⟨h0, h1, h2, h3, h4, h5, h6, h7⟩ := h
  rcases hk with rfl | rfl | rfl | rfl | rfl | rfl | rfl | rfl
  · exact h0
  · exact h1
  · exact h2
  · exact h3
  · exact h4
  · exact h5
  · exact h6
  · exact h7
theorem t0_78 (k : Int) : qz_t0 78 k = -1 := by
  have e : ∀ k, qz_s0 78 k = -1 := fun k => by
    unfold qz_s0
    rw [if_neg (by decide), if_neg (by decide +kernel), if_pos (Or.inl rfl)]
  show (qz_s0 78 k.toNat).toInt = -1
  rw [e]
  rfl
theorem t0_351 (k : Int) : qz_t0 351 k = -1 := by
  have e : ∀ k, qz_s0 351 k = -1 := fun k => by
    unfold qz_s0
    rw [if_neg (by decide), if_neg (by decide +kernel), if_pos (Or.inr rfl)]
  show (qz_s0 351 k.toNat).toInt = -1
  rw [e]
  rfl
theorem t0_St : StS qz_t0 := by
  refine ⟨i8_all (P := fun k => qz_t0 406 k = lwV k ∧ qz_t0 407 k = hiV k) ?_, i8_all (P := fun k => qz_t0 405 k = fiV k) ?_⟩
  · exact ⟨by decide +kernel, by decide +kernel, by decide +kernel, by decide +kernel, by decide +kernel, by decide +kernel, by decide +kernel, by decide +kernel⟩
  · exact ⟨by decide +kernel, by decide +kernel, by decide +kernel, by decide +kernel, by decide +kernel, by decide +kernel, by decide +kernel, by decide +kernel⟩
/-! ===== from numbers to words ===== -/
theorem t0_cI : cI R00 (fun _ => R00) 0 0 (fun _ => R00) (fun _ => 0) 0 (fun _ => 0) qz_t0 := by
  have r0 : rn R00 = 0 := rfl
  refine ⟨t0_St, ⟨R00_wf, ⟨by omega, fun i hi => absurd hi (Nat.not_lt_zero _)⟩, fun j _ _ => ⟨Or.inl rfl, fun _ => R00_wf⟩, ⟨by omega, by omega⟩, fun k _ _ => ⟨by omega, by omega⟩⟩, ⟨⟨⟨by decide +kernel, ?_, fun b w b0 b1 _ _ => by omega⟩, ?_, ⟨Or.inl (by decide +kernel), fun _ j _ _ => t0_78 j⟩, Or.inl (by decide +kernel), Or.inl (by decide +kernel), fun q => absurd q (by decide +kernel), fun q => absurd q (by decide +kernel)⟩, ⟨?_, ⟨Or.inl (by decide +kernel), fun _ j _ _ => t0_351 j⟩, by decide +kernel, by decide +kernel⟩, ⟨by decide +kernel, by decide +kernel, ⟨by omega, by omega⟩, fun i hi => absurd hi (Nat.not_lt_zero _)⟩, ⟨by decide +kernel, fun j _ _ q => absurd (show (0 : Int) = 1 from q) (by decide)⟩, by decide +kernel, fun k _ _ => by omega⟩⟩
  · exact i8_all (P := fun k => qz_t0 (1 + 1) k = rs R00 k) ⟨by decide +kernel, by decide +kernel, by decide +kernel, by decide +kernel, by decide +kernel, by decide +kernel, by decide +kernel, by decide +kernel⟩
  · exact ⟨by decide +kernel, by decide +kernel, by decide +kernel⟩
  · exact ⟨by decide +kernel, by decide +kernel, by decide +kernel⟩
