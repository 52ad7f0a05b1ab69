def jf_Math_max (x y : Int32) : qm_M Int32 := mP (if x < y then y else x)
def jf_Math_min (x y : Int32) : qm_M Int32 := mP (if y < x then y else x)
section
variable {X : qm_X} {own : String} {cc : ByteArray} {nL f lo : Nat} {il : List qm_I}
variable {α : Type} {pc pc' : Nat} {ρ : List (Option Value)} {st : List Value} {κ : α → qm_Mem → Prop}
theorem qb_mmax {g : Int32 → qm_M α} (hX : qm_ok X own cc nL f lo il) (k : Nat) {idx : Nat} {x y : Int32} (hd : qm_nth il k = some (pc, .invokestatic idx, 3, pc')) (hc : qm_CS own idx jy_Math_max prog_18_method_65_code 2 (some .int) 2) (hr : 1 ≤ f ∧ 21 ≤ lo) (h8 : (st.map fun v => v.category).sum ≤ 8) (h : ∀ r, qm_B X (g r) pc' ρ (.int r :: st) κ) : qm_B X (mB (jf_Math_max x y) g) pc ρ (.int y :: .int x :: st) κ := by
  cases qk_n hX hd
  obtain ⟨h1, h2, h4, h5, h6⟩ := hc
  have ht := qk_ts hX
  obtain ⟨r1, r2, r3, r4⟩ := qk_R hX
  intro σ z σ' e1 e2 H locs ls hH hS hL
  have e3 : g (if x < y then y else x) σ = some (z, σ') := e1
  exact va_mmax (qk_ex hX) (qk_by hX) hL.1.symm hX.1.2.2.2.1 (ht _ h1) (ht _ h2) (ht _ h4) (ht _ h5) (by rw [r1]; exact hr.1) (by rw [r2]; omega) r3 r4 (qk_d hX hd) (h _ σ z σ' e3 e2 H locs ls hH hS hL)
theorem qb_mmin {g : Int32 → qm_M α} (hX : qm_ok X own cc nL f lo il) (k : Nat) {idx : Nat} {x y : Int32} (hd : qm_nth il k = some (pc, .invokestatic idx, 3, pc')) (hc : qm_CS own idx jy_Math_min prog_18_method_69_code 2 (some .int) 2) (hr : 1 ≤ f ∧ 21 ≤ lo) (h8 : (st.map fun v => v.category).sum ≤ 8) (h : ∀ r, qm_B X (g r) pc' ρ (.int r :: st) κ) : qm_B X (mB (jf_Math_min x y) g) pc ρ (.int y :: .int x :: st) κ := by
  cases qk_n hX hd
  obtain ⟨h1, h2, h4, h5, h6⟩ := hc
  have ht := qk_ts hX
  obtain ⟨r1, r2, r3, r4⟩ := qk_R hX
  intro σ z σ' e1 e2 H locs ls hH hS hL
  have e3 : g (if y < x then y else x) σ = some (z, σ') := e1
  exact va_mmin (qk_ex hX) (qk_by hX) hL.1.symm hX.1.2.2.2.1 (ht _ h1) (ht _ h2) (ht _ h4) (ht _ h5) (by rw [r1]; exact hr.1) (by rw [r2]; omega) r3 r4 (qk_d hX hd) (h _ σ z σ' e3 e2 H locs ls hH hS hL)
end
