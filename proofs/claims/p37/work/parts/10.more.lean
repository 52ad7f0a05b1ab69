theorem qw_0 {as : List (Option Value)} : qm_wk as [] := by cases as <;> exact trivial
theorem qw_n {a : Option Value} {as bs : List (Option Value)} (h : qm_wk as bs) : qm_wk (a :: as) (none :: bs) := ⟨Or.inl rfl, h⟩
theorem qw_s {a : Option Value} {as bs : List (Option Value)} (h : qm_wk as bs) : qm_wk (a :: as) (a :: bs) := ⟨Or.inr rfl, h⟩
theorem qm_kfl {t k t' : Nat} (ht : 10 ≤ t) (h : ∀ a, a < qm_N → (qm_kd a).1 = t → (qm_kd (qm_rf a k)).1 = t') (a : Nat) (ha : (qm_kd a).1 = t) : (qm_kd (qm_rf a k)).1 = t' := h a (qm_own a (by omega)) ha
theorem ka_4 {a : Nat} (h : (qm_kd a).1 = 4) : ∀ j, j < (qm_kd a).2 → (qm_kd (qm_rf a j)).1 = 1 :=
  (by decide +kernel : ∀ a, a < 500 → (qm_kd a).1 = 4 → ∀ j, j < (qm_kd a).2 → (qm_kd (qm_rf a j)).1 = 1) a (qm_near (by decide) h) h
theorem ka_5 {a : Nat} (h : (qm_kd a).1 = 5) : ∀ j, j < (qm_kd a).2 → (qm_kd (qm_rf a j)).1 = 14 :=
  (by decide +kernel : ∀ a, a < 500 → (qm_kd a).1 = 5 → ∀ j, j < (qm_kd a).2 → (qm_kd (qm_rf a j)).1 = 14) a (qm_near (by decide) h) h
section QB
variable {X : qm_X} {own : String} {cc : ByteArray} {nL f lo : Nat} {il : List qm_I}
variable {α : Type} {m : qm_M α} {pc pc' : Nat} {ρ : List (Option Value)} {st : List Value} {κ : α → qm_Mem → Prop}
theorem qb_loopw {S : Type} {step : S → qm_M (S ⊕ α)} (s0 : S) (ρ' : S → List (Option Value)) (hw : qm_wk ρ (ρ' s0)) (h : ∀ s, qm_B X (step s) pc (ρ' s) st (fun r σ1 => Sum.elim (fun s' => qm_J X pc (ρ' s') st σ1) (fun o => κ o σ1) r)) : qm_B X (mW step s0) pc ρ st κ := qb_wk hw (qb_loop s0 ρ' h)
theorem qb_istore_nL (hX : qm_ok X own cc nL f lo il) (k : Nat) {i : Fin 4} {x : Int32} {g : Int32 → qm_M α} (ρ' : Int32 → List (Option Value)) (hd : qm_nth il k = some (pc, .istore_n i, 1, pc')) (hi : (i : Nat) < nL) (hr : ∀ y, ρ.set (i : Nat) (some (.int y)) = ρ' y) (h : ∀ y, qm_B X (g y) pc' (ρ' y) st κ) : qm_B X (mB (mP x) g) pc ρ (.int x :: st) κ :=
  qb_istore_n hX k (ρ' x) hd hi (hr x) (h x)
theorem qb_istoreL (hX : qm_ok X own cc nL f lo il) (k : Nat) {i : Nat} {x : Int32} {g : Int32 → qm_M α} (ρ' : Int32 → List (Option Value)) (hd : qm_nth il k = some (pc, .istore i, 2, pc')) (hi : i < nL) (hr : ∀ y, ρ.set i (some (.int y)) = ρ' y) (h : ∀ y, qm_B X (g y) pc' (ρ' y) st κ) : qm_B X (mB (mP x) g) pc ρ (.int x :: st) κ :=
  qb_istore hX k (ρ' x) hd hi (hr x) (h x)
theorem qb_zret1 (hX : qm_ok X own cc nL f lo il) (k : Nat) {x r0 : Int32} {σ0 : qm_Mem} {a : α} (hd : qm_nth il k = some (pc, .ireturn, 1, pc')) (hR : qm_RI X r0 σ0 .boolean) (hz : x = 0 ∨ x = 1) (h : ∀ σ, κ a σ → x = r0 ∧ σ = σ0) : qm_B X (mP a) pc ρ [.int x] κ := by
  intro σ b σ' h1 h2
  cases h1
  refine qj_ret hX hd hR ?_ (h _ h2)
  rcases hz with q | q
  · rw [q]; rfl
  · rw [q]; rfl
theorem qb_i2l (hX : qm_ok X own cc nL f lo il) (k : Nat) {x : Int32} (hd : qm_nth il k = some (pc, .i2l, 1, pc')) (h : qm_B X m pc' ρ (.long x.toInt64 :: st) κ) : qm_B X m pc ρ (.int x :: st) κ := by
  cases qk_n hX hd
  exact qb_0 (fun H locs ls hL hh => lv_i2l (qk_ex hX) (qk_by hX) (qk_d hX hd) rfl (hh ls hL)) h
theorem qb_lconst (hX : qm_ok X own cc nL f lo il) (k : Nat) {n : Fin 2} (v : Int64) (hd : qm_nth il k = some (pc, .lconst n, 1, pc')) (hv : Int64.ofNat (n : Nat) = v) (h : qm_B X m pc' ρ (.long v :: st) κ) : qm_B X m pc ρ st κ := by
  cases qk_n hX hd
  exact qb_0 (fun H locs ls hL hh => lv_lconst (qk_ex hX) (qk_by hX) (qk_d hX hd) hv (hh ls hL)) h
theorem qb_ldc2w (hX : qm_ok X own cc nL f lo il) (k : Nat) {n : Nat} (v : Int64) (hd : qm_nth il k = some (pc, .ldc2_w n, 3, pc')) (hw : Cond.constantLong own n v ∈ qm_tb) (h : qm_B X m pc' ρ (.long v :: st) κ) : qm_B X m pc ρ st κ := by
  cases qk_n hX hd
  exact qb_0 (fun H locs ls hL hh => lv_ldc2 (qk_ex hX) (qk_by hX) (qk_ow hX) (qk_ts hX _ hw) (qk_d hX hd) (hh ls hL)) h
end QB
