section QB
variable {X : qm_X} {own : String} {cc : ByteArray} {nL f lo : Nat} {il : List qm_I}
variable {α : Type} {m : qm_M α} {pc pc' : Nat} {ρ : List (Option Value)} {st : List Value} {κ : α → qm_Mem → Prop}
theorem qb_iadd (hX : qm_ok X own cc nL f lo il) (k : Nat) {x y : Int32} (hd : qm_nth il k = some (pc, .iadd, 1, pc')) (h : qm_B X m pc' ρ (.int (x + y) :: st) κ) : qm_B X m pc ρ (.int y :: .int x :: st) κ := by
  cases qk_n hX hd
  exact qb_0 (fun H locs ls hL hh => lv_iadd (qk_ex hX) (qk_by hX) (qk_d hX hd) (hh ls hL)) h
theorem qb_isub (hX : qm_ok X own cc nL f lo il) (k : Nat) {x y : Int32} (hd : qm_nth il k = some (pc, .isub, 1, pc')) (h : qm_B X m pc' ρ (.int (x - y) :: st) κ) : qm_B X m pc ρ (.int y :: .int x :: st) κ := by
  cases qk_n hX hd
  exact qb_0 (fun H locs ls hL hh => lv_isub (qk_ex hX) (qk_by hX) (qk_d hX hd) (hh ls hL)) h
theorem qb_imul (hX : qm_ok X own cc nL f lo il) (k : Nat) {x y : Int32} (hd : qm_nth il k = some (pc, .imul, 1, pc')) (h : qm_B X m pc' ρ (.int (x * y) :: st) κ) : qm_B X m pc ρ (.int y :: .int x :: st) κ := by
  cases qk_n hX hd
  exact qb_0 (fun H locs ls hL hh => lv_imul (qk_ex hX) (qk_by hX) (qk_d hX hd) (hh ls hL)) h
theorem qb_iand (hX : qm_ok X own cc nL f lo il) (k : Nat) {x y : Int32} (hd : qm_nth il k = some (pc, .iand, 1, pc')) (h : qm_B X m pc' ρ (.int (x &&& y) :: st) κ) : qm_B X m pc ρ (.int y :: .int x :: st) κ := by
  cases qk_n hX hd
  exact qb_0 (fun H locs ls hL hh => lv_iand (qk_ex hX) (qk_by hX) (qk_d hX hd) (hh ls hL)) h
theorem qb_ior (hX : qm_ok X own cc nL f lo il) (k : Nat) {x y : Int32} (hd : qm_nth il k = some (pc, .ior, 1, pc')) (h : qm_B X m pc' ρ (.int (x ||| y) :: st) κ) : qm_B X m pc ρ (.int y :: .int x :: st) κ := by
  cases qk_n hX hd
  exact qb_0 (fun H locs ls hL hh => lv_ior (qk_ex hX) (qk_by hX) (qk_d hX hd) (hh ls hL)) h
theorem qb_ishl (hX : qm_ok X own cc nL f lo il) (k : Nat) {x y : Int32} (hd : qm_nth il k = some (pc, .ishl, 1, pc')) (h : qm_B X m pc' ρ (.int (x <<< (y &&& 31)) :: st) κ) : qm_B X m pc ρ (.int y :: .int x :: st) κ := by
  cases qk_n hX hd
  exact qb_0 (fun H locs ls hL hh => lv_ishl (qk_ex hX) (qk_by hX) (qk_d hX hd) (hh ls hL)) h
theorem qb_ishr (hX : qm_ok X own cc nL f lo il) (k : Nat) {x y : Int32} (hd : qm_nth il k = some (pc, .ishr, 1, pc')) (h : qm_B X m pc' ρ (.int (x >>> (y &&& 31)) :: st) κ) : qm_B X m pc ρ (.int y :: .int x :: st) κ := by
  cases qk_n hX hd
  exact qb_0 (fun H locs ls hL hh => lv_ishr (qk_ex hX) (qk_by hX) (qk_d hX hd) (hh ls hL)) h
theorem qb_iushr (hX : qm_ok X own cc nL f lo il) (k : Nat) {x y : Int32} (hd : qm_nth il k = some (pc, .iushr, 1, pc')) (h : qm_B X m pc' ρ (.int ((x.toUInt32 >>> (y.toUInt32 &&& Int32.toUInt32 31)).toInt32) :: st) κ) : qm_B X m pc ρ (.int y :: .int x :: st) κ := by
  cases qk_n hX hd
  exact qb_0 (fun H locs ls hL hh => lv_iushr (qk_ex hX) (qk_by hX) (qk_d hX hd) rfl (hh ls hL)) h
theorem qb_i2b (hX : qm_ok X own cc nL f lo il) (k : Nat) {x : Int32} (hd : qm_nth il k = some (pc, .i2b, 1, pc')) (h : qm_B X m pc' ρ (.int x.toInt8.toInt32 :: st) κ) : qm_B X m pc ρ (.int x :: st) κ := by
  cases qk_n hX hd
  exact qb_0 (fun H locs ls hL hh => lv_i2b (qk_ex hX) (qk_by hX) (qk_d hX hd) rfl (hh ls hL)) h
theorem qb_dup (hX : qm_ok X own cc nL f lo il) (k : Nat) {v : Value} (hd : qm_nth il k = some (pc, .dup, 1, pc')) (hv : v.category = 1) (h : qm_B X m pc' ρ (v :: v :: st) κ) : qm_B X m pc ρ (v :: st) κ := by
  cases qk_n hX hd
  exact qb_0 (fun H locs ls hL hh => lv_dup (qk_ex hX) (qk_by hX) (qk_d hX hd) hv (hh ls hL)) h
theorem qb_dup2 (hX : qm_ok X own cc nL f lo il) (k : Nat) {v w : Value} (hd : qm_nth il k = some (pc, .dup2, 1, pc')) (hv : v.category = 1) (hw : w.category = 1) (h : qm_B X m pc' ρ (v :: w :: v :: w :: st) κ) : qm_B X m pc ρ (v :: w :: st) κ := by
  cases qk_n hX hd
  exact qb_0 (fun H locs ls hL hh => lv_dup2_11 (qk_ex hX) (qk_by hX) (qk_d hX hd) hv hw (hh ls hL)) h
theorem qb_pop (hX : qm_ok X own cc nL f lo il) (k : Nat) {v : Value} (hd : qm_nth il k = some (pc, .pop, 1, pc')) (hv : v.category = 1) (h : qm_B X m pc' ρ st κ) : qm_B X m pc ρ (v :: st) κ := by
  cases qk_n hX hd
  exact qb_0 (fun H locs ls hL hh => lv_pop (qk_ex hX) (qk_by hX) (qk_d hX hd) hv (hh ls hL)) h
/-- divisions -/
theorem qb_idiv (hX : qm_ok X own cc nL f lo il) (k : Nat) {x y : Int32} {g : Int32 → qm_M α} (hd : qm_nth il k = some (pc, .idiv, 1, pc')) (h : ∀ z, qm_B X (g z) pc' ρ (.int z :: st) κ) : qm_B X (mB (mDv x y) g) pc ρ (.int y :: .int x :: st) κ := by
  cases qk_n hX hd
  intro σ a σ' h1 h2 H locs ls hH hS hL
  obtain ⟨z, σ1, e1, e2⟩ := mB_some h1
  unfold mDv at e1
  split at e1
  · cases e1
  · rename_i hy
    cases e1
    exact lv_idiv (qk_ex hX) (qk_by hX) (qk_d hX hd) hy (h _ σ a σ' e2 h2 H locs ls hH hS hL)
theorem qb_irem (hX : qm_ok X own cc nL f lo il) (k : Nat) {x y : Int32} {g : Int32 → qm_M α} (hd : qm_nth il k = some (pc, .irem, 1, pc')) (h : ∀ z, qm_B X (g z) pc' ρ (.int z :: st) κ) : qm_B X (mB (mRm x y) g) pc ρ (.int y :: .int x :: st) κ := by
  cases qk_n hX hd
  intro σ a σ' h1 h2 H locs ls hH hS hL
  obtain ⟨z, σ1, e1, e2⟩ := mB_some h1
  unfold mRm at e1
  split at e1
  · cases e1
  · rename_i hy
    cases e1
    exact lv_irem (qk_ex hX) (qk_by hX) (qk_d hX hd) hy (h _ σ a σ' e2 h2 H locs ls hH hS hL)
theorem qb_ite {c : Prop} {hc : Decidable c} {m1 m2 : qm_M α} (h1 : c → qm_B X m1 pc ρ st κ) (h2 : ¬ c → qm_B X m2 pc ρ st κ) : qm_B X (@ite _ c hc m1 m2) pc ρ st κ := by
  split
  · exact h1 (by assumption)
  · exact h2 (by assumption)
theorem qb_ifeq (hX : qm_ok X own cc nL f lo il) (k : Nat) {x : Int32} {m1 m2 : qm_M α} {off : Int} (tgt : Nat) (hd : qm_nth il k = some (pc, .ifCond .eq off, 3, pc')) (ht : (pc : Int) + off = (tgt : Int)) (h1 : qm_B X m1 tgt ρ st κ) (h2 : qm_B X m2 pc' ρ st κ) : qm_B X (if x = 0 then m1 else m2) pc ρ (.int x :: st) κ := by
  cases qk_n hX hd
  refine qb_ite (fun c => ?_) (fun c => ?_)
  · exact qb_0 (fun H locs ls hL hh => lv_if_eq (qk_ex hX) (qk_by hX) (qk_d hX hd) ht (fun _ => hh ls hL) (fun q => by first | exact absurd c q | exact absurd q c | (simp at c q; exact absurd c (by first | exact Int32.not_le.mpr q | exact Int32.not_lt.mpr q)))) h1
  · exact qb_0 (fun H locs ls hL hh => lv_if_eq (qk_ex hX) (qk_by hX) (qk_d hX hd) ht (fun q => by first | exact absurd q c | exact absurd c q | (simp at c q; exact absurd q (by first | exact Int32.not_le.mpr c | exact Int32.not_lt.mpr c))) (fun _ => hh ls hL)) h2
theorem qb_ifne (hX : qm_ok X own cc nL f lo il) (k : Nat) {x : Int32} {m1 m2 : qm_M α} {off : Int} (tgt : Nat) (hd : qm_nth il k = some (pc, .ifCond .ne off, 3, pc')) (ht : (pc : Int) + off = (tgt : Int)) (h1 : qm_B X m1 tgt ρ st κ) (h2 : qm_B X m2 pc' ρ st κ) : qm_B X (if ¬ x = 0 then m1 else m2) pc ρ (.int x :: st) κ := by
  cases qk_n hX hd
  refine qb_ite (fun c => ?_) (fun c => ?_)
  · exact qb_0 (fun H locs ls hL hh => lv_if_ne (qk_ex hX) (qk_by hX) (qk_d hX hd) ht (fun _ => hh ls hL) (fun q => by first | exact absurd c q | exact absurd q c | (simp at c q; exact absurd c (by first | exact Int32.not_le.mpr q | exact Int32.not_lt.mpr q)))) h1
  · exact qb_0 (fun H locs ls hL hh => lv_if_ne (qk_ex hX) (qk_by hX) (qk_d hX hd) ht (fun q => by first | exact absurd q c | exact absurd c q | (simp at c q; exact absurd q (by first | exact Int32.not_le.mpr c | exact Int32.not_lt.mpr c))) (fun _ => hh ls hL)) h2
theorem qb_iflt (hX : qm_ok X own cc nL f lo il) (k : Nat) {x : Int32} {m1 m2 : qm_M α} {off : Int} (tgt : Nat) (hd : qm_nth il k = some (pc, .ifCond .lt off, 3, pc')) (ht : (pc : Int) + off = (tgt : Int)) (h1 : qm_B X m1 tgt ρ st κ) (h2 : qm_B X m2 pc' ρ st κ) : qm_B X (if x < 0 then m1 else m2) pc ρ (.int x :: st) κ := by
  cases qk_n hX hd
  refine qb_ite (fun c => ?_) (fun c => ?_)
  · exact qb_0 (fun H locs ls hL hh => lv_if_lt (qk_ex hX) (qk_by hX) (qk_d hX hd) ht (fun _ => hh ls hL) (fun q => by first | exact absurd c q | exact absurd q c | (simp at c q; exact absurd c (by first | exact Int32.not_le.mpr q | exact Int32.not_lt.mpr q)))) h1
  · exact qb_0 (fun H locs ls hL hh => lv_if_lt (qk_ex hX) (qk_by hX) (qk_d hX hd) ht (fun q => by first | exact absurd q c | exact absurd c q | (simp at c q; exact absurd q (by first | exact Int32.not_le.mpr c | exact Int32.not_lt.mpr c))) (fun _ => hh ls hL)) h2
theorem qb_ifge (hX : qm_ok X own cc nL f lo il) (k : Nat) {x : Int32} {m1 m2 : qm_M α} {off : Int} (tgt : Nat) (hd : qm_nth il k = some (pc, .ifCond .ge off, 3, pc')) (ht : (pc : Int) + off = (tgt : Int)) (h1 : qm_B X m1 tgt ρ st κ) (h2 : qm_B X m2 pc' ρ st κ) : qm_B X (if 0 ≤ x then m1 else m2) pc ρ (.int x :: st) κ := by
  cases qk_n hX hd
  refine qb_ite (fun c => ?_) (fun c => ?_)
  · exact qb_0 (fun H locs ls hL hh => lv_if_ge (qk_ex hX) (qk_by hX) (qk_d hX hd) ht (fun _ => hh ls hL) (fun q => by first | exact absurd c q | exact absurd q c | (simp at c q; exact absurd c (by first | exact Int32.not_le.mpr q | exact Int32.not_lt.mpr q)))) h1
  · exact qb_0 (fun H locs ls hL hh => lv_if_ge (qk_ex hX) (qk_by hX) (qk_d hX hd) ht (fun q => by first | exact absurd q c | exact absurd c q | (simp at c q; exact absurd q (by first | exact Int32.not_le.mpr c | exact Int32.not_lt.mpr c))) (fun _ => hh ls hL)) h2
theorem qb_ifgt (hX : qm_ok X own cc nL f lo il) (k : Nat) {x : Int32} {m1 m2 : qm_M α} {off : Int} (tgt : Nat) (hd : qm_nth il k = some (pc, .ifCond .gt off, 3, pc')) (ht : (pc : Int) + off = (tgt : Int)) (h1 : qm_B X m1 tgt ρ st κ) (h2 : qm_B X m2 pc' ρ st κ) : qm_B X (if 0 < x then m1 else m2) pc ρ (.int x :: st) κ := by
  cases qk_n hX hd
  refine qb_ite (fun c => ?_) (fun c => ?_)
  · exact qb_0 (fun H locs ls hL hh => lv_if_gt (qk_ex hX) (qk_by hX) (qk_d hX hd) ht (fun _ => hh ls hL) (fun q => by first | exact absurd c q | exact absurd q c | (simp at c q; exact absurd c (by first | exact Int32.not_le.mpr q | exact Int32.not_lt.mpr q)))) h1
  · exact qb_0 (fun H locs ls hL hh => lv_if_gt (qk_ex hX) (qk_by hX) (qk_d hX hd) ht (fun q => by first | exact absurd q c | exact absurd c q | (simp at c q; exact absurd q (by first | exact Int32.not_le.mpr c | exact Int32.not_lt.mpr c))) (fun _ => hh ls hL)) h2
theorem qb_ifle (hX : qm_ok X own cc nL f lo il) (k : Nat) {x : Int32} {m1 m2 : qm_M α} {off : Int} (tgt : Nat) (hd : qm_nth il k = some (pc, .ifCond .le off, 3, pc')) (ht : (pc : Int) + off = (tgt : Int)) (h1 : qm_B X m1 tgt ρ st κ) (h2 : qm_B X m2 pc' ρ st κ) : qm_B X (if x ≤ 0 then m1 else m2) pc ρ (.int x :: st) κ := by
  cases qk_n hX hd
  refine qb_ite (fun c => ?_) (fun c => ?_)
  · exact qb_0 (fun H locs ls hL hh => lv_if_le (qk_ex hX) (qk_by hX) (qk_d hX hd) ht (fun _ => hh ls hL) (fun q => by first | exact absurd c q | exact absurd q c | (simp at c q; exact absurd c (by first | exact Int32.not_le.mpr q | exact Int32.not_lt.mpr q)))) h1
  · exact qb_0 (fun H locs ls hL hh => lv_if_le (qk_ex hX) (qk_by hX) (qk_d hX hd) ht (fun q => by first | exact absurd q c | exact absurd c q | (simp at c q; exact absurd q (by first | exact Int32.not_le.mpr c | exact Int32.not_lt.mpr c))) (fun _ => hh ls hL)) h2
theorem qb_iceq (hX : qm_ok X own cc nL f lo il) (k : Nat) {x y : Int32} {m1 m2 : qm_M α} {off : Int} (tgt : Nat) (hd : qm_nth il k = some (pc, .if_icmp .eq off, 3, pc')) (ht : (pc : Int) + off = (tgt : Int)) (h1 : qm_B X m1 tgt ρ st κ) (h2 : qm_B X m2 pc' ρ st κ) : qm_B X (if x = y then m1 else m2) pc ρ (.int y :: .int x :: st) κ := by
  cases qk_n hX hd
  refine qb_ite (fun c => ?_) (fun c => ?_)
  · exact qb_0 (fun H locs ls hL hh => lv_icmp_eq (qk_ex hX) (qk_by hX) (qk_d hX hd) ht (fun _ => hh ls hL) (fun q => by first | exact absurd c q | exact absurd q c | (simp at c q; exact absurd c (by first | exact Int32.not_le.mpr q | exact Int32.not_lt.mpr q)))) h1
  · exact qb_0 (fun H locs ls hL hh => lv_icmp_eq (qk_ex hX) (qk_by hX) (qk_d hX hd) ht (fun q => by first | exact absurd q c | exact absurd c q | (simp at c q; exact absurd q (by first | exact Int32.not_le.mpr c | exact Int32.not_lt.mpr c))) (fun _ => hh ls hL)) h2
theorem qb_icne (hX : qm_ok X own cc nL f lo il) (k : Nat) {x y : Int32} {m1 m2 : qm_M α} {off : Int} (tgt : Nat) (hd : qm_nth il k = some (pc, .if_icmp .ne off, 3, pc')) (ht : (pc : Int) + off = (tgt : Int)) (h1 : qm_B X m1 tgt ρ st κ) (h2 : qm_B X m2 pc' ρ st κ) : qm_B X (if ¬ x = y then m1 else m2) pc ρ (.int y :: .int x :: st) κ := by
  cases qk_n hX hd
  refine qb_ite (fun c => ?_) (fun c => ?_)
  · exact qb_0 (fun H locs ls hL hh => lv_icmp_ne (qk_ex hX) (qk_by hX) (qk_d hX hd) ht (fun _ => hh ls hL) (fun q => by first | exact absurd c q | exact absurd q c | (simp at c q; exact absurd c (by first | exact Int32.not_le.mpr q | exact Int32.not_lt.mpr q)))) h1
  · exact qb_0 (fun H locs ls hL hh => lv_icmp_ne (qk_ex hX) (qk_by hX) (qk_d hX hd) ht (fun q => by first | exact absurd q c | exact absurd c q | (simp at c q; exact absurd q (by first | exact Int32.not_le.mpr c | exact Int32.not_lt.mpr c))) (fun _ => hh ls hL)) h2
theorem qb_iclt (hX : qm_ok X own cc nL f lo il) (k : Nat) {x y : Int32} {m1 m2 : qm_M α} {off : Int} (tgt : Nat) (hd : qm_nth il k = some (pc, .if_icmp .lt off, 3, pc')) (ht : (pc : Int) + off = (tgt : Int)) (h1 : qm_B X m1 tgt ρ st κ) (h2 : qm_B X m2 pc' ρ st κ) : qm_B X (if x < y then m1 else m2) pc ρ (.int y :: .int x :: st) κ := by
  cases qk_n hX hd
  refine qb_ite (fun c => ?_) (fun c => ?_)
  · exact qb_0 (fun H locs ls hL hh => lv_icmp_lt (qk_ex hX) (qk_by hX) (qk_d hX hd) ht (fun _ => hh ls hL) (fun q => by first | exact absurd c q | exact absurd q c | (simp at c q; exact absurd c (by first | exact Int32.not_le.mpr q | exact Int32.not_lt.mpr q)))) h1
  · exact qb_0 (fun H locs ls hL hh => lv_icmp_lt (qk_ex hX) (qk_by hX) (qk_d hX hd) ht (fun q => by first | exact absurd q c | exact absurd c q | (simp at c q; exact absurd q (by first | exact Int32.not_le.mpr c | exact Int32.not_lt.mpr c))) (fun _ => hh ls hL)) h2
theorem qb_icge (hX : qm_ok X own cc nL f lo il) (k : Nat) {x y : Int32} {m1 m2 : qm_M α} {off : Int} (tgt : Nat) (hd : qm_nth il k = some (pc, .if_icmp .ge off, 3, pc')) (ht : (pc : Int) + off = (tgt : Int)) (h1 : qm_B X m1 tgt ρ st κ) (h2 : qm_B X m2 pc' ρ st κ) : qm_B X (if y ≤ x then m1 else m2) pc ρ (.int y :: .int x :: st) κ := by
  cases qk_n hX hd
  refine qb_ite (fun c => ?_) (fun c => ?_)
  · exact qb_0 (fun H locs ls hL hh => lv_icmp_ge (qk_ex hX) (qk_by hX) (qk_d hX hd) ht (fun _ => hh ls hL) (fun q => by first | exact absurd c q | exact absurd q c | (simp at c q; exact absurd c (by first | exact Int32.not_le.mpr q | exact Int32.not_lt.mpr q)))) h1
  · exact qb_0 (fun H locs ls hL hh => lv_icmp_ge (qk_ex hX) (qk_by hX) (qk_d hX hd) ht (fun q => by first | exact absurd q c | exact absurd c q | (simp at c q; exact absurd q (by first | exact Int32.not_le.mpr c | exact Int32.not_lt.mpr c))) (fun _ => hh ls hL)) h2
theorem qb_icgt (hX : qm_ok X own cc nL f lo il) (k : Nat) {x y : Int32} {m1 m2 : qm_M α} {off : Int} (tgt : Nat) (hd : qm_nth il k = some (pc, .if_icmp .gt off, 3, pc')) (ht : (pc : Int) + off = (tgt : Int)) (h1 : qm_B X m1 tgt ρ st κ) (h2 : qm_B X m2 pc' ρ st κ) : qm_B X (if y < x then m1 else m2) pc ρ (.int y :: .int x :: st) κ := by
  cases qk_n hX hd
  refine qb_ite (fun c => ?_) (fun c => ?_)
  · exact qb_0 (fun H locs ls hL hh => lv_icmp_gt (qk_ex hX) (qk_by hX) (qk_d hX hd) ht (fun _ => hh ls hL) (fun q => by first | exact absurd c q | exact absurd q c | (simp at c q; exact absurd c (by first | exact Int32.not_le.mpr q | exact Int32.not_lt.mpr q)))) h1
  · exact qb_0 (fun H locs ls hL hh => lv_icmp_gt (qk_ex hX) (qk_by hX) (qk_d hX hd) ht (fun q => by first | exact absurd q c | exact absurd c q | (simp at c q; exact absurd q (by first | exact Int32.not_le.mpr c | exact Int32.not_lt.mpr c))) (fun _ => hh ls hL)) h2
theorem qb_icle (hX : qm_ok X own cc nL f lo il) (k : Nat) {x y : Int32} {m1 m2 : qm_M α} {off : Int} (tgt : Nat) (hd : qm_nth il k = some (pc, .if_icmp .le off, 3, pc')) (ht : (pc : Int) + off = (tgt : Int)) (h1 : qm_B X m1 tgt ρ st κ) (h2 : qm_B X m2 pc' ρ st κ) : qm_B X (if x ≤ y then m1 else m2) pc ρ (.int y :: .int x :: st) κ := by
  cases qk_n hX hd
  refine qb_ite (fun c => ?_) (fun c => ?_)
  · exact qb_0 (fun H locs ls hL hh => lv_icmp_le (qk_ex hX) (qk_by hX) (qk_d hX hd) ht (fun _ => hh ls hL) (fun q => by first | exact absurd c q | exact absurd q c | (simp at c q; exact absurd c (by first | exact Int32.not_le.mpr q | exact Int32.not_lt.mpr q)))) h1
  · exact qb_0 (fun H locs ls hL hh => lv_icmp_le (qk_ex hX) (qk_by hX) (qk_d hX hd) ht (fun q => by first | exact absurd q c | exact absurd c q | (simp at c q; exact absurd q (by first | exact Int32.not_le.mpr c | exact Int32.not_lt.mpr c))) (fun _ => hh ls hL)) h2
/-- a switch: the cases one by one -/
theorem qb_swc {x : Int32} {m1 m2 : qm_M α} (c : Int32) (h1 : qm_B X m1 pc ρ (.int c :: st) κ) (h2 : ¬ x = c → qm_B X m2 pc ρ (.int x :: st) κ) : qm_B X (if x = c then m1 else m2) pc ρ (.int x :: st) κ := by
  refine qb_ite (fun e => ?_) h2
  rw [e]
  exact h1
theorem qb_tin (hX : qm_ok X own cc nL f lo il) (k : Nat) {x : Int32} {dflt a b : Int} {offs : Array Int} {len : Nat} {off : Int} (tgt : Nat) (hd : qm_nth il k = some (pc, .tableswitch dflt a b offs, len, pc')) (h1 : ¬ x.toInt < a) (h2 : ¬ b < x.toInt) (ho : offs[(x.toInt - a).toNat]? = some off) (ht : (pc : Int) + off = (tgt : Int)) (h : qm_B X m tgt ρ st κ) : qm_B X m pc ρ (.int x :: st) κ :=
  qb_0 (fun H locs ls hL hh => lv_tableIn (qk_ex hX) (qk_by hX) (qk_d hX hd) h1 h2 ho ht (hh ls hL)) h
theorem qb_tout (hX : qm_ok X own cc nL f lo il) (k : Nat) {x : Int32} {dflt a b : Int} {offs : Array Int} {len : Nat} (tgt : Nat) (hd : qm_nth il k = some (pc, .tableswitch dflt a b offs, len, pc')) (h1 : x.toInt < a ∨ b < x.toInt) (ht : (pc : Int) + dflt = (tgt : Int)) (h : qm_B X m tgt ρ st κ) : qm_B X m pc ρ (.int x :: st) κ :=
  qb_0 (fun H locs ls hL hh => lv_tableOut (qk_ex hX) (qk_by hX) (qk_d hX hd) h1 ht (hh ls hL)) h
theorem qb_lsw (hX : qm_ok X own cc nL f lo il) (k : Nat) {x : Int32} {dflt : Int} {ps : Array (Int × Int)} {len : Nat} {off : Int} (tgt : Nat) (hd : qm_nth il k = some (pc, .lookupswitch dflt ps, len, pc')) (hp : (ps.toList.zip (ps.toList.drop 1)).all (fun (a, next) => a.1 < next.1) = true) (ho : Op.lookupswitch.offset ps.toList dflt x.toInt = off) (ht : (pc : Int) + off = (tgt : Int)) (h : qm_B X m tgt ρ st κ) : qm_B X m pc ρ (.int x :: st) κ :=
  qb_0 (fun H locs ls hL hh => lv_lookup (qk_ex hX) (qk_by hX) (qk_d hX hd) hp ho ht (hh ls hL)) h
end QB
