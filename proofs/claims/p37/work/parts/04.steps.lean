section QB
variable {X : qm_X} {own : String} {cc : ByteArray} {nL f lo : Nat} {il : List qm_I}
theorem qk_ex (hX : qm_ok X own cc nL f lo il) : (qx_p X).tables.exec = Jvm.exec := hX.1.1
theorem qk_by (hX : qm_ok X own cc nL f lo il) : (qx_c X).code = cc := hX.1.2.1
theorem qk_ml (hX : qm_ok X own cc nL f lo il) : (qx_c X).maxLocals = nL := hX.1.2.2.1
theorem qk_ow (hX : qm_ok X own cc nL f lo il) : (qx_s X).vm.findClass own = some (qx_m X).cls := hX.1.2.2.2.1
theorem qk_ts (hX : qm_ok X own cc nL f lo il) : ∀ w ∈ qm_tb, w.before (qx_args X) (qx_s X) = true := hX.1.2.2.2.2
theorem qk_d (hX : qm_ok X own cc nL f lo il) {k pc n pc' : Nat} {i : Instr} (h : qm_nth il k = some (pc, i, n, pc')) : decode cc pc = .ok (i, n) := (hX.2.1 k _ h).1
theorem qk_n (hX : qm_ok X own cc nL f lo il) {k pc pc' n : Nat} {i : Instr} (h : qm_nth il k = some (pc, i, n, pc')) : pc' = pc + n := (hX.2.1 k _ h).2.symm
variable {α : Type} {m : qm_M α} {pc pc' : Nat} {ρ : List (Option Value)} {st : List Value} {κ : α → qm_Mem → Prop}
/-- a step that neither reads nor writes the cells -/
theorem qb_0 {ρ' : List (Option Value)} {st' : List Value} (hw : ∀ (H : Heap) (locs : List Loc) (ls : Array Slot), qm_L ls (qx_c X).maxLocals ρ → (∀ ls', qm_L ls' (qx_c X).maxLocals ρ' → qx_W X H locs (F0 (qx_m X) pc' ls' st')) → qx_W X H locs (F0 (qx_m X) pc ls st)) (h : qm_B X m pc' ρ' st' κ) : qm_B X m pc ρ st κ :=
  fun σ a σ' h1 h2 H locs ls hH hS hL => hw H locs ls hL (fun ls' hL' => h σ a σ' h1 h2 H locs ls' hH hS hL')
theorem qb_wk {ρ' : List (Option Value)} (hw : qm_wk ρ ρ') (h : qm_B X m pc ρ' st κ) : qm_B X m pc ρ st κ :=
  fun σ a σ' h1 h2 H locs ls hH hS hL => h σ a σ' h1 h2 H locs ls hH hS (hL.wk hw)
theorem qj_wk {ρ' : List (Option Value)} {σ : qm_Mem} (hw : qm_wk ρ ρ') (h : qm_J X pc ρ' st σ) : qm_J X pc ρ st σ :=
  fun H locs ls hH hS hL => h H locs ls hH hS (hL.wk hw)
/-- the way's end -/
theorem qb_exit {a : α} (h : ∀ σ, κ a σ → qm_J X pc ρ st σ) : qm_B X (mP a) pc ρ st κ := by
  intro σ b σ' h1 h2
  cases h1
  exact h σ h2
theorem qj_goto (hX : qm_ok X own cc nL f lo il) (k : Nat) {off : Int} {n tgt : Nat} {σ : qm_Mem} (hd : qm_nth il k = some (pc, .goto off, 3, n)) (ht : (pc : Int) + off = (tgt : Int)) (h : qm_J X tgt ρ st σ) : qm_J X pc ρ st σ :=
  fun H locs ls hH hS hL => lv_goto (qk_ex hX) (qk_by hX) (qk_d hX hd) ht (h H locs ls hH hS hL)
theorem qb_goto (hX : qm_ok X own cc nL f lo il) (k : Nat) {off : Int} {n tgt : Nat} (hd : qm_nth il k = some (pc, .goto off, 3, n)) (ht : (pc : Int) + off = (tgt : Int)) (h : qm_B X m tgt ρ st κ) : qm_B X m pc ρ st κ :=
  qb_0 (fun H locs ls hL hh => lv_goto (qk_ex hX) (qk_by hX) (qk_d hX hd) ht (hh ls hL)) h
/-- a branching computation, then what follows where its ways meet -/
theorem qb_join {S : Type} {m : qm_M S} {g : S → qm_M α} (lp : Nat) (ρ' : S → List (Option Value)) (st' : S → List Value) (h1 : qm_B X m pc ρ st (fun s σ1 => qm_J X lp (ρ' s) (st' s) σ1)) (h2 : ∀ s, qm_B X (g s) lp (ρ' s) (st' s) κ) : qm_B X (mB m g) pc ρ st κ := by
  intro σ a σ' h hk
  obtain ⟨s, σ1, e1, e2⟩ := mB_some h
  exact h1 σ s σ1 e1 (h2 s σ1 a σ' e2 hk)
theorem qb_join2 {S : Type} {m : qm_M (S ⊕ α)} {g : S → qm_M α} (lp : Nat) (ρ' : S → List (Option Value)) (st' : S → List Value) (h1 : qm_B X m pc ρ st (fun r σ1 => Sum.elim (fun s => qm_J X lp (ρ' s) (st' s) σ1) (fun o => κ o σ1) r)) (h2 : ∀ s, qm_B X (g s) lp (ρ' s) (st' s) κ) : qm_B X (mB m (Sum.elim g mP)) pc ρ st κ := by
  intro σ a σ' h hk
  obtain ⟨s, σ1, e1, e2⟩ := mB_some h
  refine h1 σ s σ1 e1 ?_
  cases s with
  | inl s => exact h2 s σ1 a σ' e2 hk
  | inr o =>
    cases e2
    exact hk
theorem qb_loop {S : Type} {step : S → qm_M (S ⊕ α)} (s0 : S) (ρ' : S → List (Option Value)) (h : ∀ s, qm_B X (step s) pc (ρ' s) st (fun r σ1 => Sum.elim (fun s' => qm_J X pc (ρ' s') st σ1) (fun o => κ o σ1) r)) : qm_B X (mW step s0) pc (ρ' s0) st κ := by
  intro σ a σ' hm hk
  obtain ⟨n, hn⟩ := mW_iff.mp hm
  clear hm
  induction n generalizing s0 σ with
  | zero => cases hn
  | succ n ih =>
    obtain ⟨r, σ1, e1, e2⟩ := mB_some hn
    refine h s0 σ r σ1 e1 ?_
    cases r with
    | inl s' => exact ih s' σ1 e2
    | inr o =>
      cases e2
      exact hk
/-- a value gets a name -/
theorem qb_let {x : Int32} {g : Int32 → qm_M α} {P : Int32 → Prop} (hp : P x) (h : ∀ y, P y → qm_B X (g y) pc ρ st κ) : qm_B X (mB (mP x) g) pc ρ st κ := h x hp
theorem qb_iconst (hX : qm_ok X own cc nL f lo il) (k : Nat) {n : Int} (v : Int32) (hd : qm_nth il k = some (pc, .iconst n, 1, pc')) (hv : Int32.ofInt n = v) (h : qm_B X m pc' ρ (.int v :: st) κ) : qm_B X m pc ρ st κ := by
  cases qk_n hX hd
  exact qb_0 (fun H locs ls hL hh => lv_iconst (qk_ex hX) (qk_by hX) (qk_d hX hd) hv (hh ls hL)) h
theorem qb_bipush (hX : qm_ok X own cc nL f lo il) (k : Nat) {n : Int} (v : Int32) (hd : qm_nth il k = some (pc, .bipush n, 2, pc')) (hv : (Int8.ofInt n).toInt32 = v) (h : qm_B X m pc' ρ (.int v :: st) κ) : qm_B X m pc ρ st κ := by
  cases qk_n hX hd
  exact qb_0 (fun H locs ls hL hh => lv_bipush (qk_ex hX) (qk_by hX) (qk_d hX hd) hv (hh ls hL)) h
theorem qb_sipush (hX : qm_ok X own cc nL f lo il) (k : Nat) {n : Int} (v : Int32) (hd : qm_nth il k = some (pc, .sipush n, 3, pc')) (hv : (Int16.ofInt n).toInt32 = v) (h : qm_B X m pc' ρ (.int v :: st) κ) : qm_B X m pc ρ st κ := by
  cases qk_n hX hd
  exact qb_0 (fun H locs ls hL hh => lv_sipush (qk_ex hX) (qk_by hX) (qk_d hX hd) hv (hh ls hL)) h
theorem qb_ldc (hX : qm_ok X own cc nL f lo il) (k : Nat) {n : Nat} (v : Int32) (hd : qm_nth il k = some (pc, .ldc n, 2, pc')) (hw : Cond.constant own n v ∈ qm_tb) (h : qm_B X m pc' ρ (.int v :: st) κ) : qm_B X m pc ρ st κ := by
  cases qk_n hX hd
  exact qb_0 (fun H locs ls hL hh => lv_ldc (qk_ex hX) (qk_by hX) (qk_ow hX) (qk_ts hX _ hw) (qk_d hX hd) (hh ls hL)) h
theorem qb_ldcw (hX : qm_ok X own cc nL f lo il) (k : Nat) {n : Nat} (v : Int32) (hd : qm_nth il k = some (pc, .ldc_w n, 3, pc')) (hw : Cond.constant own n v ∈ qm_tb) (h : qm_B X m pc' ρ (.int v :: st) κ) : qm_B X m pc ρ st κ := by
  cases qk_n hX hd
  exact qb_0 (fun H locs ls hL hh => lv_ldcw (qk_ex hX) (qk_by hX) (qk_ow hX) (qk_ts hX _ hw) (qk_d hX hd) (hh ls hL)) h
theorem qb_iload_n (hX : qm_ok X own cc nL f lo il) (k : Nat) {i : Fin 4} {x : Int32} (hd : qm_nth il k = some (pc, .iload_n i, 1, pc')) (hr : ρ[(i : Nat)]? = some (some (.int x))) (h : qm_B X m pc' ρ (.int x :: st) κ) : qm_B X m pc ρ st κ := by
  cases qk_n hX hd
  exact qb_0 (fun H locs ls hL hh => lv_iload_n (qk_ex hX) (qk_by hX) (qk_d hX hd) rfl (hL.at hr) (hh ls hL)) h
theorem qb_iload (hX : qm_ok X own cc nL f lo il) (k : Nat) {i : Nat} {x : Int32} (hd : qm_nth il k = some (pc, .iload i, 2, pc')) (hr : ρ[i]? = some (some (.int x))) (h : qm_B X m pc' ρ (.int x :: st) κ) : qm_B X m pc ρ st κ := by
  cases qk_n hX hd
  exact qb_0 (fun H locs ls hL hh => lv_iload (qk_ex hX) (qk_by hX) (qk_d hX hd) (hL.at hr) (hh ls hL)) h
theorem qb_aload_n (hX : qm_ok X own cc nL f lo il) (k : Nat) {i : Fin 4} {x : Nat} (hd : qm_nth il k = some (pc, .aload_n i, 1, pc')) (hr : ρ[(i : Nat)]? = some (some (.ref x))) (h : qm_B X m pc' ρ (.ref x :: st) κ) : qm_B X m pc ρ st κ := by
  cases qk_n hX hd
  exact qb_0 (fun H locs ls hL hh => lv_aload_n (qk_ex hX) (qk_by hX) (qk_d hX hd) rfl (hL.at hr) (hh ls hL)) h
theorem qb_aload (hX : qm_ok X own cc nL f lo il) (k : Nat) {i : Nat} {x : Nat} (hd : qm_nth il k = some (pc, .aload i, 2, pc')) (hr : ρ[i]? = some (some (.ref x))) (h : qm_B X m pc' ρ (.ref x :: st) κ) : qm_B X m pc ρ st κ := by
  cases qk_n hX hd
  exact qb_0 (fun H locs ls hL hh => lv_aload (qk_ex hX) (qk_by hX) (qk_d hX hd) (hL.at hr) (hh ls hL)) h
/-- any store into a place of the frame -/
theorem qb_st {i : Nat} {v : Value} (hX : qm_ok X own cc nL f lo il) (hi : i < nL) (hc : v.category = 1) (hw : ∀ (H : Heap) (locs : List Loc) (ls ls' : Array Slot), storeLocals ls i v = some ls' → qx_W X H locs (F0 (qx_m X) pc' ls' st) → qx_W X H locs (F0 (qx_m X) pc ls (v :: st))) (h : qm_B X m pc' (ρ.set i (some v)) st κ) : qm_B X m pc ρ (v :: st) κ :=
  qb_0 (fun H locs ls hL hh => by
    obtain ⟨ls', e1, e2⟩ := hL.put (by rw [qk_ml hX]; exact hi) hc
    exact hw H locs ls ls' e1 (hh ls' e2)) h
theorem qb_istore_n (hX : qm_ok X own cc nL f lo il) (k : Nat) {i : Fin 4} {x : Int32} (ρ' : List (Option Value)) (hd : qm_nth il k = some (pc, .istore_n i, 1, pc')) (hi : (i : Nat) < nL) (hr : ρ.set (i : Nat) (some (.int x)) = ρ') (h : qm_B X m pc' ρ' st κ) : qm_B X m pc ρ (.int x :: st) κ := by
  cases qk_n hX hd
  subst hr
  refine qb_st hX hi rfl (fun H locs ls ls' e h => ?_) h
  intro T hT Y
  obtain ⟨t, a, b⟩ := h T hT Y
  refine ⟨t, ?_, b⟩
  have hd' := qk_d hX hd
  jvm_step Y.here [Y.here.top, ↓top_set Y.here.top, qk_ex hX, qk_by hX, hd', e]
  exact a
theorem qb_istore (hX : qm_ok X own cc nL f lo il) (k : Nat) {i : Nat} {x : Int32} (ρ' : List (Option Value)) (hd : qm_nth il k = some (pc, .istore i, 2, pc')) (hi : i < nL) (hr : ρ.set i (some (.int x)) = ρ') (h : qm_B X m pc' ρ' st κ) : qm_B X m pc ρ (.int x :: st) κ := by
  cases qk_n hX hd
  subst hr
  refine qb_st hX hi rfl (fun H locs ls ls' e h => ?_) h
  intro T hT Y
  obtain ⟨t, a, b⟩ := h T hT Y
  refine ⟨t, ?_, b⟩
  have hd' := qk_d hX hd
  jvm_step Y.here [Y.here.top, ↓top_set Y.here.top, qk_ex hX, qk_by hX, hd', e]
  exact a
theorem qb_astore_n (hX : qm_ok X own cc nL f lo il) (k : Nat) {i : Fin 4} {x : Nat} (ρ' : List (Option Value)) (hd : qm_nth il k = some (pc, .astore_n i, 1, pc')) (hi : (i : Nat) < nL) (hr : ρ.set (i : Nat) (some (.ref x)) = ρ') (h : qm_B X m pc' ρ' st κ) : qm_B X m pc ρ (.ref x :: st) κ := by
  cases qk_n hX hd
  subst hr
  refine qb_st hX hi rfl (fun H locs ls ls' e h => ?_) h
  intro T hT Y
  obtain ⟨t, a, b⟩ := h T hT Y
  refine ⟨t, ?_, b⟩
  have hd' := qk_d hX hd
  jvm_step Y.here [Y.here.top, ↓top_set Y.here.top, qk_ex hX, qk_by hX, hd', e]
  exact ⟨rfl, a⟩
theorem qb_astore (hX : qm_ok X own cc nL f lo il) (k : Nat) {i : Nat} {x : Nat} (ρ' : List (Option Value)) (hd : qm_nth il k = some (pc, .astore i, 2, pc')) (hi : i < nL) (hr : ρ.set i (some (.ref x)) = ρ') (h : qm_B X m pc' ρ' st κ) : qm_B X m pc ρ (.ref x :: st) κ := by
  cases qk_n hX hd
  subst hr
  refine qb_st hX hi rfl (fun H locs ls ls' e h => ?_) h
  intro T hT Y
  obtain ⟨t, a, b⟩ := h T hT Y
  refine ⟨t, ?_, b⟩
  have hd' := qk_d hX hd
  jvm_step Y.here [Y.here.top, ↓top_set Y.here.top, qk_ex hX, qk_by hX, hd', e]
  exact ⟨rfl, a⟩
theorem qb_iinc (hX : qm_ok X own cc nL f lo il) (k : Nat) {i : Nat} {n : Int} {x : Int32} {g : Int32 → qm_M α} (d : Int32) (ρ' : Int32 → List (Option Value)) (hd : qm_nth il k = some (pc, .iinc i n, 3, pc')) (hn : Int32.ofInt n = d) (hi : i < nL) (hx : ρ[i]? = some (some (.int x))) (hr : ∀ y, ρ.set i (some (.int y)) = ρ' y) (h : ∀ y, qm_B X (g y) pc' (ρ' y) st κ) : qm_B X (mB (mP (x + d)) g) pc ρ st κ := by
  cases qk_n hX hd
  have h := h (x + d)
  rw [← hr] at h
  show qm_B X (g (x + d)) pc ρ st κ
  refine qb_0 (fun H locs ls hL hh => ?_) h
  obtain ⟨ls', e1, e2⟩ := hL.put (by rw [qk_ml hX]; exact hi) (v := .int (x + d)) rfl
  have hd' := qk_d hX hd
  have hg := hL.at hx
  intro T hT Y
  obtain ⟨t, a, b⟩ := hh ls' e2 T hT Y
  refine ⟨t, ?_, b⟩
  jvm_step Y.here [Y.here.top, ↓top_set Y.here.top, qk_ex hX, qk_by hX, hd', hg, hn, e1]
  exact a
end QB
