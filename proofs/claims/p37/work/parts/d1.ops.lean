section YV
variable {p : Program} {l : Launch} {e : Env} {R : Room} {s : State} {md : MethodId} {args : Array Value} {below : List Frame} {meth : Method} {c : Code} {H : Heap} {locs : List Loc} {cells slots : Nat} {Q : State → Prop} {cc : ByteArray} {pc : Nat} {ls : Array Slot} {rest : List Value}
theorem yv_aload_n (hexec : p.tables.exec = Jvm.exec) (hb : c.code = cc) {i : Fin 4} {x : Option Nat} (hdg : decode cc pc = .ok (.aload_n i, 1)) (hl : ls[(i : Nat)]? = some (.val (va_rf x))) (k : W p l e R s md args below meth c H locs cells slots Q (F0 md (pc + 1) ls (va_rf x :: rest))) : W p l e R s md args below meth c H locs cells slots Q (F0 md pc ls rest) := by
  cases x with
  | some x => exact lv_aload_n hexec hb hdg rfl hl k
  | none =>
    intro T hT X
    obtain ⟨t, a, b⟩ := k T hT X
    refine ⟨t, ?_, b⟩
    have hl : ls[(i : Nat)]? = some (.val .null) := hl
    jvm_step X.here [X.here.top, ↓top_set X.here.top, hexec, hb, hdg, hl]
    exact ⟨rfl, a⟩
theorem yv_aload (hexec : p.tables.exec = Jvm.exec) (hb : c.code = cc) {i : Nat} {x : Option Nat} (hdg : decode cc pc = .ok (.aload i, 2)) (hl : ls[i]? = some (.val (va_rf x))) (k : W p l e R s md args below meth c H locs cells slots Q (F0 md (pc + 2) ls (va_rf x :: rest))) : W p l e R s md args below meth c H locs cells slots Q (F0 md pc ls rest) := by
  cases x with
  | some x => exact lv_aload hexec hb hdg hl k
  | none =>
    intro T hT X
    obtain ⟨t, a, b⟩ := k T hT X
    refine ⟨t, ?_, b⟩
    have hl : ls[i]? = some (.val .null) := hl
    jvm_step X.here [X.here.top, ↓top_set X.here.top, hexec, hb, hdg, hl]
    exact ⟨rfl, a⟩
end YV
section YB
variable {X : qm_X} {Y : yY} {Fn : yFn} {own : String} {cc : ByteArray} {nL f lo : Nat} {il : List qm_I}
variable {α : Type} {m : yM α} {pc pc' : Nat} {ρ : List (Option Value)} {st : List Value} {κ : α → yW → Prop}
theorem yk_ex (hX : y_ok X Y Fn own cc nL f lo il) : (qx_p X).tables.exec = Jvm.exec := qk_ex hX.1
theorem yk_by (hX : y_ok X Y Fn own cc nL f lo il) : (qx_c X).code = cc := qk_by hX.1
theorem yk_ml (hX : y_ok X Y Fn own cc nL f lo il) : (qx_c X).maxLocals = nL := qk_ml hX.1
theorem yk_ow (hX : y_ok X Y Fn own cc nL f lo il) : (qx_s X).vm.findClass own = some (qx_m X).cls := qk_ow hX.1
theorem yk_ts (hX : y_ok X Y Fn own cc nL f lo il) : ∀ w ∈ qm_tb, w.before (qx_args X) (qx_s X) = true := qk_ts hX.1
theorem yk_d (hX : y_ok X Y Fn own cc nL f lo il) {k pc n pc' : Nat} {i : Instr} (h : qm_nth il k = some (pc, i, n, pc')) : decode cc pc = .ok (i, n) := qk_d hX.1 h
theorem yk_n (hX : y_ok X Y Fn own cc nL f lo il) {k pc pc' n : Nat} {i : Instr} (h : qm_nth il k = some (pc, i, n, pc')) : pc' = pc + n := qk_n hX.1 h
theorem yk_A (hX : y_ok X Y Fn own cc nL f lo il) : qx_A X = yA Y := hX.2.1
theorem yk_B (hX : y_ok X Y Fn own cc nL f lo il) : Y.1 ≤ (qx_s X).heap.size := hX.2.2.1
theorem yk_G (hX : y_ok X Y Fn own cc nL f lo il) : yGG (qx_G X) Y := hX.2.2.2.1
theorem yk_R (hX : y_ok X Y Fn own cc nL f lo il) : (qx_R X).cells = Fn.1 - (qx_s X).heap.size ∧ (qx_R X).slots = Fn.2.1 - Fn.2.2 := hX.2.2.2.2.1
theorem yk_Z (hX : y_ok X Y Fn own cc nL f lo il) : yZ Y (yA Y) (qx_s X) (qx_s X).heap := hX.2.2.2.2.2
theorem yk_nL (hX : y_ok X Y Fn own cc nL f lo il) {i : Nat} (h : i < nL) : i < (qx_c X).maxLocals := by rw [yk_ml hX]; exact h
/-- a step that neither reads nor writes the cells -/
theorem y_0 {ρ' : List (Option Value)} {st' : List Value} (hw : ∀ (H : Heap) (locs : List Loc) (ce sl : Nat) (ls : Array Slot), qm_L ls (qx_c X).maxLocals ρ → (∀ ls', qm_L ls' (qx_c X).maxLocals ρ' → yq X H locs ce sl (F0 (qx_m X) pc' ls' st')) → yq X H locs ce sl (F0 (qx_m X) pc ls st)) (h : yb X Y Fn m pc' ρ' st' κ) : yb X Y Fn m pc ρ st κ :=
  fun w a w' h1 h2 => ⟨(h w a w' h1 h2).1, fun H locs ls hV hL => hw H locs _ _ ls hL (fun ls' hL' => (h w a w' h1 h2).2 H locs ls' hV hL')⟩
theorem y_wk {ρ' : List (Option Value)} (hw : qm_wk ρ ρ') (h : yb X Y Fn m pc ρ' st κ) : yb X Y Fn m pc ρ st κ :=
  fun w a w' h1 h2 => ⟨(h w a w' h1 h2).1, fun H locs ls hV hL => (h w a w' h1 h2).2 H locs ls hV (hL.wk hw)⟩
theorem yj_wk {ρ' : List (Option Value)} {w : yW} (hw : qm_wk ρ ρ') (h : yJ X Y Fn pc ρ' st w) : yJ X Y Fn pc ρ st w :=
  ⟨h.1, fun H locs ls hV hL => h.2 H locs ls hV (hL.wk hw)⟩
theorem y_F : yb X Y Fn (yF : yM α) pc ρ st κ := fun w a w' h => by cases h
theorem y_exit {a : α} (h : ∀ w, κ a w → yJ X Y Fn pc ρ st w) : yb X Y Fn (yP a) pc ρ st κ := by
  intro w b w' h1 h2
  cases h1
  exact h w h2
theorem yj_goto (hX : y_ok X Y Fn own cc nL f lo il) (k : Nat) {off : Int} {n tgt : Nat} {w : yW} (hd : qm_nth il k = some (pc, .goto off, 3, n)) (ht : (pc : Int) + off = (tgt : Int)) (h : yJ X Y Fn tgt ρ st w) : yJ X Y Fn pc ρ st w :=
  ⟨h.1, fun H locs ls hV hL => lv_goto (yk_ex hX) (yk_by hX) (yk_d hX hd) ht (h.2 H locs ls hV hL)⟩
theorem y_goto (hX : y_ok X Y Fn own cc nL f lo il) (k : Nat) {off : Int} {n tgt : Nat} (hd : qm_nth il k = some (pc, .goto off, 3, n)) (ht : (pc : Int) + off = (tgt : Int)) (h : yb X Y Fn m tgt ρ st κ) : yb X Y Fn m pc ρ st κ :=
  y_0 (fun H locs ce sl ls hL hh => lv_goto (yk_ex hX) (yk_by hX) (yk_d hX hd) ht (hh ls hL)) h
theorem y_join {S : Type} {m : yM S} {g : S → yM α} (lp : Nat) (ρ' : S → List (Option Value)) (st' : S → List Value) (h1 : yb X Y Fn m pc ρ st (fun s w1 => yJ X Y Fn lp (ρ' s) (st' s) w1)) (h2 : ∀ s, yb X Y Fn (g s) lp (ρ' s) (st' s) κ) : yb X Y Fn (yB m g) pc ρ st κ := by
  intro w a w' h hk
  obtain ⟨s, w1, e1, e2⟩ := yB_some h
  exact h1 w s w1 e1 (h2 s w1 a w' e2 hk)
theorem y_join2 {S : Type} {m : yM (S ⊕ α)} {g : S → yM α} (lp : Nat) (ρ' : S → List (Option Value)) (st' : S → List Value) (h1 : yb X Y Fn m pc ρ st (fun r w1 => Sum.elim (fun s => yJ X Y Fn lp (ρ' s) (st' s) w1) (fun o => κ o w1) r)) (h2 : ∀ s, yb X Y Fn (g s) lp (ρ' s) (st' s) κ) : yb X Y Fn (yB m (Sum.elim g yP)) pc ρ st κ := by
  intro w a w' h hk
  obtain ⟨s, w1, e1, e2⟩ := yB_some h
  refine h1 w s w1 e1 ?_
  cases s with
  | inl s => exact h2 s w1 a w' e2 hk
  | inr o =>
    cases e2
    exact hk
theorem y_loop {S : Type} {step : S → yM (S ⊕ α)} (s0 : S) (ρ' : S → List (Option Value)) (h : ∀ s, yb X Y Fn (step s) pc (ρ' s) st (fun r w1 => Sum.elim (fun s' => yJ X Y Fn pc (ρ' s') st w1) (fun o => κ o w1) r)) : yb X Y Fn (yLp step s0) pc (ρ' s0) st κ := by
  intro w a w' hm hk
  obtain ⟨n, hn⟩ := yLp_iff.mp hm
  clear hm
  induction n generalizing s0 w with
  | zero => cases hn
  | succ n ih =>
    obtain ⟨r, w1, e1, e2⟩ := yB_some hn
    refine h s0 w r w1 e1 ?_
    cases r with
    | inl s' => exact ih s' w1 e2
    | inr o =>
      cases e2
      exact hk
theorem y_loopw {S : Type} {step : S → yM (S ⊕ α)} (s0 : S) (ρ' : S → List (Option Value)) (hw : qm_wk ρ (ρ' s0)) (h : ∀ s, yb X Y Fn (step s) pc (ρ' s) st (fun r w1 => Sum.elim (fun s' => yJ X Y Fn pc (ρ' s') st w1) (fun o => κ o w1) r)) : yb X Y Fn (yLp step s0) pc ρ st κ := y_wk hw (y_loop s0 ρ' h)
theorem y_iconst (hX : y_ok X Y Fn own cc nL f lo il) (k : Nat) {n : Int} (v : Int) (hd : qm_nth il k = some (pc, .iconst n, 1, pc')) (hv : Int32.ofInt n = Int32.ofInt v) (h : yb X Y Fn m pc' ρ (yi v :: st) κ) : yb X Y Fn m pc ρ st κ := by
  cases yk_n hX hd
  exact y_0 (fun H locs ce sl ls hL hh => lv_iconst (yk_ex hX) (yk_by hX) (yk_d hX hd) hv (hh ls hL)) h
theorem y_bipush (hX : y_ok X Y Fn own cc nL f lo il) (k : Nat) {n : Int} (v : Int) (hd : qm_nth il k = some (pc, .bipush n, 2, pc')) (hv : (Int8.ofInt n).toInt32 = Int32.ofInt v) (h : yb X Y Fn m pc' ρ (yi v :: st) κ) : yb X Y Fn m pc ρ st κ := by
  cases yk_n hX hd
  exact y_0 (fun H locs ce sl ls hL hh => lv_bipush (yk_ex hX) (yk_by hX) (yk_d hX hd) hv (hh ls hL)) h
theorem y_sipush (hX : y_ok X Y Fn own cc nL f lo il) (k : Nat) {n : Int} (v : Int) (hd : qm_nth il k = some (pc, .sipush n, 3, pc')) (hv : (Int16.ofInt n).toInt32 = Int32.ofInt v) (h : yb X Y Fn m pc' ρ (yi v :: st) κ) : yb X Y Fn m pc ρ st κ := by
  cases yk_n hX hd
  exact y_0 (fun H locs ce sl ls hL hh => lv_sipush (yk_ex hX) (yk_by hX) (yk_d hX hd) hv (hh ls hL)) h
theorem y_ldc (hX : y_ok X Y Fn own cc nL f lo il) (k : Nat) {n : Nat} (v : Int) (hd : qm_nth il k = some (pc, .ldc n, 2, pc')) (hw : Cond.constant own n (Int32.ofInt v) ∈ qm_tb) (h : yb X Y Fn m pc' ρ (yi v :: st) κ) : yb X Y Fn m pc ρ st κ := by
  cases yk_n hX hd
  exact y_0 (fun H locs ce sl ls hL hh => lv_ldc (yk_ex hX) (yk_by hX) (yk_ow hX) (yk_ts hX _ hw) (yk_d hX hd) (hh ls hL)) h
theorem y_ldcw (hX : y_ok X Y Fn own cc nL f lo il) (k : Nat) {n : Nat} (v : Int) (hd : qm_nth il k = some (pc, .ldc_w n, 3, pc')) (hw : Cond.constant own n (Int32.ofInt v) ∈ qm_tb) (h : yb X Y Fn m pc' ρ (yi v :: st) κ) : yb X Y Fn m pc ρ st κ := by
  cases yk_n hX hd
  exact y_0 (fun H locs ce sl ls hL hh => lv_ldcw (yk_ex hX) (yk_by hX) (yk_ow hX) (yk_ts hX _ hw) (yk_d hX hd) (hh ls hL)) h
theorem y_aconst (hX : y_ok X Y Fn own cc nL f lo il) (k : Nat) (hd : qm_nth il k = some (pc, .aconst_null, 1, pc')) (h : yb X Y Fn m pc' ρ (va_rf none :: st) κ) : yb X Y Fn m pc ρ st κ := by
  cases yk_n hX hd
  exact y_0 (fun H locs ce sl ls hL hh => lv_null (yk_ex hX) (yk_by hX) (yk_d hX hd) (hh ls hL)) h
theorem y_iload_n (hX : y_ok X Y Fn own cc nL f lo il) (k : Nat) {i : Fin 4} {x : Int} (hd : qm_nth il k = some (pc, .iload_n i, 1, pc')) (hr : ρ[(i : Nat)]? = some (some (yi x))) (h : yb X Y Fn m pc' ρ (yi x :: st) κ) : yb X Y Fn m pc ρ st κ := by
  cases yk_n hX hd
  exact y_0 (fun H locs ce sl ls hL hh => lv_iload_n (yk_ex hX) (yk_by hX) (yk_d hX hd) rfl (hL.at hr) (hh ls hL)) h
theorem y_iload (hX : y_ok X Y Fn own cc nL f lo il) (k : Nat) {i : Nat} {x : Int} (hd : qm_nth il k = some (pc, .iload i, 2, pc')) (hr : ρ[i]? = some (some (yi x))) (h : yb X Y Fn m pc' ρ (yi x :: st) κ) : yb X Y Fn m pc ρ st κ := by
  cases yk_n hX hd
  exact y_0 (fun H locs ce sl ls hL hh => lv_iload (yk_ex hX) (yk_by hX) (yk_d hX hd) (hL.at hr) (hh ls hL)) h
theorem y_aload_n (hX : y_ok X Y Fn own cc nL f lo il) (k : Nat) {i : Fin 4} {x : Option Nat} (hd : qm_nth il k = some (pc, .aload_n i, 1, pc')) (hr : ρ[(i : Nat)]? = some (some (va_rf x))) (h : yb X Y Fn m pc' ρ (va_rf x :: st) κ) : yb X Y Fn m pc ρ st κ := by
  cases yk_n hX hd
  exact y_0 (fun H locs ce sl ls hL hh => yv_aload_n (yk_ex hX) (yk_by hX) (yk_d hX hd) (hL.at hr) (hh ls hL)) h
theorem y_aload (hX : y_ok X Y Fn own cc nL f lo il) (k : Nat) {i : Nat} {x : Option Nat} (hd : qm_nth il k = some (pc, .aload i, 2, pc')) (hr : ρ[i]? = some (some (va_rf x))) (h : yb X Y Fn m pc' ρ (va_rf x :: st) κ) : yb X Y Fn m pc ρ st κ := by
  cases yk_n hX hd
  exact y_0 (fun H locs ce sl ls hL hh => yv_aload (yk_ex hX) (yk_by hX) (yk_d hX hd) (hL.at hr) (hh ls hL)) h
theorem y_rload_n (hX : y_ok X Y Fn own cc nL f lo il) (k : Nat) {i : Fin 4} {x : Nat} (hd : qm_nth il k = some (pc, .aload_n i, 1, pc')) (hr : ρ[(i : Nat)]? = some (some (.ref x))) (h : yb X Y Fn m pc' ρ (.ref x :: st) κ) : yb X Y Fn m pc ρ st κ := by
  cases yk_n hX hd
  exact y_0 (fun H locs ce sl ls hL hh => lv_aload_n (yk_ex hX) (yk_by hX) (yk_d hX hd) rfl (hL.at hr) (hh ls hL)) h
theorem y_rload (hX : y_ok X Y Fn own cc nL f lo il) (k : Nat) {i : Nat} {x : Nat} (hd : qm_nth il k = some (pc, .aload i, 2, pc')) (hr : ρ[i]? = some (some (.ref x))) (h : yb X Y Fn m pc' ρ (.ref x :: st) κ) : yb X Y Fn m pc ρ st κ := by
  cases yk_n hX hd
  exact y_0 (fun H locs ce sl ls hL hh => lv_aload (yk_ex hX) (yk_by hX) (yk_d hX hd) (hL.at hr) (hh ls hL)) h
theorem y_st {i : Nat} {v : Value} (hX : y_ok X Y Fn own cc nL f lo il) (hi : i < nL) (hc : v.category = 1) (hw : ∀ (H : Heap) (locs : List Loc) (ce sl : Nat) (ls ls' : Array Slot), storeLocals ls i v = some ls' → yq X H locs ce sl (F0 (qx_m X) pc' ls' st) → yq X H locs ce sl (F0 (qx_m X) pc ls (v :: st))) (h : yb X Y Fn m pc' (ρ.set i (some v)) st κ) : yb X Y Fn m pc ρ (v :: st) κ :=
  y_0 (fun H locs ce sl ls hL hh => by
    obtain ⟨ls', e1, e2⟩ := hL.put (yk_nL hX hi) hc
    exact hw H locs ce sl ls ls' e1 (hh ls' e2)) h
theorem y_istore_n (hX : y_ok X Y Fn own cc nL f lo il) (k : Nat) {i : Fin 4} {x : Int} {g : Int → yM α} (ρ' : Int → List (Option Value)) (hd : qm_nth il k = some (pc, .istore_n i, 1, pc')) (hi : (i : Nat) < nL) (hr : ∀ y, ρ.set (i : Nat) (some (yi y)) = ρ' y) (h : ∀ y, yb X Y Fn (g y) pc' (ρ' y) st κ) : yb X Y Fn (yB (yP x) g) pc ρ (yi x :: st) κ := by
  have h := h x
  rw [← hr] at h
  show yb X Y Fn (g x) pc ρ (yi x :: st) κ
  cases yk_n hX hd
  refine y_st hX hi rfl (fun H locs ce sl ls ls' e h => ?_) h
  intro T hT Z
  obtain ⟨t, a, b⟩ := h T hT Z
  refine ⟨t, ?_, b⟩
  have hd' := yk_d hX hd
  jvm_step Z.here [Z.here.top, ↓top_set Z.here.top, yk_ex hX, yk_by hX, hd', e]
  exact a
theorem y_istore (hX : y_ok X Y Fn own cc nL f lo il) (k : Nat) {i : Nat} {x : Int} {g : Int → yM α} (ρ' : Int → List (Option Value)) (hd : qm_nth il k = some (pc, .istore i, 2, pc')) (hi : i < nL) (hr : ∀ y, ρ.set i (some (yi y)) = ρ' y) (h : ∀ y, yb X Y Fn (g y) pc' (ρ' y) st κ) : yb X Y Fn (yB (yP x) g) pc ρ (yi x :: st) κ := by
  have h := h x
  rw [← hr] at h
  show yb X Y Fn (g x) pc ρ (yi x :: st) κ
  cases yk_n hX hd
  refine y_st hX hi rfl (fun H locs ce sl ls ls' e h => ?_) h
  intro T hT Z
  obtain ⟨t, a, b⟩ := h T hT Z
  refine ⟨t, ?_, b⟩
  have hd' := yk_d hX hd
  jvm_step Z.here [Z.here.top, ↓top_set Z.here.top, yk_ex hX, yk_by hX, hd', e]
  exact a
theorem y_astore_n (hX : y_ok X Y Fn own cc nL f lo il) (k : Nat) {i : Fin 4} {x : Option Nat} {g : Option Nat → yM α} (ρ' : Option Nat → List (Option Value)) (hd : qm_nth il k = some (pc, .astore_n i, 1, pc')) (hi : (i : Nat) < nL) (hr : ∀ y, ρ.set (i : Nat) (some (va_rf y)) = ρ' y) (h : ∀ y, yb X Y Fn (g y) pc' (ρ' y) st κ) : yb X Y Fn (yB (yP x) g) pc ρ (va_rf x :: st) κ := by
  have h := h x
  rw [← hr] at h
  show yb X Y Fn (g x) pc ρ (va_rf x :: st) κ
  cases x with
  | none =>
    cases yk_n hX hd
    refine y_st hX hi rfl (fun H locs ce sl ls ls' e h => ?_) h
    intro T hT Z
    obtain ⟨t, a, b⟩ := h T hT Z
    refine ⟨t, ?_, b⟩
    have hd' := yk_d hX hd
    jvm_step Z.here [Z.here.top, ↓top_set Z.here.top, yk_ex hX, yk_by hX, hd', e]
    exact ⟨Or.inl rfl, a⟩
  | some x =>
    cases yk_n hX hd
    refine y_st hX hi rfl (fun H locs ce sl ls ls' e h => ?_) h
    intro T hT Z
    obtain ⟨t, a, b⟩ := h T hT Z
    refine ⟨t, ?_, b⟩
    have hd' := yk_d hX hd
    jvm_step Z.here [Z.here.top, ↓top_set Z.here.top, yk_ex hX, yk_by hX, hd', e]
    exact ⟨Or.inl rfl, a⟩
theorem y_astore (hX : y_ok X Y Fn own cc nL f lo il) (k : Nat) {i : Nat} {x : Option Nat} {g : Option Nat → yM α} (ρ' : Option Nat → List (Option Value)) (hd : qm_nth il k = some (pc, .astore i, 2, pc')) (hi : i < nL) (hr : ∀ y, ρ.set i (some (va_rf y)) = ρ' y) (h : ∀ y, yb X Y Fn (g y) pc' (ρ' y) st κ) : yb X Y Fn (yB (yP x) g) pc ρ (va_rf x :: st) κ := by
  have h := h x
  rw [← hr] at h
  show yb X Y Fn (g x) pc ρ (va_rf x :: st) κ
  cases x with
  | none =>
    cases yk_n hX hd
    refine y_st hX hi rfl (fun H locs ce sl ls ls' e h => ?_) h
    intro T hT Z
    obtain ⟨t, a, b⟩ := h T hT Z
    refine ⟨t, ?_, b⟩
    have hd' := yk_d hX hd
    jvm_step Z.here [Z.here.top, ↓top_set Z.here.top, yk_ex hX, yk_by hX, hd', e]
    exact ⟨Or.inl rfl, a⟩
  | some x =>
    cases yk_n hX hd
    refine y_st hX hi rfl (fun H locs ce sl ls ls' e h => ?_) h
    intro T hT Z
    obtain ⟨t, a, b⟩ := h T hT Z
    refine ⟨t, ?_, b⟩
    have hd' := yk_d hX hd
    jvm_step Z.here [Z.here.top, ↓top_set Z.here.top, yk_ex hX, yk_by hX, hd', e]
    exact ⟨Or.inl rfl, a⟩
theorem y_iinc (hX : y_ok X Y Fn own cc nL f lo il) (k : Nat) {i : Nat} {n : Int} {x : Int} {g : Int → yM α} (ρ' : Int → List (Option Value)) (hd : qm_nth il k = some (pc, .iinc i n, 3, pc')) (hi : i < nL) (hx : ρ[i]? = some (some (yi x))) (hr : ∀ y, ρ.set i (some (yi y)) = ρ' y) (h : ∀ y, yb X Y Fn (g y) pc' (ρ' y) st κ) : yb X Y Fn (yB (yP (x + n)) g) pc ρ st κ := by
  cases yk_n hX hd
  have h := h (x + n)
  rw [← hr] at h
  show yb X Y Fn (g (x + n)) pc ρ st κ
  refine y_0 (fun H locs ce sl ls hL hh => ?_) h
  obtain ⟨ls', e1, e2⟩ := hL.put (yk_nL hX hi) (v := yi (x + n)) rfl
  have hd' := yk_d hX hd
  have hg := hL.at hx
  intro T hT Z
  obtain ⟨t, a, b⟩ := hh ls' e2 T hT Z
  refine ⟨t, ?_, b⟩
  unfold yi at e1
  rw [← yi_add] at e1
  jvm_step Z.here [Z.here.top, ↓top_set Z.here.top, yk_ex hX, yk_by hX, hd', hg, e1]
  exact a
theorem y_iadd (hX : y_ok X Y Fn own cc nL f lo il) (k : Nat) {x y : Int} (hd : qm_nth il k = some (pc, .iadd, 1, pc')) (h : yb X Y Fn m pc' ρ (yi (x + y) :: st) κ) : yb X Y Fn m pc ρ (yi y :: yi x :: st) κ := by
  cases yk_n hX hd
  refine y_0 (fun H locs ce sl ls hL hh => lv_iadd (yk_ex hX) (yk_by hX) (yk_d hX hd) ?_) h
  have h2 := hh ls hL
  unfold yi at h2
  rw [← yi_add] at h2
  exact h2
theorem y_isub (hX : y_ok X Y Fn own cc nL f lo il) (k : Nat) {x y : Int} (hd : qm_nth il k = some (pc, .isub, 1, pc')) (h : yb X Y Fn m pc' ρ (yi (x - y) :: st) κ) : yb X Y Fn m pc ρ (yi y :: yi x :: st) κ := by
  cases yk_n hX hd
  refine y_0 (fun H locs ce sl ls hL hh => lv_isub (yk_ex hX) (yk_by hX) (yk_d hX hd) ?_) h
  have h2 := hh ls hL
  unfold yi at h2
  rw [← yi_sub] at h2
  exact h2
theorem y_imul (hX : y_ok X Y Fn own cc nL f lo il) (k : Nat) {x y : Int} (hd : qm_nth il k = some (pc, .imul, 1, pc')) (h : yb X Y Fn m pc' ρ (yi (x * y) :: st) κ) : yb X Y Fn m pc ρ (yi y :: yi x :: st) κ := by
  cases yk_n hX hd
  refine y_0 (fun H locs ce sl ls hL hh => lv_imul (yk_ex hX) (yk_by hX) (yk_d hX hd) ?_) h
  have h2 := hh ls hL
  unfold yi at h2
  rw [← yi_mul] at h2
  exact h2
theorem y_ineg (hX : y_ok X Y Fn own cc nL f lo il) (k : Nat) {x : Int} (hd : qm_nth il k = some (pc, .ineg, 1, pc')) (h : yb X Y Fn m pc' ρ (yi (-x) :: st) κ) : yb X Y Fn m pc ρ (yi x :: st) κ := by
  cases yk_n hX hd
  refine y_0 (fun H locs ce sl ls hL hh => lv_ineg (yk_ex hX) (yk_by hX) (yk_d hX hd) ?_) h
  have h2 := hh ls hL
  unfold yi at h2
  rw [← yi_neg] at h2
  exact h2
theorem y_iand (hX : y_ok X Y Fn own cc nL f lo il) (k : Nat) {x y : Int} (hd : qm_nth il k = some (pc, .iand, 1, pc')) (h : yb X Y Fn m pc' ρ (yi (ybAnd x y) :: st) κ) : yb X Y Fn m pc ρ (yi y :: yi x :: st) κ := by
  cases yk_n hX hd
  refine y_0 (fun H locs ce sl ls hL hh => lv_iand (yk_ex hX) (yk_by hX) (yk_d hX hd) ?_) h
  have h2 := hh ls hL
  unfold yi at h2
  unfold ybAnd at h2
  rw [yi_of] at h2
  exact h2
theorem y_ior (hX : y_ok X Y Fn own cc nL f lo il) (k : Nat) {x y : Int} (hd : qm_nth il k = some (pc, .ior, 1, pc')) (h : yb X Y Fn m pc' ρ (yi (ybOr x y) :: st) κ) : yb X Y Fn m pc ρ (yi y :: yi x :: st) κ := by
  cases yk_n hX hd
  refine y_0 (fun H locs ce sl ls hL hh => lv_ior (yk_ex hX) (yk_by hX) (yk_d hX hd) ?_) h
  have h2 := hh ls hL
  unfold yi at h2
  unfold ybOr at h2
  rw [yi_of] at h2
  exact h2
theorem y_ishl (hX : y_ok X Y Fn own cc nL f lo il) (k : Nat) {x y : Int} (hd : qm_nth il k = some (pc, .ishl, 1, pc')) (h : yb X Y Fn m pc' ρ (yi (ybShl x y) :: st) κ) : yb X Y Fn m pc ρ (yi y :: yi x :: st) κ := by
  cases yk_n hX hd
  refine y_0 (fun H locs ce sl ls hL hh => lv_ishl (yk_ex hX) (yk_by hX) (yk_d hX hd) ?_) h
  have h2 := hh ls hL
  unfold yi at h2
  unfold ybShl at h2
  rw [yi_of] at h2
  exact h2
theorem y_ishr (hX : y_ok X Y Fn own cc nL f lo il) (k : Nat) {x y : Int} (hd : qm_nth il k = some (pc, .ishr, 1, pc')) (h : yb X Y Fn m pc' ρ (yi (ybShr x y) :: st) κ) : yb X Y Fn m pc ρ (yi y :: yi x :: st) κ := by
  cases yk_n hX hd
  refine y_0 (fun H locs ce sl ls hL hh => lv_ishr (yk_ex hX) (yk_by hX) (yk_d hX hd) ?_) h
  have h2 := hh ls hL
  unfold yi at h2
  unfold ybShr at h2
  rw [yi_of] at h2
  exact h2
theorem y_iushr (hX : y_ok X Y Fn own cc nL f lo il) (k : Nat) {x y : Int} (hd : qm_nth il k = some (pc, .iushr, 1, pc')) (h : yb X Y Fn m pc' ρ (yi (ybUshr x y) :: st) κ) : yb X Y Fn m pc ρ (yi y :: yi x :: st) κ := by
  cases yk_n hX hd
  refine y_0 (fun H locs ce sl ls hL hh => lv_iushr (yk_ex hX) (yk_by hX) (yk_d hX hd) rfl ?_) h
  have h2 := hh ls hL
  unfold yi at h2
  unfold ybUshr at h2
  rw [yi_of] at h2
  exact h2
theorem y_i2c (hX : y_ok X Y Fn own cc nL f lo il) (k : Nat) {x : Int} (hd : qm_nth il k = some (pc, .i2c, 1, pc')) (h : yb X Y Fn m pc' ρ (yi (ybC x) :: st) κ) : yb X Y Fn m pc ρ (yi x :: st) κ := by
  cases yk_n hX hd
  refine y_0 (fun H locs ce sl ls hL hh => lv_i2c (yk_ex hX) (yk_by hX) (yk_d hX hd) rfl ?_) h
  have h2 := hh ls hL
  unfold yi at h2
  unfold ybC at h2
  rw [yi_of] at h2
  exact h2
theorem y_i2b (hX : y_ok X Y Fn own cc nL f lo il) (k : Nat) {x : Int} (hd : qm_nth il k = some (pc, .i2b, 1, pc')) (h : yb X Y Fn m pc' ρ (yi (ybB x) :: st) κ) : yb X Y Fn m pc ρ (yi x :: st) κ := by
  cases yk_n hX hd
  refine y_0 (fun H locs ce sl ls hL hh => lv_i2b (yk_ex hX) (yk_by hX) (yk_d hX hd) rfl ?_) h
  have h2 := hh ls hL
  unfold yi at h2
  unfold ybB at h2
  rw [yi_of] at h2
  exact h2
theorem y_dup (hX : y_ok X Y Fn own cc nL f lo il) (k : Nat) {v : Value} (hd : qm_nth il k = some (pc, .dup, 1, pc')) (hv : v.category = 1) (h : yb X Y Fn m pc' ρ (v :: v :: st) κ) : yb X Y Fn m pc ρ (v :: st) κ := by
  cases yk_n hX hd
  exact y_0 (fun H locs ce sl ls hL hh => lv_dup (yk_ex hX) (yk_by hX) (yk_d hX hd) hv (hh ls hL)) h
theorem y_dup_x1 (hX : y_ok X Y Fn own cc nL f lo il) (k : Nat) {v u : Value} (hd : qm_nth il k = some (pc, .dup_x1, 1, pc')) (hv : v.category = 1) (hu : u.category = 1) (h : yb X Y Fn m pc' ρ (v :: u :: v :: st) κ) : yb X Y Fn m pc ρ (v :: u :: st) κ := by
  cases yk_n hX hd
  exact y_0 (fun H locs ce sl ls hL hh => lv_dup_x1 (yk_ex hX) (yk_by hX) (yk_d hX hd) hv hu (hh ls hL)) h
theorem y_dup2 (hX : y_ok X Y Fn own cc nL f lo il) (k : Nat) {v u : Value} (hd : qm_nth il k = some (pc, .dup2, 1, pc')) (hv : v.category = 1) (hu : u.category = 1) (h : yb X Y Fn m pc' ρ (v :: u :: v :: u :: st) κ) : yb X Y Fn m pc ρ (v :: u :: st) κ := by
  cases yk_n hX hd
  exact y_0 (fun H locs ce sl ls hL hh => lv_dup2_11 (yk_ex hX) (yk_by hX) (yk_d hX hd) hv hu (hh ls hL)) h
theorem y_pop (hX : y_ok X Y Fn own cc nL f lo il) (k : Nat) {v : Value} (hd : qm_nth il k = some (pc, .pop, 1, pc')) (hv : v.category = 1) (h : yb X Y Fn m pc' ρ st κ) : yb X Y Fn m pc ρ (v :: st) κ := by
  cases yk_n hX hd
  exact y_0 (fun H locs ce sl ls hL hh => lv_pop (yk_ex hX) (yk_by hX) (yk_d hX hd) hv (hh ls hL)) h
theorem y_i32 {x y : Int} (h : y ≠ 0) (hy : iR y) : ¬ Int32.ofInt y = 0 := fun e => by
  have := congrArg Int32.toInt e
  rw [yi_toInt hy] at this
  exact h this
theorem y_div {x y : Int} (hx : iR x) (hy : iR y) (h0 : y ≠ 0) (h1 : y ≠ -1) : Int32.ofInt x / Int32.ofInt y = Int32.ofInt (x.tdiv y) := by
  apply Int32.toInt_inj.mp
  rw [Int32.toInt_div, yi_toInt hx, yi_toInt hy, Int32.toInt_ofInt]
theorem y_rem {x y : Int} (hx : iR x) (hy : iR y) (h0 : y ≠ 0) (h1 : y ≠ -1) : Int32.ofInt x - Int32.ofInt x / Int32.ofInt y * Int32.ofInt y = Int32.ofInt (x.tmod y) := by
  rw [y_div hx hy h0 h1, yi_mul, yi_sub]
  congr 1
  have := Int.mul_tdiv_add_tmod x y
  rw [Int.mul_comm] at this
  omega
theorem y_idiv (hX : y_ok X Y Fn own cc nL f lo il) (k : Nat) {x y : Int} {g : Int → yM α} (hd : qm_nth il k = some (pc, .idiv, 1, pc')) (h : ∀ z, yb X Y Fn (g z) pc' ρ (yi z :: st) κ) : yb X Y Fn (yB (yDv x y) g) pc ρ (yi y :: yi x :: st) κ := by
  cases yk_n hX hd
  intro w a w' h1 h2
  obtain ⟨z, w1, e1, e2⟩ := yB_some h1
  unfold yDv at e1
  split at e1
  · rename_i hc
    cases e1
    have J := h _ _ a w' e2 h2
    refine ⟨J.1, fun H locs ls hV hL => lv_idiv (yk_ex hX) (yk_by hX) (yk_d hX hd) (y_i32 (x := x) hc.2.1 hc.1.2) ?_⟩
    have h3 := J.2 H locs ls hV hL
    unfold yi at h3
    rw [← y_div hc.1.1 hc.1.2 hc.2.1 hc.2.2] at h3
    exact h3
  · cases e1
theorem y_irem (hX : y_ok X Y Fn own cc nL f lo il) (k : Nat) {x y : Int} {g : Int → yM α} (hd : qm_nth il k = some (pc, .irem, 1, pc')) (h : ∀ z, yb X Y Fn (g z) pc' ρ (yi z :: st) κ) : yb X Y Fn (yB (yRm x y) g) pc ρ (yi y :: yi x :: st) κ := by
  cases yk_n hX hd
  intro w a w' h1 h2
  obtain ⟨z, w1, e1, e2⟩ := yB_some h1
  unfold yRm at e1
  split at e1
  · rename_i hc
    cases e1
    have J := h _ _ a w' e2 h2
    refine ⟨J.1, fun H locs ls hV hL => lv_irem (yk_ex hX) (yk_by hX) (yk_d hX hd) (y_i32 (x := x) hc.2.1 hc.1.2) ?_⟩
    have h3 := J.2 H locs ls hV hL
    unfold yi at h3
    rw [← y_rem hc.1.1 hc.1.2 hc.2.1 hc.2.2] at h3
    exact h3
  · cases e1
theorem y_ite {c : Prop} {hc : Decidable c} {m1 m2 : yM α} (h1 : c → yb X Y Fn m1 pc ρ st κ) (h2 : ¬ c → yb X Y Fn m2 pc ρ st κ) : yb X Y Fn (@ite _ c hc m1 m2) pc ρ st κ := by
  split
  · exact h1 (by assumption)
  · exact h2 (by assumption)
theorem yi_lt {x y : Int} (hx : iR x) (hy : iR y) : Int32.ofInt x < Int32.ofInt y ↔ x < y := by rw [Int32.lt_iff_toInt_lt, yi_toInt hx, yi_toInt hy]
theorem yi_le {x y : Int} (hx : iR x) (hy : iR y) : Int32.ofInt x ≤ Int32.ofInt y ↔ x ≤ y := by rw [Int32.le_iff_toInt_le, yi_toInt hx, yi_toInt hy]
theorem yi_eq {x y : Int} (hx : iR x) (hy : iR y) : Int32.ofInt x = Int32.ofInt y ↔ x = y := by rw [← Int32.toInt_inj, yi_toInt hx, yi_toInt hy]
theorem yi_00 : Int32.ofInt 0 = 0 := by decide
theorem iR_0 : iR 0 := ⟨by omega, by omega⟩
theorem y_iceq (hX : y_ok X Y Fn own cc nL f lo il) (k : Nat) {x y : Int} {m1 m2 : yM α} {off : Int} (tgt : Nat) (hd : qm_nth il k = some (pc, .if_icmp .eq off, 3, pc')) (ht : (pc : Int) + off = (tgt : Int)) (h1 : yb X Y Fn m1 tgt ρ st κ) (h2 : yb X Y Fn m2 pc' ρ st κ) : yb X Y Fn (yB (yR2 x y) fun _ => if x = y then m1 else m2) pc ρ (yi y :: yi x :: st) κ := by
  cases yk_n hX hd
  intro w a w' hm hk
  obtain ⟨u, w1, e1, e2⟩ := yB_some hm
  unfold yR2 at e1
  split at e1
  · rename_i hc
    cases e1
    by_cases c : x = y
    · rw [if_pos c] at e2
      have J := h1 _ a w' e2 hk
      exact ⟨J.1, fun H locs ls hV hL => lv_icmp_eq (yk_ex hX) (yk_by hX) (yk_d hX hd) ht (fun _ => J.2 H locs ls hV hL) (fun q => absurd ((yi_eq hc.1 hc.2).mpr c) q)⟩
    · rw [if_neg c] at e2
      have J := h2 _ a w' e2 hk
      exact ⟨J.1, fun H locs ls hV hL => lv_icmp_eq (yk_ex hX) (yk_by hX) (yk_d hX hd) ht (fun q => absurd ((yi_eq hc.1 hc.2).mp q) c) (fun _ => J.2 H locs ls hV hL)⟩
  · cases e1
theorem y_icne (hX : y_ok X Y Fn own cc nL f lo il) (k : Nat) {x y : Int} {m1 m2 : yM α} {off : Int} (tgt : Nat) (hd : qm_nth il k = some (pc, .if_icmp .ne off, 3, pc')) (ht : (pc : Int) + off = (tgt : Int)) (h1 : yb X Y Fn m1 tgt ρ st κ) (h2 : yb X Y Fn m2 pc' ρ st κ) : yb X Y Fn (yB (yR2 x y) fun _ => if ¬ x = y then m1 else m2) pc ρ (yi y :: yi x :: st) κ := by
  cases yk_n hX hd
  intro w a w' hm hk
  obtain ⟨u, w1, e1, e2⟩ := yB_some hm
  unfold yR2 at e1
  split at e1
  · rename_i hc
    cases e1
    by_cases c : ¬ x = y
    · rw [if_pos c] at e2
      have J := h1 _ a w' e2 hk
      exact ⟨J.1, fun H locs ls hV hL => lv_icmp_ne (yk_ex hX) (yk_by hX) (yk_d hX hd) ht (fun _ => J.2 H locs ls hV hL) (fun q => absurd ((yi_eq hc.1 hc.2).mp q) c)⟩
    · rw [if_neg c] at e2
      have J := h2 _ a w' e2 hk
      exact ⟨J.1, fun H locs ls hV hL => lv_icmp_ne (yk_ex hX) (yk_by hX) (yk_d hX hd) ht (fun q => absurd (fun e => q ((yi_eq hc.1 hc.2).mpr e)) c) (fun _ => J.2 H locs ls hV hL)⟩
  · cases e1
theorem y_iclt (hX : y_ok X Y Fn own cc nL f lo il) (k : Nat) {x y : Int} {m1 m2 : yM α} {off : Int} (tgt : Nat) (hd : qm_nth il k = some (pc, .if_icmp .lt off, 3, pc')) (ht : (pc : Int) + off = (tgt : Int)) (h1 : yb X Y Fn m1 tgt ρ st κ) (h2 : yb X Y Fn m2 pc' ρ st κ) : yb X Y Fn (yB (yR2 x y) fun _ => if x < y then m1 else m2) pc ρ (yi y :: yi x :: st) κ := by
  cases yk_n hX hd
  intro w a w' hm hk
  obtain ⟨u, w1, e1, e2⟩ := yB_some hm
  unfold yR2 at e1
  split at e1
  · rename_i hc
    cases e1
    by_cases c : x < y
    · rw [if_pos c] at e2
      have J := h1 _ a w' e2 hk
      exact ⟨J.1, fun H locs ls hV hL => lv_icmp_lt (yk_ex hX) (yk_by hX) (yk_d hX hd) ht (fun _ => J.2 H locs ls hV hL) (fun q => absurd ((yi_lt hc.1 hc.2).mpr c) q)⟩
    · rw [if_neg c] at e2
      have J := h2 _ a w' e2 hk
      exact ⟨J.1, fun H locs ls hV hL => lv_icmp_lt (yk_ex hX) (yk_by hX) (yk_d hX hd) ht (fun q => absurd ((yi_lt hc.1 hc.2).mp q) c) (fun _ => J.2 H locs ls hV hL)⟩
  · cases e1
theorem y_icge (hX : y_ok X Y Fn own cc nL f lo il) (k : Nat) {x y : Int} {m1 m2 : yM α} {off : Int} (tgt : Nat) (hd : qm_nth il k = some (pc, .if_icmp .ge off, 3, pc')) (ht : (pc : Int) + off = (tgt : Int)) (h1 : yb X Y Fn m1 tgt ρ st κ) (h2 : yb X Y Fn m2 pc' ρ st κ) : yb X Y Fn (yB (yR2 x y) fun _ => if y ≤ x then m1 else m2) pc ρ (yi y :: yi x :: st) κ := by
  cases yk_n hX hd
  intro w a w' hm hk
  obtain ⟨u, w1, e1, e2⟩ := yB_some hm
  unfold yR2 at e1
  split at e1
  · rename_i hc
    cases e1
    by_cases c : y ≤ x
    · rw [if_pos c] at e2
      have J := h1 _ a w' e2 hk
      exact ⟨J.1, fun H locs ls hV hL => lv_icmp_ge (yk_ex hX) (yk_by hX) (yk_d hX hd) ht (fun _ => J.2 H locs ls hV hL) (fun q => absurd ((yi_le hc.2 hc.1).mpr c) q)⟩
    · rw [if_neg c] at e2
      have J := h2 _ a w' e2 hk
      exact ⟨J.1, fun H locs ls hV hL => lv_icmp_ge (yk_ex hX) (yk_by hX) (yk_d hX hd) ht (fun q => absurd ((yi_le hc.2 hc.1).mp q) c) (fun _ => J.2 H locs ls hV hL)⟩
  · cases e1
theorem y_icgt (hX : y_ok X Y Fn own cc nL f lo il) (k : Nat) {x y : Int} {m1 m2 : yM α} {off : Int} (tgt : Nat) (hd : qm_nth il k = some (pc, .if_icmp .gt off, 3, pc')) (ht : (pc : Int) + off = (tgt : Int)) (h1 : yb X Y Fn m1 tgt ρ st κ) (h2 : yb X Y Fn m2 pc' ρ st κ) : yb X Y Fn (yB (yR2 x y) fun _ => if y < x then m1 else m2) pc ρ (yi y :: yi x :: st) κ := by
  cases yk_n hX hd
  intro w a w' hm hk
  obtain ⟨u, w1, e1, e2⟩ := yB_some hm
  unfold yR2 at e1
  split at e1
  · rename_i hc
    cases e1
    by_cases c : y < x
    · rw [if_pos c] at e2
      have J := h1 _ a w' e2 hk
      exact ⟨J.1, fun H locs ls hV hL => lv_icmp_gt (yk_ex hX) (yk_by hX) (yk_d hX hd) ht (fun _ => J.2 H locs ls hV hL) (fun q => absurd ((yi_lt hc.2 hc.1).mpr c) q)⟩
    · rw [if_neg c] at e2
      have J := h2 _ a w' e2 hk
      exact ⟨J.1, fun H locs ls hV hL => lv_icmp_gt (yk_ex hX) (yk_by hX) (yk_d hX hd) ht (fun q => absurd ((yi_lt hc.2 hc.1).mp q) c) (fun _ => J.2 H locs ls hV hL)⟩
  · cases e1
theorem y_icle (hX : y_ok X Y Fn own cc nL f lo il) (k : Nat) {x y : Int} {m1 m2 : yM α} {off : Int} (tgt : Nat) (hd : qm_nth il k = some (pc, .if_icmp .le off, 3, pc')) (ht : (pc : Int) + off = (tgt : Int)) (h1 : yb X Y Fn m1 tgt ρ st κ) (h2 : yb X Y Fn m2 pc' ρ st κ) : yb X Y Fn (yB (yR2 x y) fun _ => if x ≤ y then m1 else m2) pc ρ (yi y :: yi x :: st) κ := by
  cases yk_n hX hd
  intro w a w' hm hk
  obtain ⟨u, w1, e1, e2⟩ := yB_some hm
  unfold yR2 at e1
  split at e1
  · rename_i hc
    cases e1
    by_cases c : x ≤ y
    · rw [if_pos c] at e2
      have J := h1 _ a w' e2 hk
      exact ⟨J.1, fun H locs ls hV hL => lv_icmp_le (yk_ex hX) (yk_by hX) (yk_d hX hd) ht (fun _ => J.2 H locs ls hV hL) (fun q => absurd ((yi_le hc.1 hc.2).mpr c) q)⟩
    · rw [if_neg c] at e2
      have J := h2 _ a w' e2 hk
      exact ⟨J.1, fun H locs ls hV hL => lv_icmp_le (yk_ex hX) (yk_by hX) (yk_d hX hd) ht (fun q => absurd ((yi_le hc.1 hc.2).mp q) c) (fun _ => J.2 H locs ls hV hL)⟩
  · cases e1
theorem y_ifeq (hX : y_ok X Y Fn own cc nL f lo il) (k : Nat) {x : Int} {m1 m2 : yM α} {off : Int} (tgt : Nat) (hd : qm_nth il k = some (pc, .ifCond .eq off, 3, pc')) (ht : (pc : Int) + off = (tgt : Int)) (h1 : yb X Y Fn m1 tgt ρ st κ) (h2 : yb X Y Fn m2 pc' ρ st κ) : yb X Y Fn (yB (yR x) fun _ => if x = 0 then m1 else m2) pc ρ (yi x :: st) κ := by
  cases yk_n hX hd
  intro w a w' hm hk
  obtain ⟨u, w1, e1, e2⟩ := yB_some hm
  unfold yR at e1
  split at e1
  · rename_i hc
    cases e1
    by_cases c : x = 0
    · rw [if_pos c] at e2
      have J := h1 _ a w' e2 hk
      exact ⟨J.1, fun H locs ls hV hL => lv_if_eq (yk_ex hX) (yk_by hX) (yk_d hX hd) ht (fun _ => J.2 H locs ls hV hL) (fun q => absurd ((yi_eq hc iR_0).mpr c) q)⟩
    · rw [if_neg c] at e2
      have J := h2 _ a w' e2 hk
      exact ⟨J.1, fun H locs ls hV hL => lv_if_eq (yk_ex hX) (yk_by hX) (yk_d hX hd) ht (fun q => absurd ((yi_eq hc iR_0).mp q) c) (fun _ => J.2 H locs ls hV hL)⟩
  · cases e1
theorem y_ifne (hX : y_ok X Y Fn own cc nL f lo il) (k : Nat) {x : Int} {m1 m2 : yM α} {off : Int} (tgt : Nat) (hd : qm_nth il k = some (pc, .ifCond .ne off, 3, pc')) (ht : (pc : Int) + off = (tgt : Int)) (h1 : yb X Y Fn m1 tgt ρ st κ) (h2 : yb X Y Fn m2 pc' ρ st κ) : yb X Y Fn (yB (yR x) fun _ => if ¬ x = 0 then m1 else m2) pc ρ (yi x :: st) κ := by
  cases yk_n hX hd
  intro w a w' hm hk
  obtain ⟨u, w1, e1, e2⟩ := yB_some hm
  unfold yR at e1
  split at e1
  · rename_i hc
    cases e1
    by_cases c : ¬ x = 0
    · rw [if_pos c] at e2
      have J := h1 _ a w' e2 hk
      exact ⟨J.1, fun H locs ls hV hL => lv_if_ne (yk_ex hX) (yk_by hX) (yk_d hX hd) ht (fun _ => J.2 H locs ls hV hL) (fun q => absurd ((yi_eq hc iR_0).mp q) c)⟩
    · rw [if_neg c] at e2
      have J := h2 _ a w' e2 hk
      exact ⟨J.1, fun H locs ls hV hL => lv_if_ne (yk_ex hX) (yk_by hX) (yk_d hX hd) ht (fun q => absurd (fun e => q ((yi_eq hc iR_0).mpr e)) c) (fun _ => J.2 H locs ls hV hL)⟩
  · cases e1
theorem y_iflt (hX : y_ok X Y Fn own cc nL f lo il) (k : Nat) {x : Int} {m1 m2 : yM α} {off : Int} (tgt : Nat) (hd : qm_nth il k = some (pc, .ifCond .lt off, 3, pc')) (ht : (pc : Int) + off = (tgt : Int)) (h1 : yb X Y Fn m1 tgt ρ st κ) (h2 : yb X Y Fn m2 pc' ρ st κ) : yb X Y Fn (yB (yR x) fun _ => if x < 0 then m1 else m2) pc ρ (yi x :: st) κ := by
  cases yk_n hX hd
  intro w a w' hm hk
  obtain ⟨u, w1, e1, e2⟩ := yB_some hm
  unfold yR at e1
  split at e1
  · rename_i hc
    cases e1
    by_cases c : x < 0
    · rw [if_pos c] at e2
      have J := h1 _ a w' e2 hk
      exact ⟨J.1, fun H locs ls hV hL => lv_if_lt (yk_ex hX) (yk_by hX) (yk_d hX hd) ht (fun _ => J.2 H locs ls hV hL) (fun q => absurd ((yi_lt hc iR_0).mpr c) q)⟩
    · rw [if_neg c] at e2
      have J := h2 _ a w' e2 hk
      exact ⟨J.1, fun H locs ls hV hL => lv_if_lt (yk_ex hX) (yk_by hX) (yk_d hX hd) ht (fun q => absurd ((yi_lt hc iR_0).mp q) c) (fun _ => J.2 H locs ls hV hL)⟩
  · cases e1
theorem y_ifge (hX : y_ok X Y Fn own cc nL f lo il) (k : Nat) {x : Int} {m1 m2 : yM α} {off : Int} (tgt : Nat) (hd : qm_nth il k = some (pc, .ifCond .ge off, 3, pc')) (ht : (pc : Int) + off = (tgt : Int)) (h1 : yb X Y Fn m1 tgt ρ st κ) (h2 : yb X Y Fn m2 pc' ρ st κ) : yb X Y Fn (yB (yR x) fun _ => if 0 ≤ x then m1 else m2) pc ρ (yi x :: st) κ := by
  cases yk_n hX hd
  intro w a w' hm hk
  obtain ⟨u, w1, e1, e2⟩ := yB_some hm
  unfold yR at e1
  split at e1
  · rename_i hc
    cases e1
    by_cases c : 0 ≤ x
    · rw [if_pos c] at e2
      have J := h1 _ a w' e2 hk
      exact ⟨J.1, fun H locs ls hV hL => lv_if_ge (yk_ex hX) (yk_by hX) (yk_d hX hd) ht (fun _ => J.2 H locs ls hV hL) (fun q => absurd ((yi_le iR_0 hc).mpr c) q)⟩
    · rw [if_neg c] at e2
      have J := h2 _ a w' e2 hk
      exact ⟨J.1, fun H locs ls hV hL => lv_if_ge (yk_ex hX) (yk_by hX) (yk_d hX hd) ht (fun q => absurd ((yi_le iR_0 hc).mp q) c) (fun _ => J.2 H locs ls hV hL)⟩
  · cases e1
theorem y_ifgt (hX : y_ok X Y Fn own cc nL f lo il) (k : Nat) {x : Int} {m1 m2 : yM α} {off : Int} (tgt : Nat) (hd : qm_nth il k = some (pc, .ifCond .gt off, 3, pc')) (ht : (pc : Int) + off = (tgt : Int)) (h1 : yb X Y Fn m1 tgt ρ st κ) (h2 : yb X Y Fn m2 pc' ρ st κ) : yb X Y Fn (yB (yR x) fun _ => if 0 < x then m1 else m2) pc ρ (yi x :: st) κ := by
  cases yk_n hX hd
  intro w a w' hm hk
  obtain ⟨u, w1, e1, e2⟩ := yB_some hm
  unfold yR at e1
  split at e1
  · rename_i hc
    cases e1
    by_cases c : 0 < x
    · rw [if_pos c] at e2
      have J := h1 _ a w' e2 hk
      exact ⟨J.1, fun H locs ls hV hL => lv_if_gt (yk_ex hX) (yk_by hX) (yk_d hX hd) ht (fun _ => J.2 H locs ls hV hL) (fun q => absurd ((yi_lt iR_0 hc).mpr c) q)⟩
    · rw [if_neg c] at e2
      have J := h2 _ a w' e2 hk
      exact ⟨J.1, fun H locs ls hV hL => lv_if_gt (yk_ex hX) (yk_by hX) (yk_d hX hd) ht (fun q => absurd ((yi_lt iR_0 hc).mp q) c) (fun _ => J.2 H locs ls hV hL)⟩
  · cases e1
theorem y_ifle (hX : y_ok X Y Fn own cc nL f lo il) (k : Nat) {x : Int} {m1 m2 : yM α} {off : Int} (tgt : Nat) (hd : qm_nth il k = some (pc, .ifCond .le off, 3, pc')) (ht : (pc : Int) + off = (tgt : Int)) (h1 : yb X Y Fn m1 tgt ρ st κ) (h2 : yb X Y Fn m2 pc' ρ st κ) : yb X Y Fn (yB (yR x) fun _ => if x ≤ 0 then m1 else m2) pc ρ (yi x :: st) κ := by
  cases yk_n hX hd
  intro w a w' hm hk
  obtain ⟨u, w1, e1, e2⟩ := yB_some hm
  unfold yR at e1
  split at e1
  · rename_i hc
    cases e1
    by_cases c : x ≤ 0
    · rw [if_pos c] at e2
      have J := h1 _ a w' e2 hk
      exact ⟨J.1, fun H locs ls hV hL => lv_if_le (yk_ex hX) (yk_by hX) (yk_d hX hd) ht (fun _ => J.2 H locs ls hV hL) (fun q => absurd ((yi_le hc iR_0).mpr c) q)⟩
    · rw [if_neg c] at e2
      have J := h2 _ a w' e2 hk
      exact ⟨J.1, fun H locs ls hV hL => lv_if_le (yk_ex hX) (yk_by hX) (yk_d hX hd) ht (fun q => absurd ((yi_le hc iR_0).mp q) c) (fun _ => J.2 H locs ls hV hL)⟩
  · cases e1
/-- a reference is looked at -/
theorem y_ifnonnull (hX : y_ok X Y Fn own cc nL f lo il) (k : Nat) {x : Option Nat} {m1 m2 : yM α} {off : Int} (tgt : Nat) (hd : qm_nth il k = some (pc, .ifnonnull off, 3, pc')) (ht : (pc : Int) + off = (tgt : Int)) (h1 : yb X Y Fn m1 tgt ρ st κ) (h2 : yb X Y Fn m2 pc' ρ st κ) : yb X Y Fn (if ¬ x = none then m1 else m2) pc ρ (va_rf x :: st) κ := by
  cases yk_n hX hd
  cases x with
  | none =>
    rw [if_neg (fun q => q rfl)]
    exact y_0 (fun H locs ce sl ls hL hh => lv_ifnonnullN (yk_ex hX) (yk_by hX) (yk_d hX hd) (hh ls hL)) h2
  | some x =>
    rw [if_pos (fun q => by cases q)]
    exact y_0 (fun H locs ce sl ls hL hh => lv_ifnonnull (yk_ex hX) (yk_by hX) (yk_d hX hd) ht (hh ls hL)) h1
/-- a switch: the cases one by one -/
theorem y_swr {x : Int} (h : yb X Y Fn m pc ρ (yi x :: st) κ) : yb X Y Fn (yB (yR x) fun _ => m) pc ρ (yi x :: st) κ := by
  intro w a w' hm hk
  obtain ⟨u, w1, e1, e2⟩ := yB_some hm
  unfold yR at e1
  split at e1
  · cases e1; exact h w a w' e2 hk
  · cases e1
theorem y_swR {x : Int} (h : iR x → yb X Y Fn m pc ρ (yi x :: st) κ) : yb X Y Fn (yB (yR x) fun _ => m) pc ρ (yi x :: st) κ := by
  intro w a w' hm hk
  obtain ⟨u, w1, e1, e2⟩ := yB_some hm
  unfold yR at e1
  split at e1
  · rename_i hc; cases e1; exact h hc w a w' e2 hk
  · cases e1
theorem y_swc {x : Int} {m1 m2 : yM α} (c : Int) (h1 : yb X Y Fn m1 pc ρ (yi c :: st) κ) (h2 : ¬ x = c → yb X Y Fn m2 pc ρ (yi x :: st) κ) : yb X Y Fn (if x = c then m1 else m2) pc ρ (yi x :: st) κ := by
  refine y_ite (fun e => ?_) h2
  rw [e]
  exact h1
theorem y_tin (hX : y_ok X Y Fn own cc nL f lo il) (k : Nat) {x : Int} {dflt a b : Int} {offs : Array Int} {len : Nat} {off : Int} (tgt : Nat) (hd : qm_nth il k = some (pc, .tableswitch dflt a b offs, len, pc')) (h1 : ¬ (Int32.ofInt x).toInt < a) (h2 : ¬ b < (Int32.ofInt x).toInt) (ho : offs[((Int32.ofInt x).toInt - a).toNat]? = some off) (ht : (pc : Int) + off = (tgt : Int)) (h : yb X Y Fn m tgt ρ st κ) : yb X Y Fn m pc ρ (yi x :: st) κ :=
  y_0 (fun H locs ce sl ls hL hh => lv_tableIn (yk_ex hX) (yk_by hX) (yk_d hX hd) h1 h2 ho ht (hh ls hL)) h
theorem y_tout (hX : y_ok X Y Fn own cc nL f lo il) (k : Nat) {x : Int} {dflt a b : Int} {offs : Array Int} {len : Nat} (tgt : Nat) (hd : qm_nth il k = some (pc, .tableswitch dflt a b offs, len, pc')) (hx : iR x) (h1 : x < a ∨ b < x) (ht : (pc : Int) + dflt = (tgt : Int)) (h : yb X Y Fn m tgt ρ st κ) : yb X Y Fn m pc ρ (yi x :: st) κ :=
  y_0 (fun H locs ce sl ls hL hh => lv_tableOut (yk_ex hX) (yk_by hX) (yk_d hX hd) (by rw [yi_toInt hx]; exact h1) ht (hh ls hL)) h
end YB
