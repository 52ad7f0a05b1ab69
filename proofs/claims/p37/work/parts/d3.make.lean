/-! ===== the law's fields; making, copying, texts ===== -/
def y_FN (own : String) (idx t j : Nat) (host : String) : Prop := ∃ C T N, qm_cls t C T N ∧ j < N ∧ Cond.fieldLinkNest own idx (T j).1 (T j).2.1 (T j).2.2.1 host ∈ qm_nw
/-- mode 0: a plain field, 1: a final one in a constructor, 2: a nest mate's -/
def y_FP (own : String) (idx t j : Nat) (ty : FieldType) (mode : Nat) : Prop := ∃ (C : String) (T : u_T) (N : Nat) (tys : Nat → FieldType), qm_cls t C T N ∧ j < N ∧ ((mode = 2 ∧ Cond.fieldLinkNest own idx (T j).1 (T j).2.1 (T j).2.2.1 "ColumnsLevelledLaw" ∈ qm_nw) ∨ (mode ≠ 2 ∧ Cond.fieldLink own idx (T j).1 (T j).2.1 (T j).2.2.1 ∈ qm_tb)) ∧ (∀ k, k < N → parseFieldDescriptor (T k).2.2.1 = some (tys k)) ∧ (∀ a, a < N → ∀ b, b < N → a ≠ b → (T a).2.1 ≠ (T b).2.1) ∧ ((mode = 1 ∧ (T j).2.2.2 = true ∧ (T j).1 = own) ∨ (mode ≠ 1 ∧ (T j).2.2.2 = false)) ∧ parseFieldDescriptor (T j).2.2.1 = some ty ∧ N = qm_nf t
def y_N (own : String) (idx t : Nat) : Prop := ∃ (C : String) (T : u_T) (N : Nat) (ty : Nat → FieldType), qm_cls t C T N ∧ (∀ k, k < N → parseFieldDescriptor (T k).2.2.1 = some (ty k)) ∧ Cond.classLink own idx C ∈ qm_tb ∧ Cond.instantiable C N ∈ qm_tb ∧ Cond.initialized C ∈ qm_tb ∧ (∀ j, j < N → defaultValue (ty j) = if qm_ft t j = true then .null else .int 0) ∧ N = qm_nf t
section YV
variable {p : Program} {l : Launch} {e : Env} {R : Room} {s : State} {m : MethodId} {args : Array Value} {below : List Frame} {meth : Method} {c : Code} {H : Heap} {locs : List Loc} {cells slots : Nat} {Q : State → Prop} {cc : ByteArray} {pc : Nat} {ls : Array Slot} {rest : List Value} {a : Nat}
/-- a row is cloned: the new one stands at the heap's end -/
theorem yv_clone (hexec : p.tables.exec = Jvm.exec) (hb : c.code = cc) (hml : c.maxLocals = ls.size) {own ad : String} {index : Nat} (hown : s.vm.findClass own = some m.cls)
    (hlink : (Cond.methodLink own index ⟨ad, "clone", "()Ljava/lang/Object;"⟩).before args s = true) (hsame : (Cond.sameMethod ad "java/lang/Object" "clone" "()Ljava/lang/Object;").before args s = true)
    (hnat : (Cond.native ⟨"java/lang/Object", "clone", "()Ljava/lang/Object;"⟩).before args s = true) (hinst : (Cond.instanceMethod ⟨"java/lang/Object", "clone", "()Ljava/lang/Object;"⟩).before args s = true)
    (hsel : (Cond.selects ad ⟨ad, "clone", "()Ljava/lang/Object;"⟩ ⟨"java/lang/Object", "clone", "()Ljava/lang/Object;"⟩).before args s = true) (hcl : va_Nw (.castable ad "java/lang/Cloneable") s)
    {cA : ClassId} {n : Nat} {f : Nat → Int32} {ty : FieldType} (hc : H[a]? = some (vp_cell cA (n, .inl f))) (hAr : ArrOfT s cA ty) (hnm : s.vm.findClass ad = some cA) (hfit : ∀ x : Int32, fits ty (.int x) = true)
    (hframes : 1 ≤ R.frames) (hlocals : (rest.map fun v => v.category).sum + 14 ≤ R.locals) (hcells : cells + 1 ≤ R.cells) (hslots : slots + n ≤ R.slots) (hdg : decode cc pc = .ok (.invokevirtual index, 3))
    (kk : ∀ H1 : Heap, H1[H.size]? = some (vp_cell cA (n, .inl f)) → H1.size = H.size + 1 → (∀ q : Nat, q < H.size → H1[q]? = H[q]?) → W p l e R s m args below meth c H1 locs (cells + 1) (slots + n) Q (F0 m (pc + 3) ls (.ref H.size :: rest))) : W p l e R s m args below meth c H locs cells slots Q (F0 m pc ls (.ref a :: rest)) := by
  have hsz : (vp_cell cA (n, .inl f)).slots.size = n := arrV_size _ _ _
  obtain ⟨c0, t0', f1, f2, f3⟩ := Cond.castable_spec (va_Nw.use (A := args) rfl hcl)
  cases hnm.symm.trans f1
  intro T hT X
  obtain ⟨-, kA, hkA, comp, hkind⟩ := State.isArrayOf_alike X.warmed.alike (hAr 0 (fun _ => .null))
  obtain ⟨-, kS, hkS, compS, hkindS⟩ := hAr 0 (fun _ => .null)
  obtain ⟨vm', X', st⟩ := X.cloneArray hexec hown hlink hsame hnat hinst hsel (a := a) (cell := vp_cell cA (n, .inl f)) (by rw [hT]; exact hc) (fun k h => by cases h) (fun h => by cases h) hnm f2 f3
    (fun i v hv => by
      have hk' : T.vm.classes[cA]? = some kA := hkA
      have hi : i < n := by
        have := (Array.getElem?_eq_some_iff.mp hv).1
        rw [hsz] at this; exact this
      have e1 : (vp_cell cA (n, .inl f)).slots[i]? = some (.int (f i)) := arrV_read _ _ hi
      rw [e1] at hv
      cases hv
      show T.fitsSlot cA .none i (.int (f i)) = true
      simpa [State.fitsSlot, State.slotType?, hk', hkind] using hfit (f i))
    (g := F0 m pc ls (.ref a :: rest)) rfl (by rw [hml]) rfl (by rw [hb]; exact hdg) hframes (by show 2 * 0 + _ + 14 ≤ _; omega) hcells (by rw [hsz]; exact hslots) (hloader := Vm.clonesLoader_of_array hkS hkindS)
  have hcE : ({ cls := (vp_cell cA (n, .inl f)).cls, slots := (vp_cell cA (n, .inl f)).slots } : Cell) = vp_cell cA (n, .inl f) := rfl
  rw [hcE, hsz] at X'
  generalize hH1 : H.push (vp_cell cA (n, .inl f)) = H1
  have z1 : H1.size = H.size + 1 := by rw [← hH1, Array.size_push]
  have e1 : H1[H.size]? = some (vp_cell cA (n, .inl f)) := by rw [← hH1, Array.getElem?_push_size]
  have o1 : ∀ q : Nat, q < H.size → H1[q]? = H[q]? := fun q hq => by rw [← hH1, Array.getElem?_push, if_neg (Nat.ne_of_lt hq)]
  obtain ⟨t, b1, b2⟩ := kk H1 e1 z1 o1 ((T.setVm vm').pushCell (vp_cell cA (n, .inl f))) (by rw [← hH1, ← hT]; rfl) X'
  refine ⟨t, st t ?_, b2⟩
  rw [hcE, hT]
  exact b1
/-- System.arraycopy into another row of numbers -/
theorem yv_copy (hexec : p.tables.exec = Jvm.exec) (hb : c.code = cc) (hml : c.maxLocals = ls.size) {own : String} {index : Nat} (hown : s.vm.findClass own = some m.cls) (hlink : (Cond.methodLink own index arraycopyName).before args s = true) (hnat : (Cond.native arraycopyName).before args s = true) (hstat : (Cond.static arraycopyName).before args s = true) (hini : (Cond.initialized "java/lang/System").before args s = true)
    {b0 n0 n1 : Nat} {cs : Cell} {f g : Nat → Int32} {c1 : ClassId} {ty : FieldType} (hc0 : H[b0]? = some cs) (hs0 : s.isArrayOf cs ty) (hs1 : cs.vm ≠ .unknown) (hs2 : n0 ≤ cs.slots.size) (hs3 : ∀ j, j < n0 → cs.slots[j]? = some (.int (f j))) (hc1 : H[a]? = some (vp_cell c1 (n1, .inl g))) (hA1 : ArrOfT s c1 ty) (hprim : refKind ty = false)
    {sp dp n : Int32} (h1 : ¬ sp < 0) (h2 : ¬ dp < 0) (h3 : ¬ n < 0) (h4 : sp.toNatClampNeg + n.toNatClampNeg ≤ n0) (h5 : dp.toNatClampNeg + n.toNatClampNeg ≤ n1) (hfit : ∀ i, i < n.toNatClampNeg → fits ty (.int (f (sp.toNatClampNeg + i))) = true)
    (hframes : 1 ≤ R.frames) (hlocals : (rest.map fun v => v.category).sum + (nativeFrameWords "java/lang/System" "arraycopy" 5 + 11) ≤ R.locals) (hdg : decode cc pc = .ok (.invokestatic index, 3))
    (kk : ∀ (H1 : Heap) (locs1 : List Loc), H1[a]? = some (vp_cell c1 (n1, .inl (va_cpy f g sp.toNatClampNeg dp.toNatClampNeg n.toNatClampNeg))) → H1.size = H.size → (∀ q : Nat, q ≠ a → H1[q]? = H[q]?) → (∀ l ∈ locs1, l ∈ locs ∨ l.base = a) → W p l e R s m args below meth c H1 locs1 cells slots Q (F0 m (pc + 3) ls rest)) : W p l e R s m args below meth c H locs cells slots Q (F0 m pc ls (.int n :: .int dp :: .ref a :: .int sp :: .ref b0 :: rest)) := by
  have nn : ∀ z : Int32, ¬ z < 0 → z.toInt = (z.toNatClampNeg : Int) := by
    intro z hz
    have hz0 : (0 : Int) ≤ z.toInt := by
      have := Int32.not_lt.mp hz
      simpa using Int32.le_iff_toInt_le.mp this
    show z.toInt = ((z.toInt.toNat : Nat) : Int)
    omega
  intro T hT X
  obtain ⟨hs6, k0, hk0, cm0, hkk0⟩ := hs0
  obtain ⟨-, k1, hk1, cm1, hkk1⟩ := hA1 n1 (fun j => .int (g j))
  obtain ⟨vm', X', step⟩ := X.arraycopy hexec hown hlink hnat hstat hini (src := b0) (dst := a) (cs := cs) (cd := vp_cell c1 (n1, .inl g)) (srcPos := sp) (destPos := dp) (n := n) (by rw [hT]; exact hc0) (by rw [hT]; exact hc1)
    hs6 (fun _ h => by cases h) hs1 (fun h => by cases h) hk0 hk1 hkk0 hkk1 (by simp [hprim]) h1 h2 h3
    (by rw [nn sp h1, nn n h3]; omega)
    (by rw [nn dp h2, nn n h3]; show ¬ _ > ((arrV c1 n1 (fun j => .int (g j))).slots.size : Int); rw [arrV_size]; omega)
    (fun vm₁ _ i hi => by
      have e : cs.slots.getD (sp.toNatClampNeg + i) .null = .int (f (sp.toNatClampNeg + i)) := by
        rw [Array.getD_eq_getD_getElem?, hs3 _ (by omega)]
        rfl
      refine ⟨?_, ?_⟩
      · rw [e]
        exact hfit i hi
      · rw [e]
        exact trivial)
    (g := F0 m pc ls (.int n :: .int dp :: .ref a :: .int sp :: .ref b0 :: rest)) rfl (by rw [hml]) (rest := rest) rfl (by rw [hb]; exact hdg) hframes (by show 2 * 0 + _ + _ ≤ _; omega)
  have e1 : copied cs (vp_cell c1 (n1, .inl g)) sp dp n = vp_cell c1 (n1, .inl (va_cpy f g sp.toNatClampNeg dp.toNatClampNeg n.toNatClampNeg)) := va_copiedX (fun z => .int z) cs c1 f g hs3 h4
  rw [e1] at X' step
  have hl : a < H.size := (Array.getElem?_eq_some_iff.mp hc1).1
  have hheap : ((T.setVm vm').setCell a (vp_cell c1 (n1, .inl (va_cpy f g sp.toNatClampNeg dp.toNatClampNeg n.toNatClampNeg)))).heap = H.setIfInBounds a (vp_cell c1 (n1, .inl (va_cpy f g sp.toNatClampNeg dp.toNatClampNeg n.toNatClampNeg))) := by rw [← hT]; rfl
  have oq : ∀ q : Nat, q ≠ a → (H.setIfInBounds a (vp_cell c1 (n1, .inl (va_cpy f g sp.toNatClampNeg dp.toNatClampNeg n.toNatClampNeg))))[q]? = H[q]? := fun q hq => by simp [Array.getElem?_setIfInBounds, Ne.symm hq]
  obtain ⟨t, a1, b1⟩ := kk _ _ (show (H.setIfInBounds a _)[a]? = some _ by simp [Array.getElem?_setIfInBounds, hl]) (by simp) oq (fun q hq => by
      rcases List.mem_append.mp hq with h | h
      · exact Or.inl h
      · obtain ⟨z, -, hz⟩ := List.mem_map.mp h
        rw [← hz]
        exact Or.inr rfl) _ hheap X'
  exact ⟨t, step t a1, b1⟩
end YV
section YB
variable {X : qm_X} {Y : yY} {Fn : yFn} {own : String} {cc : ByteArray} {nL f lo : Nat} {il : List qm_I}
variable {α : Type} {m : yM α} {pc pc' : Nat} {ρ : List (Option Value)} {st : List Value} {κ : α → yW → Prop}
theorem yj_get (hX : y_ok X Y Fn own cc nL f lo il) {k idx t j p : Nat} {w : yW} {H : Heap} {locs : List Loc} {ce sl : Nat} {ls : Array Slot} (hV : yV X Y Fn w H locs) (hd : qm_nth il k = some (pc, .getfield idx, 3, pc')) (hf : qm_FL own idx t j) (ht : (w_kd w p).1 = 10 + t) (h9 : 9 ≤ t ∧ t ≤ 12) (h : yq X H locs ce sl (F0 (qx_m X) pc' ls ((if qm_ft t j = true then va_rf (w_rv w p (j : Int)) else yi (w_iv w p (j : Int))) :: st))) : yq X H locs ce sl (F0 (qx_m X) pc ls (.ref p :: st)) := by
  cases yk_n hX hd
  obtain ⟨C, T, N, ⟨hc, hw⟩, hj, hl⟩ := hf
  exact va_get (D := (qx_G X).2.1) (ci := t) (Ts := qm_tb) (yk_ex hX) (yk_by hX) (yk_ts hX) hw (yk_ow hX) (yk_K hX) (va_one (hV.2.2.1.obj ht h9)) 0 rfl hc j hj (yk_ts hX _ hl) (fun x h => h) (y_fs_at (by rw [qm_cls_nf hc]; exact hj)) (yk_d hX hd) h
theorem yj_getN (hX : y_ok X Y Fn own cc nL f lo il) {k idx t j p : Nat} {host : String} {w : yW} {H : Heap} {locs : List Loc} {ce sl : Nat} {ls : Array Slot} (hV : yV X Y Fn w H locs) (hd : qm_nth il k = some (pc, .getfield idx, 3, pc')) (hf : y_FN own idx t j host) (ht : (w_kd w p).1 = 10 + t) (h9 : 9 ≤ t ∧ t ≤ 12) (h : yq X H locs ce sl (F0 (qx_m X) pc' ls ((if qm_ft t j = true then va_rf (w_rv w p (j : Int)) else yi (w_iv w p (j : Int))) :: st))) : yq X H locs ce sl (F0 (qx_m X) pc ls (.ref p :: st)) := by
  cases yk_n hX hd
  obtain ⟨C, T, N, ⟨hc, hw⟩, hj, hl⟩ := hf
  exact va_getN (D := (qx_G X).2.1) (ci := t) (Ts := qm_tb) (yk_ex hX) (yk_by hX) (yk_ts hX) hw (yk_ow hX) (yk_K hX) (va_one (hV.2.2.1.obj ht h9)) 0 rfl hc j hj (va_Nw.use rfl (qk_nw hX.1 _ hl)) (fun x h => h) (y_fs_at (by rw [qm_cls_nf hc]; exact hj)) (yk_d hX hd) h
theorem y_get (hX : y_ok X Y Fn own cc nL f lo il) (k : Nat) {idx t j : Nat} {a : Option Nat} {g : Int → yM α} (hd : qm_nth il k = some (pc, .getfield idx, 3, pc')) (hf : qm_FL own idx t j) (h9 : 9 ≤ t ∧ t ≤ 11) (hft : qm_ft t j = false) (h : ∀ x, yb X Y Fn (g x) pc' ρ (yi x :: st) κ) : yb X Y Fn (yB (yGt (10 + t) a (j : Int)) g) pc ρ (va_rf a :: st) κ := by
  intro w r w' h1 h2
  obtain ⟨x, w1, e1, e2⟩ := yB_some h1
  cases a with
  | none => cases e1
  | some p =>
    unfold yGt at e1
    dsimp only at e1
    split at e1
    · rename_i hc
      cases e1
      have J := h _ _ r w' e2 h2
      have ht : (w_kd w p).1 = 10 + t := by rcases hc with q | q <;> omega
      refine ⟨J.1, fun H locs ls hV hL => yj_get hX hV hd hf ht (by omega) ?_⟩
      rw [if_neg (by rw [hft]; decide)]
      exact J.2 H locs ls hV hL
    · cases e1
theorem y_getR (hX : y_ok X Y Fn own cc nL f lo il) (k : Nat) {idx t j : Nat} {a : Option Nat} {g : Option Nat → yM α} (hd : qm_nth il k = some (pc, .getfield idx, 3, pc')) (hf : qm_FL own idx t j) (h9 : 9 ≤ t ∧ t ≤ 11) (hft : qm_ft t j = true) (h : ∀ x, yb X Y Fn (g x) pc' ρ (va_rf x :: st) κ) : yb X Y Fn (yB (yGr (10 + t) a (j : Int)) g) pc ρ (va_rf a :: st) κ := by
  intro w r w' h1 h2
  obtain ⟨x, w1, e1, e2⟩ := yB_some h1
  cases a with
  | none => cases e1
  | some p =>
    unfold yGr at e1
    dsimp only at e1
    split at e1
    · rename_i hc
      cases e1
      have J := h _ _ r w' e2 h2
      have ht : (w_kd w p).1 = 10 + t := by rcases hc with q | q <;> omega
      refine ⟨J.1, fun H locs ls hV hL => yj_get hX hV hd hf ht (by omega) ?_⟩
      rw [if_pos hft]
      exact J.2 H locs ls hV hL
    · cases e1
theorem y_getN (hX : y_ok X Y Fn own cc nL f lo il) (k : Nat) {idx t j : Nat} {host : String} {a : Option Nat} {g : Int → yM α} (hd : qm_nth il k = some (pc, .getfield idx, 3, pc')) (hf : y_FN own idx t j host) (h9 : 9 ≤ t ∧ t ≤ 11) (hft : qm_ft t j = false) (h : ∀ x, yb X Y Fn (g x) pc' ρ (yi x :: st) κ) : yb X Y Fn (yB (yGt (10 + t) a (j : Int)) g) pc ρ (va_rf a :: st) κ := by
  intro w r w' h1 h2
  obtain ⟨x, w1, e1, e2⟩ := yB_some h1
  cases a with
  | none => cases e1
  | some p =>
    unfold yGt at e1
    dsimp only at e1
    split at e1
    · rename_i hc
      cases e1
      have J := h _ _ r w' e2 h2
      have ht : (w_kd w p).1 = 10 + t := by rcases hc with q | q <;> omega
      refine ⟨J.1, fun H locs ls hV hL => yj_getN hX hV hd hf ht (by omega) ?_⟩
      rw [if_neg (by rw [hft]; decide)]
      exact J.2 H locs ls hV hL
    · cases e1
theorem y_getNR (hX : y_ok X Y Fn own cc nL f lo il) (k : Nat) {idx t j : Nat} {host : String} {a : Option Nat} {g : Option Nat → yM α} (hd : qm_nth il k = some (pc, .getfield idx, 3, pc')) (hf : y_FN own idx t j host) (h9 : 9 ≤ t ∧ t ≤ 11) (hft : qm_ft t j = true) (h : ∀ x, yb X Y Fn (g x) pc' ρ (va_rf x :: st) κ) : yb X Y Fn (yB (yGr (10 + t) a (j : Int)) g) pc ρ (va_rf a :: st) κ := by
  intro w r w' h1 h2
  obtain ⟨x, w1, e1, e2⟩ := yB_some h1
  cases a with
  | none => cases e1
  | some p =>
    unfold yGr at e1
    dsimp only at e1
    split at e1
    · rename_i hc
      cases e1
      have J := h _ _ r w' e2 h2
      have ht : (w_kd w p).1 = 10 + t := by rcases hc with q | q <;> omega
      refine ⟨J.1, fun H locs ls hV hL => yj_getN hX hV hd hf ht (by omega) ?_⟩
      rw [if_pos hft]
      exact J.2 H locs ls hV hL
    · cases e1
theorem y_gets (hX : y_ok X Y Fn own cc nL f lo il) (k : Nat) {idx : Nat} {a : Option Nat} {g : Int → yM α} (hd : qm_nth il k = some (pc, .getfield idx, 3, pc')) (hf : qm_FL own idx 12 1) (hw : Cond.fieldLink own idx "java/lang/String" "coder" "B" ∈ qm_tb) (h : ∀ x, yb X Y Fn (g x) pc' ρ (yi x :: st) κ) : yb X Y Fn (yB (yGt 22 a 1) g) pc ρ (va_rf a :: st) κ := by
  have hn := yk_n hX hd
  intro w r w' h1 h2
  obtain ⟨x, w1, e1, e2⟩ := yB_some h1
  cases a with
  | none => cases e1
  | some p =>
    unfold yGt at e1
    dsimp only at e1
    split at e1
    · rename_i hc
      cases e1
      have J := h _ _ r w' e2 h2
      refine ⟨J.1, fun H locs ls hV hL => ?_⟩
      have J2 := J.2 H locs ls hV hL
      rcases hc with ht | ht
      · exact yj_get hX hV hd hf ht (by omega) J2
      · obtain ⟨k1, k2, k3⟩ := hV.ro (p := p) (by omega)
        obtain ⟨-, z1, z2⟩ := (yk_Z hX).2.2.2.1 p (by rw [← k1]; exact ht.2)
        rw [k2] at J2
        subst hn
        exact vk_getf (yk_ex hX) (yk_by hX) z2 hV.2.2.2 (yk_ow hX) (yk_ts hX _ hw) (fun x h => h) (yk_d hX hd) J2
    · cases e1
theorem y_getsR (hX : y_ok X Y Fn own cc nL f lo il) (k : Nat) {idx : Nat} {a : Option Nat} {g : Option Nat → yM α} (hd : qm_nth il k = some (pc, .getfield idx, 3, pc')) (hf : qm_FL own idx 12 0) (hw : Cond.fieldLink own idx "java/lang/String" "value" "[B" ∈ qm_tb) (h : ∀ x, yb X Y Fn (g x) pc' ρ (va_rf x :: st) κ) : yb X Y Fn (yB (yGr 22 a 0) g) pc ρ (va_rf a :: st) κ := by
  have hn := yk_n hX hd
  intro w r w' h1 h2
  obtain ⟨x, w1, e1, e2⟩ := yB_some h1
  cases a with
  | none => cases e1
  | some p =>
    unfold yGr at e1
    dsimp only at e1
    split at e1
    · rename_i hc
      cases e1
      have J := h _ _ r w' e2 h2
      refine ⟨J.1, fun H locs ls hV hL => ?_⟩
      have J2 := J.2 H locs ls hV hL
      rcases hc with ht | ht
      · exact yj_get hX hV hd hf ht (by omega) J2
      · obtain ⟨k1, k2, k3⟩ := hV.ro (p := p) (by omega)
        obtain ⟨-, z1, z2⟩ := (yk_Z hX).2.2.2.1 p (by rw [← k1]; exact ht.2)
        rw [k3] at J2
        subst hn
        exact vk_getf (yk_ex hX) (yk_by hX) z1 hV.2.2.2 (yk_ow hX) (yk_ts hX _ hw) (fun x h => h) (yk_d hX hd) J2
    · cases e1
theorem yj_put (hX : y_ok X Y Fn own cc nL f lo il) {k idx t j p mode : Nat} {v : Value} {ty : FieldType} {w w' : yW} (hd : qm_nth il k = some (pc, .putfield idx, 3, pc')) (hf : y_FP own idx t j ty mode) (hin : mode = 1 → (qx_meth X).name = "<init>") (ht : (w_kd w p).1 = 10 + t) (h9 : 9 ≤ t ∧ t ≤ 12) (hn : narrow ty v = v) (hfit : fits ty v = true)
    (hw : w'.1 = w.1 ∧ w_sz w' = w_sz w ∧ w_sl w' = w_sl w ∧ w_kd w' = w_kd w) (hi : ∀ q, q ≠ p → w_iv w' q = w_iv w q) (hr : ∀ q, q ≠ p → w_rv w' q = w_rv w q) (hup : ∀ i, i < qm_nf t → updV (vp_V (y_fs w t p)) j v i = vp_V (y_fs w' t p) i) (h : yJ X Y Fn pc' ρ st w') : yJ X Y Fn pc ρ (v :: .ref p :: st) w := by
  cases yk_n hX hd
  have hw2 := hw
  obtain ⟨e1, e2, e3, e4⟩ := hw2
  refine ⟨by rw [← e2, ← e3]; exact h.1, fun H locs ls hV hL => ?_⟩
  have h2 := h.2
  rw [e2, e3] at h2
  obtain ⟨C, T, N, tys, ⟨hc, hin9⟩, hj, hl, hty, hnm, hfin, hpd, hN⟩ := hf
  have hK := yk_K hX
  have hts := yk_ts hX
  have hap := va_apart (own := own) hts hin9 tys hty hnm hK hc
  obtain ⟨r, h1, cell, q1, q2, q3, q4⟩ := hV.2.2.1.obj ht h9
  have hr9 : r = (C, T, N) := Option.some.inj (h1.symm.trans hc)
  subst hr9
  obtain ⟨hS9, hfc, kC, hkC, hkind⟩ := hK.1 t _ hc
  obtain ⟨cf, kf, fi, f9, hi9, hsl⟩ := hS9 j hj
  have hlay := hts _ (hin9 _ (u_in_lay hj))
  unfold u_lay at hlay
  have hst := (u_facts hfc hkC (u_lays hts hin9 hj) hi9).1
  have fin : ∀ (H1 : Heap), H1[p]? = some (cell.setSlot f9.slot v) → H1.size = H.size → (∀ q : Nat, q ≠ p → H1[q]? = H[q]?) → yq X H1 (locs ++ [⟨p, f9.slot⟩]) (w_sz w - (qx_s X).heap.size) (w_sl w - Fn.2.2) (F0 (qx_m X) (pc + 3) ls st) := by
    intro H1 g1 g2 g3
    rw [hsl] at g1
    refine h2 H1 _ ls (hV.put hX (by omega) (by omega) hw hi hr (fun e he => ?_) g2 g3) hL
    have he2 : e = .inr (t, y_fs w' t p) := by
      unfold yE at he
      rw [e4, if_neg (by omega), if_neg (by omega), if_pos (by omega), ht, Nat.add_sub_cancel_left] at he
      exact (Option.some.inj he).symm
    subst he2
    exact ⟨_, hc, t_OB.to (V := updV (vp_V (y_fs w t p)) j v) ⟨_, g1, q2, q3, t_set q4 hap hj v⟩ (fun i hi => hup i (by rw [← hN]; exact hi))⟩
  rcases hfin with ⟨m1, hfin, hown9⟩ | ⟨m1, hfin⟩
  · rw [if_pos hfin] at hlay
    have hlk : Cond.fieldLink own idx (T j).1 (T j).2.1 (T j).2.2.1 ∈ qm_tb := by
      rcases hl with ⟨z, -⟩ | ⟨-, z⟩
      · omega
      · exact z
    have hcf : (qx_m X).cls = cf := by
      obtain ⟨_, _, c', _, _, _, -, -, hf', -, -, -, hown2, -⟩ := Cond.laysFinal_spec hlay
      have e1 : c' = cf := by have := hi9.symm.trans hf'; simp at this; exact this.1.symm
      rw [hown9] at hown2
      rw [← e1]; exact Option.some.inj ((yk_ow hX).symm.trans hown2)
    have h6 := u_fits hfc hkC hkind (Or.inr hlay) hi9 hpd hn hfit
    exact W.putFinK (yk_ex hX) (yk_by hX) (yk_ow hX) (hts _ hlk) hi9 hst hcf (hin m1) (by rw [q2]; exact h6) q1 q3 (by rw [hsl]; exact k2_hasslot (q4 j hj)) rfl rfl (yk_d hX hd) fun H1 g1 g2 g3 => fin H1 g1 g2 g3
  · rw [if_neg (by rw [hfin]; decide)] at hlay
    have h6 := u_store hfc hkC hkind hlay hi9 hpd hn hfit
    rcases hl with ⟨-, hlk⟩ | ⟨-, hlk⟩
    · exact va_WputK (yk_ex hX) (yk_by hX) (f := f9) (yk_ow hX) (va_Nw.use rfl (qk_nw hX.1 _ hlk)) hi9 hst (by rw [q2]; exact h6) q1 q3 (by rw [hsl]; exact k2_hasslot (q4 j hj)) rfl rfl (yk_d hX hd) fun H1 g1 g2 g3 => fin H1 g1 g2 g3
    · exact W.putK (yk_ex hX) (yk_by hX) (f := f9) ⟨yk_ow hX, hts _ hlk, ⟨_, _, _, hi9⟩, hst⟩ (by rw [q2]; exact h6) q1 q3 (by rw [hsl]; exact k2_hasslot (q4 j hj)) rfl rfl (yk_d hX hd) fun H1 g1 g2 g3 => fin H1 g1 g2 g3
theorem y_upI {w : yW} {t p j : Nat} {x : Int} (hft : qm_ft t j = false) (i : Nat) (hi : i < qm_nf t) : updV (vp_V (y_fs w t p)) j (yi x) i = vp_V (y_fs (y_iv w (iu (w_iv w) p (j : Int) x)) t p) i := by
  rw [y_fs_V hi]
  unfold updV
  by_cases e : i = j
  · subst e
    rw [if_pos rfl, if_neg (by rw [hft]; decide)]
    show yi x = yi (iu (w_iv w) p (i : Int) x p (i : Int))
    rw [iu_eq]
  · rw [if_neg e, y_fs_V hi]
    show _ = if qm_ft t i = true then va_rf (w_rv w p (i : Int)) else yi (iu (w_iv w) p (j : Int) x p (i : Int))
    rw [iu_ne (Or.inr (by omega))]
theorem y_upR {w : yW} {t p j : Nat} {r : Option Nat} (hft : qm_ft t j = true) (i : Nat) (hi : i < qm_nf t) : updV (vp_V (y_fs w t p)) j (va_rf r) i = vp_V (y_fs (y_rv w (yur (w_rv w) p (j : Int) r)) t p) i := by
  rw [y_fs_V hi]
  unfold updV
  by_cases e : i = j
  · subst e
    rw [if_pos rfl, if_pos hft]
    show va_rf r = va_rf (yur (w_rv w) p (i : Int) r p (i : Int))
    unfold yur
    rw [if_pos ⟨rfl, rfl⟩]
  · rw [if_neg e, y_fs_V hi]
    show _ = if qm_ft t i = true then va_rf (yur (w_rv w) p (j : Int) r p (i : Int)) else yi (w_iv w p (i : Int))
    have hz : ¬ (p = p ∧ (i : Int) = (j : Int)) := fun z => e (by have := z.2; omega)
    unfold yur
    rw [if_neg hz]
theorem y_putI (hX : y_ok X Y Fn own cc nL f lo il) (k mode : Nat) {idx j t : Nat} {a : Option Nat} {x : Int} {g : Unit → yM α} (hd : qm_nth il k = some (pc, .putfield idx, 3, pc')) (hf : y_FP own idx t j .int mode) (hin : mode = 1 → (qx_meth X).name = "<init>") (h9 : 9 ≤ t ∧ t ≤ 12) (hft : qm_ft t j = false) (h : yb X Y Fn (g ()) pc' ρ st κ) : yb X Y Fn (yB (yPt (10 + t) a (j : Int) x) g) pc ρ (yi x :: va_rf a :: st) κ := by
  intro w r w' h1 h2
  obtain ⟨u, w1, e1, e2⟩ := yB_some h1
  cases a with
  | none => cases e1
  | some p =>
    unfold yPt at e1
    dsimp only at e1
    split at e1
    · rename_i hc
      cases e1
      exact yj_put (w' := y_iv w (iu (w_iv w) p (j : Int) x)) hX hd hf hin hc h9 rfl rfl ⟨rfl, rfl, rfl, rfl⟩ (fun q hq => by funext j; exact if_neg (fun z => hq z.1)) (fun _ _ => rfl) (y_upI hft) (h _ r w' e2 h2)
    · cases e1
theorem y_putB (hX : y_ok X Y Fn own cc nL f lo il) (k mode : Nat) {idx j t : Nat} {a : Option Nat} {x : Int} {g : Unit → yM α} (hd : qm_nth il k = some (pc, .putfield idx, 3, pc')) (hf : y_FP own idx t j .byte mode) (hin : mode = 1 → (qx_meth X).name = "<init>") (h9 : 9 ≤ t ∧ t ≤ 12) (hft : qm_ft t j = false) (h : yb X Y Fn (g ()) pc' ρ st κ) : yb X Y Fn (yB (yPz (10 + t) a (j : Int) x) g) pc ρ (yi x :: va_rf a :: st) κ := by
  intro w r w' h1 h2
  obtain ⟨u, w1, e1, e2⟩ := yB_some h1
  cases a with
  | none => cases e1
  | some p =>
    unfold yPz at e1
    dsimp only at e1
    split at e1
    · rename_i hc
      cases e1
      refine yj_put (w' := y_iv w (iu (w_iv w) p (j : Int) x)) hX hd hf hin hc.1 h9 ?_ ?_ ⟨rfl, rfl, rfl, rfl⟩ (fun q hq => by funext j; exact if_neg (fun z => hq z.1)) (fun _ _ => rfl) (y_upI hft) (h _ r w' e2 h2)
      · rcases hc.2 with q | q
        · rw [q]; decide
        · rw [q]; decide
      · rcases hc.2 with q | q
        · rw [q]; decide
        · rw [q]; decide
    · cases e1
theorem y_putR (hX : y_ok X Y Fn own cc nL f lo il) (k mode : Nat) {idx j t : Nat} {a v : Option Nat} {ty : FieldType} {g : Unit → yM α} (hd : qm_nth il k = some (pc, .putfield idx, 3, pc')) (hf : y_FP own idx t j ty mode) (hin : mode = 1 → (qx_meth X).name = "<init>") (h9 : 9 ≤ t ∧ t ≤ 12) (hft : qm_ft t j = true) (hty : (∃ n, ty = .object n) ∨ ∃ t, ty = .array t) (h : yb X Y Fn (g ()) pc' ρ st κ) : yb X Y Fn (yB (yPr (10 + t) a (j : Int) v) g) pc ρ (va_rf v :: va_rf a :: st) κ := by
  intro w r w' h1 h2
  obtain ⟨u, w1, e1, e2⟩ := yB_some h1
  cases a with
  | none => cases e1
  | some p =>
    unfold yPr at e1
    dsimp only at e1
    split at e1
    · rename_i hc
      cases e1
      refine yj_put (w' := y_rv w (yur (w_rv w) p (j : Int) v)) hX hd hf hin hc h9 ?_ ?_ ⟨rfl, rfl, rfl, rfl⟩ (fun _ _ => rfl) (fun q hq => by funext j; exact if_neg (fun z => hq z.1)) (y_upR hft) (h _ r w' e2 h2)
      · rcases hty with ⟨n, rfl⟩ | ⟨t, rfl⟩ <;> cases v <;> rfl
      · rcases hty with ⟨n, rfl⟩ | ⟨t, rfl⟩ <;> cases v <;> rfl
    · cases e1
/-- making -/
theorem y_room (hX : y_ok X Y Fn own cc nL f lo il) {w : yW} {H : Heap} {locs : List Loc} (hV : yV X Y Fn w H locs) {kd : Nat × Nat} {n : Nat} {row : Int → Int} (h : w_sz (ynew w kd n row) ≤ Fn.1 ∧ w_sl (ynew w kd n row) ≤ Fn.2.1) : (w_sz w - (qx_s X).heap.size + 1 ≤ (qx_R X).cells ∧ w_sl w - Fn.2.2 + n ≤ (qx_R X).slots) ∧ (w_sz w - (qx_s X).heap.size + 1 = w_sz (ynew w kd n row) - (qx_s X).heap.size ∧ w_sl w - Fn.2.2 + n = w_sl (ynew w kd n row) - Fn.2.2) := by
  have h1 : w_sz w + 1 ≤ Fn.1 := h.1
  have h2 : w_sl w + n ≤ Fn.2.1 := h.2
  have e1 : w_sz (ynew w kd n row) = w_sz w + 1 := rfl
  have e2 : w_sl (ynew w kd n row) = w_sl w + n := rfl
  obtain ⟨r1, r2⟩ := yk_R hX
  have b := hV.1.2
  rw [r1, r2, e1, e2]
  omega
theorem y_new (hX : y_ok X Y Fn own cc nL f lo il) (k : Nat) {idx t : Nat} {g : Option Nat → yM α} (hd : qm_nth il k = some (pc, .new idx, 3, pc')) (hn : y_N own idx t) (h9 : 9 ≤ t ∧ t ≤ 12) (h : ∀ x, yb X Y Fn (g x) pc' ρ (va_rf x :: st) κ) : yb X Y Fn (yB (yNo (10 + t)) g) pc ρ st κ := by
  cases yk_n hX hd
  intro w r w' h1 h2
  obtain ⟨x, w1, e1, e2⟩ := yB_some h1
  cases e1
  rw [Nat.add_sub_cancel_left] at e2
  have J := h _ _ r w' e2 h2
  refine ⟨⟨by have : w_sz w + 1 ≤ Fn.1 := J.1.1; omega, by have : w_sl w + qm_nf t ≤ Fn.2.1 := J.1.2; omega⟩, fun H locs ls hV hL => yq_sz hV (fun hz => ?_)⟩
  obtain ⟨C, T, N, ty, ⟨c1, c2⟩, c3, c4, c5, c6, c7, c8⟩ := hn
  obtain ⟨⟨r1, r2⟩, r3, r4⟩ := y_room hX hV J.1
  have hKn := (yk_K hX).1 t _ c1
  have hts := yk_ts hX
  subst c8
  refine W.newcK (yk_ex hX) (yk_by hX) (yk_ow hX) (hts _ c4) (hts _ c5) (hts _ c6) rfl (yk_d hX hd) r1 r2 hKn.2.1 hz fun H1 kC hkC e9 z1 o1 => ?_
  rw [r3, r4]
  refine J.2 H1 locs ls (hV.new hX (by show 10 + t ≠ 0; omega) (by show 10 + t < 30; omega) hz (fun e he => ?_) z1 (fun q hq => o1 q hq)) hL
  have he2 : e = .inr (t, y_fs (ynew w (10 + t, 0) (qm_nf t) (fun _ => 0)) t (w_sz w)) := by
    have hk : w_kd (ynew w (10 + t, 0) (qm_nf t) (fun _ => 0)) (w_sz w) = (10 + t, 0) := if_pos rfl
    unfold yE at he
    rw [hk] at he
    rw [if_neg (by show ¬ (10 + t = 1 ∨ 10 + t = 3); omega), if_neg (by show ¬ (10 + t = 4 ∨ 10 + t = 7); omega), if_pos (by show 19 ≤ 10 + t ∧ 10 + t ≤ 22; omega)] at he
    have he := (Option.some.inj he).symm
    rw [he]
    show (Sum.inr (10 + t - 10, y_fs _ (10 + t - 10) _) : va_E) = _
    rw [Nat.add_sub_cancel_left]
  subst he2
  refine ⟨_, c1, (u_born ty hts c2 hKn hkC e9 c3).to (fun j hj => ?_)⟩
  show defaultValue (ty j) = vp_V _ j
  rw [c7 j hj, y_fs_V hj]
  by_cases e : qm_ft t j = true
  · rw [if_pos e, if_pos e]
    have : w_rv (ynew w (10 + t, 0) (qm_nf t) (fun _ => 0)) (w_sz w) (j : Int) = none := if_pos rfl
    rw [this]
    rfl
  · rw [if_neg e, if_neg e]
    have : w_iv (ynew w (10 + t, 0) (qm_nf t) (fun _ => 0)) (w_sz w) (j : Int) = 0 := if_pos rfl
    rw [this]
    rfl
theorem y_nn {n : Int} (h : 0 ≤ n ∧ n ≤ 100000) : ¬ Int32.ofInt n < 0 ∧ (Int32.ofInt n).toNatClampNeg = n.toNat := by
  have e : (Int32.ofInt n).toInt = n := yi_toInt ⟨by omega, by omega⟩
  refine ⟨fun q => ?_, by show (Int32.ofInt n).toInt.toNat = _; rw [e]⟩
  have := Int32.lt_iff_toInt_lt.mp q
  rw [e] at this
  have z : (0 : Int32).toInt = 0 := by decide
  omega
theorem y_newa (hX : y_ok X Y Fn own cc nL f lo il) (k : Nat) {at9 : ArrayType} {ty : FieldType} {t : Nat} {n : Int} {g : Option Nat → yM α} (hd : qm_nth il k = some (pc, .newarray at9, 2, pc')) (hw : Cond.arrayClass ty ∈ qm_tb) (hty : newarray.typeOf at9 = ty) (ht : (t = 1 ∧ ty = .int) ∨ (t = 3 ∧ ty = .byte)) (h : ∀ x, yb X Y Fn (g x) pc' ρ (va_rf x :: st) κ) : yb X Y Fn (yB (yNa t n) g) pc ρ (yi n :: st) κ := by
  cases yk_n hX hd
  subst hty
  intro w r w' h1 h2
  obtain ⟨x, w1, e1, e2⟩ := yB_some h1
  unfold yNa at e1
  split at e1
  · rename_i hc
    cases e1
    have J := h _ _ r w' e2 h2
    refine ⟨⟨by have : w_sz w + 1 ≤ Fn.1 := J.1.1; omega, by have : w_sl w + n.toNat ≤ Fn.2.1 := J.1.2; omega⟩, fun H locs ls hV hL => yq_sz hV (fun hz => ?_)⟩
    obtain ⟨⟨r1, r2⟩, r3, r4⟩ := y_room hX hV J.1
    obtain ⟨n1, n2⟩ := y_nn hc
    have hcb : componentBytes (newarray.typeOf at9) ≤ 8 := by rcases ht with ⟨-, e⟩ | ⟨-, e⟩ <;> rw [e] <;> decide
    have hb9 : n.toNat * componentBytes (newarray.typeOf at9) ≤ 536870912 := by
      have := Nat.mul_le_mul (show n.toNat ≤ 100000 by omega) hcb
      omega
    refine va_newaK (N := n.toNat) (yk_ex hX) (yk_by hX) (yk_ts hX _ hw) rfl (yk_d hX hd) rfl n1 n2 hb9 r1 r2 hz fun H1 cA e9 z1 o1 _ hnm => ?_
    rw [r3, r4]
    refine J.2 H1 locs ls (hV.new hX (by show t ≠ 0; omega) (by show t < 30; omega) hz (fun e he => ?_) z1 (fun q hq => o1 q hq)) hL
    have hk : w_kd (ynew w (t, n.toNat) n.toNat (fun _ => 0)) (w_sz w) = (t, n.toNat) := if_pos rfl
    have hi9 : w_iv (ynew w (t, n.toNat) n.toNat (fun _ => 0)) (w_sz w) = fun _ => 0 := by funext j; exact if_pos rfl
    unfold yE at he
    rw [hk, if_pos (by show t = 1 ∨ t = 3; omega)] at he
    cases he
    show H1[w_sz w]? = some (vp_cell _ _)
    rw [hi9, vp_cell_i, e9]
    rcases ht with ⟨et, e⟩ | ⟨et, e⟩
    · have hg : (qx_s X).vm.findClass ("[" ++ (newarray.typeOf at9).toString) = some ((qx_G X).2.2 1) := by rw [e]; exact ((yk_K hX).2 0 _ rfl).2
      rw [hg] at hnm
      cases hnm
      rw [e, et]
      rfl
    · have hg : (qx_s X).vm.findClass ("[" ++ (newarray.typeOf at9).toString) = some ((qx_G X).2.2 3) := by rw [e]; exact ((yk_K hX).2 2 _ rfl).2
      rw [hg] at hnm
      cases hnm
      rw [e, et]
      rfl
  · cases e1
theorem y_anew_at {G : qm_G} {w : yW} {t n : Nat} {H H1 : Heap} {cA : ClassId} (ht : t = 4 ∨ t = 7) (hz : H.size = w_sz w) (hcA : cA = G.2.2 t) (hH : H1 = H.push ({ cls := cA, slots := Array.replicate n .null, vm := .none } : Cell)) : (H1.size = w_sz w + 1 ∧ ∀ q : Nat, q < w_sz w → H1[q]? = H[q]?) ∧ ∀ e, yE G (ynew w (t, n) n (fun _ => 0)) (w_sz w) = some e → va_at G.2.1 qm_cl (w_sz w, e) H1 := by
  subst hH
  refine ⟨⟨by rw [Array.size_push, hz], fun q hq => by rw [Array.getElem?_push, if_neg (by rw [hz]; exact Nat.ne_of_lt hq)]⟩, fun e he => ?_⟩
  have hk : w_kd (ynew w (t, n) n (fun _ => 0)) (w_sz w) = (t, n) := if_pos rfl
  have hr : w_rv (ynew w (t, n) n (fun _ => 0)) (w_sz w) = fun _ => none := by funext j; exact if_pos rfl
  unfold yE at he
  rw [hk, if_neg (by show ¬ (t = 1 ∨ t = 3); omega), if_pos (by show t = 4 ∨ t = 7; omega)] at he
  cases he
  show (H.push _)[w_sz w]? = some (vp_cell _ _)
  rw [hr, vp_cell_q, ← hz, Array.getElem?_push_size, hcA]
  exact congrArg some (arrV_new _ _ _)
theorem y_anewS (hX : y_ok X Y Fn own cc nL f lo il) (k : Nat) {idx : Nat} {n : Int} {g : Option Nat → yM α} (hd : qm_nth il k = some (pc, .anewarray idx, 3, pc')) (hw : Cond.classLink own idx "java/lang/String" ∈ qm_tb) (h : ∀ x, yb X Y Fn (g x) pc' ρ (va_rf x :: st) κ) : yb X Y Fn (yB (yNa 7 n) g) pc ρ (yi n :: st) κ := by
  cases yk_n hX hd
  intro w r w' h1 h2
  obtain ⟨x, w1, e1, e2⟩ := yB_some h1
  unfold yNa at e1
  split at e1
  · rename_i hc
    cases e1
    have J := h _ _ r w' e2 h2
    refine ⟨⟨by have : w_sz w + 1 ≤ Fn.1 := J.1.1; omega, by have : w_sl w + n.toNat ≤ Fn.2.1 := J.1.2; omega⟩, fun H locs ls hV hL => yq_sz hV (fun hz => ?_)⟩
    obtain ⟨⟨r1, r2⟩, r3, r4⟩ := y_room hX hV J.1
    obtain ⟨n1, n2⟩ := y_nn hc
    refine W.anew (n := Int32.ofInt n) (yk_ex hX) (yk_by hX) (yk_ow hX) (yk_ts hX _ hw) (va_AO.use (yk_Z hX).2.2.2.2.2.2.2.2.1) rfl (yk_d hX hd) rfl n1 (by rw [n2]; omega) r1 (by rw [n2]; exact r2) fun cA kA comp f1 f2 f3 f4 => ?_
    have hcA : cA = (qx_G X).2.2 7 := by
      obtain ⟨kA', comp', g1, g2, g3, g4⟩ := ((yk_K hX).2 5 _ rfl).2
      exact Option.some.inj (f1.symm.trans g4)
    rw [n2]
    obtain ⟨⟨z1, o1⟩, hE⟩ := y_anew_at (w := w) (n := n.toNat) (Or.inr rfl) hz hcA rfl
    rw [r3, r4, hz]
    exact J.2 _ locs ls (hV.new hX (by show (7 : Nat) ≠ 0; decide) (by show (7 : Nat) < 30; decide) hz hE z1 o1) hL
  · cases e1
theorem y_anewA (hX : y_ok X Y Fn own cc nL f lo il) (k : Nat) {idx : Nat} {n : Int} {g : Option Nat → yM α} (hd : qm_nth il k = some (pc, .anewarray idx, 3, pc')) (hw : Cond.classLink own idx "[I" ∈ qm_tb) (h : ∀ x, yb X Y Fn (g x) pc' ρ (va_rf x :: st) κ) : yb X Y Fn (yB (yNa 4 n) g) pc ρ (yi n :: st) κ := by
  cases yk_n hX hd
  intro w r w' h1 h2
  obtain ⟨x, w1, e1, e2⟩ := yB_some h1
  unfold yNa at e1
  split at e1
  · rename_i hc
    cases e1
    have J := h _ _ r w' e2 h2
    refine ⟨⟨by have : w_sz w + 1 ≤ Fn.1 := J.1.1; omega, by have : w_sl w + n.toNat ≤ Fn.2.1 := J.1.2; omega⟩, fun H locs ls hV hL => yq_sz hV (fun hz => ?_)⟩
    obtain ⟨⟨r1, r2⟩, r3, r4⟩ := y_room hX hV J.1
    obtain ⟨n1, n2⟩ := y_nn hc
    refine W.anewA (t := .int) (n := Int32.ofInt n) (yk_ex hX) (yk_by hX) (yk_ow hX) (yk_ts hX _ hw) (over_moved (Vm.Alike.refl _) (yk_Z hX).2.2.2.2.2.2.2.2.2) rfl (yk_d hX hd) rfl n1 (by rw [n2]; omega) r1 (by rw [n2]; exact r2) fun cA kA comp f1 f2 f3 f4 => ?_
    have hcA : cA = (qx_G X).2.2 4 := Option.some.inj (f1.symm.trans ((yk_K hX).2 3 _ rfl).2)
    rw [n2]
    obtain ⟨⟨z1, o1⟩, hE⟩ := y_anew_at (w := w) (n := n.toNat) (Or.inl rfl) hz hcA rfl
    rw [r3, r4, hz]
    exact J.2 _ locs ls (hV.new hX (by show (4 : Nat) ≠ 0; decide) (by show (4 : Nat) < 30; decide) hz hE z1 o1) hL
  · cases e1
theorem y_clone (hX : y_ok X Y Fn own cc nL f lo il) (k : Nat) {idx : Nat} {a : Option Nat} {g : Option Nat → yM α} (hd : qm_nth il k = some (pc, .invokevirtual idx, 3, pc')) (hl : Cond.methodLink own idx ⟨"[I", "clone", "()Ljava/lang/Object;"⟩ ∈ qm_tb) (h1' : Cond.sameMethod "[I" "java/lang/Object" "clone" "()Ljava/lang/Object;" ∈ qm_tb) (h2' : Cond.native ⟨"java/lang/Object", "clone", "()Ljava/lang/Object;"⟩ ∈ qm_tb) (h3' : Cond.instanceMethod ⟨"java/lang/Object", "clone", "()Ljava/lang/Object;"⟩ ∈ qm_tb) (h4' : Cond.selects "[I" ⟨"[I", "clone", "()Ljava/lang/Object;"⟩ ⟨"java/lang/Object", "clone", "()Ljava/lang/Object;"⟩ ∈ qm_tb) (hr : 1 ≤ f ∧ 22 ≤ lo) (h8 : (st.map fun v => v.category).sum ≤ 8) (h : ∀ x, yb X Y Fn (g x) pc' ρ (va_rf x :: st) κ) : yb X Y Fn (yB (yCl a) g) pc ρ (va_rf a :: st) κ := by
  cases yk_n hX hd
  intro w r w' h1 h2
  obtain ⟨x, w1, e1, e2⟩ := yB_some h1
  cases a with
  | none => cases e1
  | some p =>
    unfold yCl at e1
    dsimp only at e1
    split at e1
    · rename_i hc
      cases e1
      have J := h _ _ r w' e2 h2
      refine ⟨⟨by have : w_sz w + 1 ≤ Fn.1 := J.1.1; omega, by have : w_sl w + (w_kd w p).2 ≤ Fn.2.1 := J.1.2; omega⟩, fun H locs ls hV hL => yq_sz hV (fun hz => ?_)⟩
      obtain ⟨⟨r1, r2⟩, r3, r4⟩ := y_room hX hV J.1
      have hcell := hV.2.2.1.arr (Or.inl hc)
      rw [hc] at hcell
      have ts := yk_ts hX
      obtain ⟨q1, q2, -⟩ := qk_R hX.1
      refine yv_clone (ty := .int) (yk_ex hX) (yk_by hX) hL.1.symm (yk_ow hX) (ts _ hl) (ts _ h1') (ts _ h2') (ts _ h3') (ts _ h4') ((yk_Z hX).2.2.2.2.2.2.2.1 _ List.mem_cons_self) hcell ((yk_K hX).2 0 _ rfl).1 ((yk_K hX).2 0 _ rfl).2 (fun _ => rfl) (by rw [q1]; exact hr.1) (by rw [q2]; omega) r1 r2 (yk_d hX hd) fun H1 e9 z1 o1 => ?_
      rw [r3, r4]
      rw [hz] at e9 z1 o1
      rw [hz]
      refine J.2 H1 locs ls (hV.new hX (by rw [hc]; decide) (by rw [hc]; decide) hz (fun e he => ?_) z1 o1) hL
      have hk : w_kd (ynew w (w_kd w p) (w_kd w p).2 (w_iv w p)) (w_sz w) = w_kd w p := if_pos rfl
      have hi9 : w_iv (ynew w (w_kd w p) (w_kd w p).2 (w_iv w p)) (w_sz w) = w_iv w p := by funext j; exact if_pos rfl
      unfold yE at he
      rw [hk, if_pos (Or.inl hc), hi9, hc] at he
      cases he
      exact e9
    · cases e1
theorem y_fitB {x : Int} (h : -128 ≤ x ∧ x ≤ 127) : fits .byte (.int (Int32.ofInt x)) = true := by
  have h1 : ∀ n : Nat, n < 256 → fits .byte (.int (Int32.ofInt ((n : Int) - 128))) = true := by decide +kernel
  have := h1 (x + 128).toNat (by omega)
  rwa [show (((x + 128).toNat : Nat) : Int) - 128 = x by omega] at this
theorem yV.locs {w : yW} {H : Heap} {locs locs1 : List Loc} (hV : yV X Y Fn w H locs) (hl : ∀ l ∈ locs1, l ∈ locs ∨ Y.1 ≤ l.base) : yV X Y Fn w H locs1 :=
  ⟨hV.1, hV.2.1, hV.2.2.1, hV.2.2.2.1, hV.2.2.2.2.1, fun l hl9 => (hl l hl9).elim (fun q => hV.2.2.2.2.2 l q) (fun q => q)⟩
theorem y_copy (hX : y_ok X Y Fn own cc nL f lo il) (k : Nat) {idx t : Nat} {a b : Option Nat} {sp dp n : Int} {g : Unit → yM α} (ht : t = 1 ∨ t = 3) (hd : qm_nth il k = some (pc, .invokestatic idx, 3, pc')) (hl : Cond.methodLink own idx arraycopyName ∈ qm_tb) (h1' : Cond.native arraycopyName ∈ qm_tb) (h2' : Cond.static arraycopyName ∈ qm_tb) (h3' : Cond.initialized "java/lang/System" ∈ qm_tb) (hr : 1 ≤ f ∧ nativeFrameWords "java/lang/System" "arraycopy" 5 + 19 ≤ lo) (h8 : (st.map fun v => v.category).sum ≤ 8) (h : yb X Y Fn (g ()) pc' ρ st κ) : yb X Y Fn (yB (yCp t a sp b dp n) g) pc ρ (yi n :: yi dp :: va_rf b :: yi sp :: va_rf a :: st) κ := by
  cases yk_n hX hd
  intro w r w' h1 h2
  obtain ⟨x, w1, e1, e2⟩ := yB_some h1
  cases a with
  | none => cases e1
  | some p =>
    cases b with
    | none => cases e1
    | some q =>
      unfold yCp at e1
      dsimp only at e1
      split at e1
      · rename_i hc
        cases e1
        obtain ⟨⟨hkp, hkq, hne⟩, hpos, hlen, hsz, hby⟩ := hc
        have J := h _ r w' e2 h2
        refine ⟨J.1, fun H locs ls hV hL => ?_⟩
        have ts := yk_ts hX
        obtain ⟨q1, q2, -⟩ := qk_R hX.1
        obtain ⟨s1, s2⟩ := y_nn (n := sp) ⟨by omega, by omega⟩
        obtain ⟨d1, d2⟩ := y_nn (n := dp) ⟨by omega, by omega⟩
        obtain ⟨n1, n2⟩ := y_nn (n := n) ⟨by omega, by omega⟩
        have hcell := hV.2.2.1.arr (p := q) (by rw [hkq]; exact ht)
        rw [hkq] at hcell
        have ty9 : ∃ ty, ArrOfT (qx_s X) ((qx_G X).2.2 t) ty ∧ ((t = 1 ∧ ty = .int) ∨ (t = 3 ∧ ty = .byte)) := by
          rcases ht with e | e
          · rw [e]; exact ⟨.int, ((yk_K hX).2 0 _ rfl).1, Or.inl ⟨rfl, rfl⟩⟩
          · rw [e]; exact ⟨.byte, ((yk_K hX).2 2 _ rfl).1, Or.inr ⟨rfl, rfl⟩⟩
        obtain ⟨ty, hArr, hty⟩ := ty9
        have hsrc : ∃ cs : Cell, H[p]? = some cs ∧ (qx_s X).isArrayOf cs ty ∧ cs.vm ≠ .unknown ∧ (w_kd w p).2 ≤ cs.slots.size ∧ ∀ j, j < (w_kd w p).2 → cs.slots[j]? = some (.int (Int32.ofInt (w_iv w p (j : Int)))) := by
          rcases hkp with e | e
          · have hcp := hV.2.2.1.arr (p := p) (by rw [e]; exact ht)
            rw [e] at hcp
            refine ⟨_, hcp, hArr _ (fun j => .int (Int32.ofInt (w_iv w p (j : Int)))), (fun z => by cases z), ?_, fun j hj => arrV_read _ _ hj⟩
            show _ ≤ (arrV _ _ _).slots.size
            rw [arrV_size]
            exact Nat.le_refl _
          · obtain ⟨k1, k2, -⟩ := hV.ro (p := p) (by omega)
            have hT : va_T ty p (w_kd w p).2 (fun j => yi (w_iv w p (j : Int))) (yA Y) (qx_s X) (qx_s X).heap := by
              rw [k1, k2]
              rcases hty with ⟨e9, rfl⟩ | ⟨e9, rfl⟩
              · exact (yk_Z hX).2.1 p (by rw [← k1, e, e9])
              · exact (yk_Z hX).2.2.1 p (by rw [← k1, e, e9])
            have hT := hT.kept hV.2.2.2.2.1
            obtain ⟨cs, g1, g2, g3, g4, g5, g6, -⟩ := hT
            exact ⟨cs, g1, g2, g3, g4, g6⟩
        obtain ⟨cs, g1, g2, g3, g4, g5⟩ := hsrc
        have b9 := hV.up hX (p := q) (by omega) (by omega)
        refine yv_copy (n0 := (w_kd w p).2) (ty := ty) (f := fun j => Int32.ofInt (w_iv w p (j : Int))) (yk_ex hX) (yk_by hX) hL.1.symm (yk_ow hX) (ts _ hl) (ts _ h1') (ts _ h2') (ts _ h3') g1 g2 g3 g4 g5 hcell hArr (by rcases hty with ⟨-, rfl⟩ | ⟨-, rfl⟩ <;> rfl) s1 d1 n1 (by rw [s2, n2]; omega) (by rw [d2, n2]; omega) (fun i hi => ?_) (by rw [q1]; exact hr.1) (by rw [q2]; omega) (yk_d hX hd) fun H1 locs1 e9 z oq hlo => ?_
        · rcases hty with ⟨-, rfl⟩ | ⟨e3, rfl⟩
          · rfl
          · rw [s2]
            rw [n2] at hi
            have hb := hby e3 (i : Int) (by omega) (by omega)
            rw [show ((sp.toNat + i : Nat) : Int) = sp + (i : Int) by omega]
            exact y_fitB hb
        · have hV1 : yV X Y Fn (y_iv w (ycpy (w_iv w) p q sp dp n)) H1 (locs ++ [⟨q, 0⟩]) := by
            refine hV.put hX (by omega) (by omega) ⟨rfl, rfl, rfl, rfl⟩ (fun z hz => by funext j; exact if_neg (fun y => hz y.1)) (fun _ _ => rfl) (fun e he => ?_) z oq
            have hk : w_kd (y_iv w (ycpy (w_iv w) p q sp dp n)) q = w_kd w q := rfl
            unfold yE at he
            rw [hk, if_pos (by rw [hkq]; exact ht), hkq] at he
            cases he
            show H1[q]? = some (vp_cell _ _)
            rw [e9]
            congr 4
            funext j
            unfold va_cpy
            show _ = Int32.ofInt (ycpy (w_iv w) p q sp dp n q (j : Int))
            unfold ycpy
            rw [s2, d2, n2]
            by_cases hj : dp.toNat ≤ j ∧ j < dp.toNat + n.toNat
            · rw [if_pos hj, if_pos (by omega)]
              show Int32.ofInt (w_iv w p ((sp.toNat + (j - dp.toNat) : Nat) : Int)) = _
              rw [show ((sp.toNat + (j - dp.toNat) : Nat) : Int) = sp + ((j : Int) - dp) by omega]
            · rw [if_neg hj, if_neg (by omega)]
          exact J.2 H1 locs1 ls (hV1.locs (fun l hl9 => by
            rcases hlo l hl9 with z | z
            · exact Or.inl (List.mem_append_left _ z)
            · exact Or.inr (by rw [z]; omega))) hL
      · cases e1
end YB
