def qm_rm (f lo : Nat) : Room := { frames := f, cells := 0, slots := 0, locals := lo }
def qm_w (y : MethodName) (b : ByteArray) (nL : Nat) (ret : Option FieldType) : List Cond := Cond.code y b nL ret :: qm_tb
/-- a method's start: the cells hold σ, the heap is of that size -/
def qm_Pc (G : qm_G) (av : List Value) (σ : qm_Mem) (sz : Nat) : Array Value → State → Prop := va_Pc av (fun U => U.heap.size = sz ∧ qm_H G σ U.heap ∧ qm_K G U ∧ qm_Z G (qm_A G sz) U U.heap)
def qm_at (G : qm_G) (σ : qm_Mem) (_ : Unit) (t : State) : Prop := qm_H G σ t.heap
def qm_Qi (G : qm_G) (r : Int32) (σ : qm_Mem) (sz : Nat) : Array Value → State → Outcome → State → Prop := va_Qi (fun r' (_ : Unit) => r' = r) (qm_at G σ) (qm_A G sz)
def qm_Qv (G : qm_G) (σ : qm_Mem) (sz : Nat) : Array Value → State → Outcome → State → Prop := va_Qv (fun (_ : Unit) => True) (qm_at G σ) (qm_A G sz)
def qm_Qr (G : qm_G) (r : Nat) (σ : qm_Mem) (sz : Nat) : Array Value → State → Outcome → State → Prop := va_Qr (fun (_ : Unit) => True) (fun u a t => a = G.1 r ∧ qm_at G σ u t) (qm_A G sz)
/-- what a method does, as a computation over the cells -/
def qm_MI (l : Launch) (G : qm_G) (y : MethodName) (b : ByteArray) (nL : Nat) (ret : Option FieldType) (f lo : Nat) (av : List Value) (m : qm_M Int32) : Prop :=
  ∀ σ r σ', m σ = some (r, σ') → ∀ sz, Met l y (qm_w y b nL ret) (qm_rm f lo) (qm_Pc G av σ sz) (qm_Qi G r σ' sz) 0 0 (qm_A G sz)
def qm_MV (l : Launch) (G : qm_G) (y : MethodName) (b : ByteArray) (nL : Nat) (f lo : Nat) (av : List Value) (m : qm_M Unit) : Prop :=
  ∀ σ r σ', m σ = some (r, σ') → ∀ sz, Met l y (qm_w y b nL none) (qm_rm f lo) (qm_Pc G av σ sz) (qm_Qv G σ' sz) 0 0 (qm_A G sz)
def qm_MR (l : Launch) (G : qm_G) (y : MethodName) (b : ByteArray) (nL : Nat) (ret : Option FieldType) (f lo : Nat) (av : List Value) (m : qm_M Nat) : Prop :=
  ∀ σ r σ', m σ = some (r, σ') → ∀ sz, Met l y (qm_w y b nL ret) (qm_rm f lo) (qm_Pc G av σ sz) (qm_Qr G r σ' sz) 0 0 (qm_A G sz)
theorem qm_Pc_blind {G : qm_G} {av : List Value} {σ : qm_Mem} {sz : Nat} : FrameBlind (qm_Pc G av σ sz) := by
  intro a U g mk h
  obtain ⟨h1, h2, h3, ⟨h4, h5⟩, h6⟩ := h
  refine ⟨h1, h2, h3, ⟨va_K.moved (u := U) (U := U.calling g mk a) (Vm.Alike.refl U.vm) h4, fun w hw => ?_⟩, ⟨fun q hq => (h6.1 q hq).moved (U := U.calling g mk a) (Vm.Alike.refl U.vm), h6.2.1.moved (U := U.calling g mk a) (Vm.Alike.refl U.vm), fun r hr => vk_R.same (u := U) rfl (h6.2.2.1 r hr), h6.2.2.2.1.moved (U := U.calling g mk a) (Vm.Alike.refl U.vm), h6.2.2.2.2.1.moved (U := U.calling g mk a) (Vm.Alike.refl U.vm), fun i h1 h2 => (h6.2.2.2.2.2 i h1 h2).moved (U := U.calling g mk a) (Vm.Alike.refl U.vm)⟩⟩
  have hon : ∀ w ∈ qm_nw, w.onTables = true := by decide +kernel
  exact va_Nw.same (hon w hw) (u := U) (U := U.calling g mk a) rfl (h5 w hw)
theorem qm_good {w : Cond} (h : w ∈ lw_tbl) (hg : goodWord w = true) : w ∈ qm_tb := List.mem_filter.mpr ⟨h, hg⟩
theorem qm_goodIn {y : MethodName} {b : ByteArray} {nL : Nat} {ret : Option FieldType} (h : Cond.code y b nL ret ∈ qm_tb) : GoodIn qm_tb (qm_w y b nL ret) := by
  intro w hw
  rcases List.mem_cons.mp hw with rfl | hw
  · exact ⟨h, good_of_word rfl⟩
  · obtain ⟨h1, h2⟩ := List.mem_filter.mp hw
    exact ⟨hw, good_of_word h2⟩
/-- a call's words: virtual, of another's private static, static -/
def qm_CV (own : String) (idx : Nat) (y : MethodName) (b : ByteArray) (nL : Nat) (ret : Option FieldType) (n : Nat) : Prop :=
  Cond.methodLink own idx y ∈ qm_tb ∧ Cond.instanceMethod y ∈ qm_tb ∧ Cond.selects y.cls y y ∈ qm_tb ∧ Cond.initialized y.cls ∈ qm_tb ∧ Cond.code y b nL ret ∈ qm_tb ∧
  (y.cls ≠ "java/lang/invoke/MethodHandle" ∧ y.cls ≠ "java/lang/invoke/VarHandle" ∧ (parseMethodDescriptor y.desc).map (fun d => d.parameters.length) = some n)
def qm_CS (own : String) (idx : Nat) (y : MethodName) (b : ByteArray) (nL : Nat) (ret : Option FieldType) (n : Nat) : Prop :=
  Cond.methodLink own idx y ∈ qm_tb ∧ Cond.static y ∈ qm_tb ∧ Cond.initialized y.cls ∈ qm_tb ∧ Cond.code y b nL ret ∈ qm_tb ∧
  (y.cls ≠ "java/lang/invoke/MethodHandle" ∧ y.cls ≠ "java/lang/invoke/VarHandle" ∧ (parseMethodDescriptor y.desc).map (fun d => d.parameters.length) = some n)
def qm_CN (own : String) (idx : Nat) (y : MethodName) (host : String) (b : ByteArray) (nL : Nat) (ret : Option FieldType) (n : Nat) : Prop :=
  Cond.methodLinkNest own idx y host ∈ qm_nw ∧ Cond.static y ∈ qm_tb ∧ Cond.initialized y.cls ∈ qm_tb ∧ Cond.code y b nL ret ∈ qm_tb ∧
  (y.cls ≠ "java/lang/invoke/MethodHandle" ∧ y.cls ≠ "java/lang/invoke/VarHandle" ∧ (parseMethodDescriptor y.desc).map (fun d => d.parameters.length) = some n)
section QD
variable {X : qm_X} {own : String} {cc : ByteArray} {nL f lo : Nat} {il : List qm_I}
variable {α : Type} {pc pc' : Nat} {ρ : List (Option Value)} {st : List Value} {κ : α → qm_Mem → Prop}
theorem qk_sub (hX : qm_ok X own cc nL f lo il) {H : Heap} (h : (qx_s X).heap.size ≤ H.size) : ∀ q, qm_A (qx_G X) H.size q → qx_A X q := by
  intro q hq
  rcases hq with ⟨i, hi, e⟩ | hq
  · subst e
    exact (qk_A hX).1 i hi
  · exact (qk_A hX).2 q (Nat.le_trans h hq)
/-- the callee's start -/
theorem qk_pre (hX : qm_ok X own cc nL f lo il) {σ : qm_Mem} {H : Heap} {locs : List Loc} (hH : qm_H (qx_G X) σ H) (hS : va_S (qx_A X) (qx_s X).heap H locs) (av : List Value) : ∀ U : State, U.heap = H → (qx_s X).WarmedH U.vm → qm_Pc (qx_G X) av σ H.size av.toArray U := by
  intro U hU hW
  refine ⟨rfl, by rw [hU], by rw [hU]; exact hH, ⟨va_K.moved hW.alike (qk_K hX), fun w hw => ?_⟩, fun q hq => ?_, ?_, fun r hr => ?_, ?_, ?_, fun i h1 h2 => ?_⟩
  · have h := qk_nw hX w hw
    unfold qm_nw at hw
    simp only [List.mem_cons, List.not_mem_nil, or_false] at hw
    rcases hw with rfl | rfl | rfl | rfl | rfl | rfl | rfl | rfl | rfl | rfl | rfl | rfl | rfl | rfl | rfl | rfl | rfl | rfl | rfl | rfl | rfl | rfl | rfl | rfl | rfl | rfl | rfl | rfl
    · exact va_Nw.warmF hW h
    · exact va_Nw.warmF hW h
    · exact va_Nw.warmF hW h
    · exact va_Nw.warmF hW h
    · exact va_Nw.warmF hW h
    · exact va_Nw.warmF hW h
    · exact va_Nw.warmF hW h
    · exact va_Nw.warmF hW h
    · exact va_Nw.warmF hW h
    · exact va_Nw.warmF hW h
    · exact va_Nw.warmF hW h
    · exact va_Nw.warmF hW h
    · exact va_Nw.warmF hW h
    · exact va_Nw.warmF hW h
    · exact va_Nw.warmF hW h
    · exact va_Nw.warmF hW h
    · exact va_Nw.warmF hW h
    · exact va_Nw.warmF hW h
    · exact va_Nw.warmF hW h
    · exact va_Nw.warmF hW h
    · exact va_Nw.warmF hW h
    · exact va_Nw.warmF hW h
    · exact va_Nw.warmF hW h
    · exact va_Nw.warmM hW h
    · exact va_Nw.warmM hW h
    · exact va_Nw.warmM hW h
    · exact va_Nw.warmM hW h
    · exact va_Nw.warmM hW h
  · rw [hU]
    exact ((((qk_Z hX).1 q hq).kept (H1 := H) hS.2.1).narrow (qk_sub hX hS.1)).moved hW.alike
  · rw [hU]
    exact (((qk_Z hX).2.1.kept (H1 := H) hS.2.1).narrow (qk_sub hX hS.1)).moved hW.alike
  · exact vk_R.warm hW ((qk_Z hX).2.2.1 r hr)
  · rw [hU]
    exact (((qk_Z hX).2.2.2.1.kept (H1 := H) hS.2.1).narrow (qk_sub hX hS.1)).moved hW.alike
  · rw [hU]
    exact (((qk_Z hX).2.2.2.2.1.kept (H1 := H) hS.2.1).narrow (qk_sub hX hS.1)).moved hW.alike
  · rw [hU]
    exact ((((qk_Z hX).2.2.2.2.2 i h1 h2).kept (H1 := H) hS.2.1).narrow (qk_sub hX hS.1)).moved hW.alike
theorem qk_cw (hX : qm_ok X own cc nL f lo il) {idx nL' n f' lo' : Nat} {y : MethodName} {b : ByteArray} {ret : Option FieldType} (hc : qm_CV own idx y b nL' ret n) (hr : f' + 1 ≤ f ∧ 8 + (nL' + 11) + lo' ≤ lo) : CallW (qx_R X) (qx_s X) (qx_args X) own y.cls idx y b nL' ret (qm_w y b nL' ret) (qm_rm f' lo') 0 0 n := by
  obtain ⟨h1, h2, h3, h4, h5, h6⟩ := hc
  have ht := qk_ts hX
  obtain ⟨r1, r2, -⟩ := qk_R hX
  exact ⟨callB_of n ht (qm_goodIn h5) rfl rfl rfl (ht _ h4) (ht _ h1) h6 ⟨by rw [r1]; exact hr.1, by rw [r2]; exact hr.2⟩, ht _ h2, ht _ h3⟩
theorem qk_cs (hX : qm_ok X own cc nL f lo il) {idx nL' n f' lo' : Nat} {y : MethodName} {b : ByteArray} {ret : Option FieldType} (hc : qm_CS own idx y b nL' ret n) (hr : f' + 1 ≤ f ∧ 8 + (nL' + 11) + lo' ≤ lo) : CallB (qx_R X) (qx_s X) (qx_args X) own idx y b nL' ret (qm_w y b nL' ret) (qm_rm f' lo') 0 0 n ∧ (Cond.static y).before (qx_args X) (qx_s X) = true := by
  obtain ⟨h1, h2, h4, h5, h6⟩ := hc
  have ht := qk_ts hX
  obtain ⟨r1, r2, -⟩ := qk_R hX
  exact ⟨callB_of n ht (qm_goodIn h5) rfl rfl rfl (ht _ h4) (ht _ h1) h6 ⟨by rw [r1]; exact hr.1, by rw [r2]; exact hr.2⟩, ht _ h2⟩
theorem qk_cn (hX : qm_ok X own cc nL f lo il) {idx nL' n f' lo' : Nat} {y : MethodName} {host : String} {b : ByteArray} {ret : Option FieldType} (hc : qm_CN own idx y host b nL' ret n) (hr : f' + 1 ≤ f ∧ 8 + (nL' + 11) + lo' ≤ lo) : va_CN (qx_R X) (qx_s X) (qx_args X) own idx y host b nL' ret (qm_w y b nL' ret) (qm_rm f' lo') 0 0 n ∧ (Cond.static y).before (qx_args X) (qx_s X) = true ∧ True := by
  obtain ⟨h1, h2, h4, h5, h6⟩ := hc
  have ht := qk_ts hX
  obtain ⟨r1, r2, -⟩ := qk_R hX
  exact ⟨va_cnB n ht (qm_goodIn h5) rfl rfl rfl (qk_nw hX _ h1) (ht _ h4) h6 ⟨by rw [r1]; exact hr.1, by rw [r2]; exact hr.2⟩, ht _ h2, trivial⟩
/-- the receiver is of its class -/
theorem qk_recv (hX : qm_ok X own cc nL f lo il) {σ : qm_Mem} {H : Heap} (hH : qm_H (qx_G X) σ H) {a ci : Nat} (ha : (qm_kd a).1 = 10 + ci) {r : vw_C} (hc : qm_cl[ci]? = some r) : ∃ cell : Cell, H[qx_ad X a]? = some cell ∧ cell.vm.isStatics = false ∧ (qx_s X).vm.findClass r.1 = some cell.cls :=
  va_recv (qk_K hX) (hH.obj ha) hc (q0 := 0) rfl
theorem qk_room {st : List Value} {pc : Nat} {ls : Array Slot} {st0 : List Value} {m : MethodId} (h : (st.map fun v => v.category).sum ≤ 8) : 2 * (F0 m pc ls st0).monitorRoom + (st.map fun v => v.category).sum ≤ 8 := lv_room h
theorem qk_cells (hX : qm_ok X own cc nL f lo il) : qx_cells X + 0 ≤ (qx_R X).cells ∧ qx_slots X + 0 ≤ (qx_R X).slots := ⟨(qk_R hX).2.2.1, (qk_R hX).2.2.2⟩
theorem qb_callI {m : qm_M Int32} {g : Int32 → qm_M α} (hX : qm_ok X own cc nL f lo il) (k : Nat) {idx nL' n f' lo' a ci : Nat} {y : MethodName} {b : ByteArray} {ret : Option FieldType} {As st0 : List Value} {r : vw_C} (hd : qm_nth il k = some (pc, .invokevirtual idx, 3, pc')) (hc : qm_CV own idx y b nL' ret n) (hM : qm_MI (qx_l X) (qx_G X) y b nL' ret f' lo' (.ref (qx_ad X a) :: As) m) (ha : (qm_kd a).1 = 10 + ci) (hr : qm_cl[ci]? = some r ∧ r.1 = y.cls ∧ As.length = n ∧ f' + 1 ≤ f ∧ 8 + (nL' + 11) + lo' ≤ lo) (hst : st0 = As.reverse ++ .ref (qx_ad X a) :: st) (h8 : (st.map fun v => v.category).sum ≤ 8) (h : ∀ x, qm_B X (g x) pc' ρ (.int x :: st) κ) : qm_B X (mB m g) pc ρ st0 κ := by
  cases qk_n hX hd
  intro σ z σ' h1 h2 H locs ls hH hS hL
  obtain ⟨x, σ1, e1, e2⟩ := mB_some h1
  have hrec := qk_recv hX hH ha hr.1
  rw [hr.2.1] at hrec
  exact va_calli (va_runV (As := As) (rest := st) hX.1 (hM σ x σ1 e1 H.size) (qk_cw hX hc ⟨hr.2.2.2.1, hr.2.2.2.2⟩) ⟨qm_Pc_blind, hrec, qk_pre hX hH hS (.ref (qx_ad X a) :: As)⟩ rfl hr.2.2.1 (hL.1.trans (qk_ml hX)) hst (qk_room h8) (qk_d hX hd) (qk_cells hX)) hS (fun q _ hq => qk_sub hX hS.1 q hq) (qk_sub hX hS.1) (fun r' u t H1 locs1 ht hvm hp hB hz hk hS1 => by
    have hp : r' = x := hp
    subst hp
    subst ht
    exact h r' σ1 z σ' e2 h2 t.heap locs1 ls hB hS1 hL)
theorem qb_callV {m : qm_M Unit} {g : Unit → qm_M α} (hX : qm_ok X own cc nL f lo il) (k : Nat) {idx nL' n f' lo' a ci : Nat} {y : MethodName} {b : ByteArray} {As st0 : List Value} {r : vw_C} (hd : qm_nth il k = some (pc, .invokevirtual idx, 3, pc')) (hc : qm_CV own idx y b nL' none n) (hM : qm_MV (qx_l X) (qx_G X) y b nL' f' lo' (.ref (qx_ad X a) :: As) m) (ha : (qm_kd a).1 = 10 + ci) (hr : qm_cl[ci]? = some r ∧ r.1 = y.cls ∧ As.length = n ∧ f' + 1 ≤ f ∧ 8 + (nL' + 11) + lo' ≤ lo) (hst : st0 = As.reverse ++ .ref (qx_ad X a) :: st) (h8 : (st.map fun v => v.category).sum ≤ 8) (h : qm_B X (g ()) pc' ρ st κ) : qm_B X (mB m g) pc ρ st0 κ := by
  cases qk_n hX hd
  intro σ z σ' h1 h2 H locs ls hH hS hL
  obtain ⟨x, σ1, e1, e2⟩ := mB_some h1
  have hrec := qk_recv hX hH ha hr.1
  rw [hr.2.1] at hrec
  exact va_callv (va_runV (As := As) (rest := st) hX.1 (hM σ x σ1 e1 H.size) (qk_cw hX hc ⟨hr.2.2.2.1, hr.2.2.2.2⟩) ⟨qm_Pc_blind, hrec, qk_pre hX hH hS (.ref (qx_ad X a) :: As)⟩ rfl hr.2.2.1 (hL.1.trans (qk_ml hX)) hst (qk_room h8) (qk_d hX hd) (qk_cells hX)) hS (fun q _ hq => qk_sub hX hS.1 q hq) (qk_sub hX hS.1) (fun u t H1 locs1 ht hvm hp hB hz hk hS1 => by
    subst ht
    exact h σ1 z σ' e2 h2 t.heap locs1 ls hB hS1 hL)
theorem qb_callR {m : qm_M Nat} {g : Nat → qm_M α} (hX : qm_ok X own cc nL f lo il) (k : Nat) {idx nL' n f' lo' a ci tt : Nat} {y : MethodName} {b : ByteArray} {ret : Option FieldType} {As st0 : List Value} {r : vw_C} (hd : qm_nth il k = some (pc, .invokevirtual idx, 3, pc')) (hc : qm_CV own idx y b nL' ret n) (hM : qm_MR (qx_l X) (qx_G X) y b nL' ret f' lo' (.ref (qx_ad X a) :: As) m) (ha : (qm_kd a).1 = 10 + ci) (hr : qm_cl[ci]? = some r ∧ r.1 = y.cls ∧ As.length = n ∧ f' + 1 ≤ f ∧ 8 + (nL' + 11) + lo' ≤ lo) (hst : st0 = As.reverse ++ .ref (qx_ad X a) :: st) (h8 : (st.map fun v => v.category).sum ≤ 8) (h : ∀ x, (qm_kd x).1 = tt → qm_B X (g x) pc' ρ (.ref (qx_ad X x) :: st) κ) : qm_B X (mB (mK tt m) g) pc ρ st0 κ := by
  cases qk_n hX hd
  intro σ z σ' h1 h2 H locs ls hH hS hL
  obtain ⟨x, σ1, e1, e2⟩ := mB_some h1
  have hrec := qk_recv hX hH ha hr.1
  rw [hr.2.1] at hrec
  unfold mK at e1
  split at e1
  · cases e1
  · rename_i q hq
    split at e1
    · rename_i ht9
      cases e1
      exact va_callr (va_runV (As := As) (rest := st) hX.1 (hM σ x σ1 hq H.size) (qk_cw hX hc ⟨hr.2.2.2.1, hr.2.2.2.2⟩) ⟨qm_Pc_blind, hrec, qk_pre hX hH hS (.ref (qx_ad X a) :: As)⟩ rfl hr.2.2.1 (hL.1.trans (qk_ml hX)) hst (qk_room h8) (qk_d hX hd) (qk_cells hX)) hS (fun q _ hq => qk_sub hX hS.1 q hq) (qk_sub hX hS.1) (fun u ra t H1 locs1 ht hvm hp hB hz hk hS1 => by
        obtain ⟨hra, hB⟩ := hB
        subst hra
        subst ht
        exact h x ht9 σ1 z σ' e2 h2 t.heap locs1 ls hB hS1 hL)
    · cases e1
theorem qb_calSI {m : qm_M Int32} {g : Int32 → qm_M α} (hX : qm_ok X own cc nL f lo il) (k : Nat) {idx nL' n f' lo' : Nat} {y : MethodName} {b : ByteArray} {ret : Option FieldType} {As st0 : List Value} (hd : qm_nth il k = some (pc, .invokestatic idx, 3, pc')) (hc : qm_CS own idx y b nL' ret n) (hM : qm_MI (qx_l X) (qx_G X) y b nL' ret f' lo' As m) (hr : As.length = n ∧ f' + 1 ≤ f ∧ 8 + (nL' + 11) + lo' ≤ lo) (hst : st0 = As.reverse ++ st) (h8 : (st.map fun v => v.category).sum ≤ 8) (h : ∀ x, qm_B X (g x) pc' ρ (.int x :: st) κ) : qm_B X (mB m g) pc ρ st0 κ := by
  cases qk_n hX hd
  intro σ z σ' h1 h2 H locs ls hH hS hL
  obtain ⟨x, σ1, e1, e2⟩ := mB_some h1
  exact va_calli (va_runS (As := As) (rest := st) hX.1 (hM σ x σ1 e1 H.size) (qk_cs hX hc ⟨hr.2.1, hr.2.2⟩) ⟨qm_Pc_blind, qk_pre hX hH hS As⟩ rfl hr.1 (hL.1.trans (qk_ml hX)) hst (qk_room h8) (qk_d hX hd) (qk_cells hX)) hS (fun q _ hq => qk_sub hX hS.1 q hq) (qk_sub hX hS.1) (fun r' u t H1 locs1 ht hvm hp hB hz hk hS1 => by
    have hp : r' = x := hp
    subst hp
    subst ht
    exact h r' σ1 z σ' e2 h2 t.heap locs1 ls hB hS1 hL)
theorem qb_calSV {m : qm_M Unit} {g : Unit → qm_M α} (hX : qm_ok X own cc nL f lo il) (k : Nat) {idx nL' n f' lo' : Nat} {y : MethodName} {b : ByteArray} {As st0 : List Value} (hd : qm_nth il k = some (pc, .invokestatic idx, 3, pc')) (hc : qm_CS own idx y b nL' none n) (hM : qm_MV (qx_l X) (qx_G X) y b nL' f' lo' As m) (hr : As.length = n ∧ f' + 1 ≤ f ∧ 8 + (nL' + 11) + lo' ≤ lo) (hst : st0 = As.reverse ++ st) (h8 : (st.map fun v => v.category).sum ≤ 8) (h : qm_B X (g ()) pc' ρ st κ) : qm_B X (mB m g) pc ρ st0 κ := by
  cases qk_n hX hd
  intro σ z σ' h1 h2 H locs ls hH hS hL
  obtain ⟨x, σ1, e1, e2⟩ := mB_some h1
  exact va_callv (va_runS (As := As) (rest := st) hX.1 (hM σ x σ1 e1 H.size) (qk_cs hX hc ⟨hr.2.1, hr.2.2⟩) ⟨qm_Pc_blind, qk_pre hX hH hS As⟩ rfl hr.1 (hL.1.trans (qk_ml hX)) hst (qk_room h8) (qk_d hX hd) (qk_cells hX)) hS (fun q _ hq => qk_sub hX hS.1 q hq) (qk_sub hX hS.1) (fun u t H1 locs1 ht hvm hp hB hz hk hS1 => by
    subst ht
    exact h σ1 z σ' e2 h2 t.heap locs1 ls hB hS1 hL)
theorem qb_calNI {m : qm_M Int32} {g : Int32 → qm_M α} (hX : qm_ok X own cc nL f lo il) (k : Nat) {idx nL' n f' lo' : Nat} {y : MethodName} {host : String} {b : ByteArray} {ret : Option FieldType} {As st0 : List Value} (hd : qm_nth il k = some (pc, .invokestatic idx, 3, pc')) (hc : qm_CN own idx y host b nL' ret n) (hM : qm_MI (qx_l X) (qx_G X) y b nL' ret f' lo' As m) (hr : As.length = n ∧ f' + 1 ≤ f ∧ 8 + (nL' + 11) + lo' ≤ lo) (hst : st0 = As.reverse ++ st) (h8 : (st.map fun v => v.category).sum ≤ 8) (h : ∀ x, qm_B X (g x) pc' ρ (.int x :: st) κ) : qm_B X (mB m g) pc ρ st0 κ := by
  cases qk_n hX hd
  intro σ z σ' h1 h2 H locs ls hH hS hL
  obtain ⟨x, σ1, e1, e2⟩ := mB_some h1
  exact va_calli (va_runSN (As := As) (rest := st) hX.1 (hM σ x σ1 e1 H.size) (qk_cn hX hc ⟨hr.2.1, hr.2.2⟩) ⟨qm_Pc_blind, qk_pre hX hH hS As⟩ rfl hr.1 (hL.1.trans (qk_ml hX)) hst (qk_room h8) (qk_d hX hd) (qk_cells hX)) hS (fun q _ hq => qk_sub hX hS.1 q hq) (qk_sub hX hS.1) (fun r' u t H1 locs1 ht hvm hp hB hz hk hS1 => by
    have hp : r' = x := hp
    subst hp
    subst ht
    exact h r' σ1 z σ' e2 h2 t.heap locs1 ls hB hS1 hL)
end QD
