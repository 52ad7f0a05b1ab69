/-! ===== the making: a world that grows, its cells by their places ===== -/
abbrev qz_T : Type := (Nat → Nat) × (Nat → va_E) × Nat
def qz_L (T : qz_T) : va_W := (List.range T.2.2).map (fun i => (T.1 i, T.2.1 i))
def qz_u {α : Type} (f : Nat → α) (k : Nat) (e : α) : Nat → α := fun i => if i = k then e else f i
theorem qz_us {α : Type} {f : Nat → α} {k : Nat} {e : α} : qz_u f k e k = e := if_pos rfl
theorem qz_un {α : Type} {f : Nat → α} {k i : Nat} {e : α} (h : i ≠ k) : qz_u f k e i = f i := if_neg h
theorem qz_len {T : qz_T} : (qz_L T).length = T.2.2 := by unfold qz_L; rw [List.length_map, List.length_range]
theorem qz_at {T : qz_T} {k : Nat} (h : k < T.2.2) : (qz_L T)[k]? = some (T.1 k, T.2.1 k) := by
  unfold qz_L
  rw [List.getElem?_map, List.getElem?_range h]
  rfl
theorem qz_add {ad : Nat → Nat} {E : Nat → va_E} {n q : Nat} {e : va_E} : qz_L (ad, E, n) ++ [(q, e)] = qz_L (qz_u ad n q, qz_u E n e, n + 1) := by
  unfold qz_L
  show _ = (List.range (n + 1)).map _
  rw [List.range_succ, List.map_append]
  congr 1
  · apply List.map_congr_left
    intro i hi
    have h : i < n := List.mem_range.mp hi
    show _ = (qz_u ad n q i, qz_u E n e i)
    rw [qz_un (by omega), qz_un (by omega)]
  · show _ = [(qz_u ad n q n, qz_u E n e n)]
    rw [qz_us, qz_us]
theorem qz_set {ad : Nat → Nat} {E : Nat → va_E} {n k : Nat} {e : va_E} (h : k < n) : (qz_L (ad, E, n)).set k (ad k, e) = qz_L (ad, qz_u E k e, n) := by
  apply List.ext_getElem?
  intro i
  rw [List.getElem?_set, show (qz_L (ad, E, n)).length = n from qz_len]
  by_cases hi : i < n
  · rw [qz_at (T := (ad, qz_u E k e, n)) hi, qz_at (T := (ad, E, n)) hi]
    by_cases hk : k = i
    · subst hk
      rw [if_pos rfl, if_pos h]
      show _ = some (ad k, qz_u E k e k)
      rw [qz_us]
    · rw [if_neg hk]
      show _ = some (ad i, qz_u E k e i)
      rw [qz_un (fun q => hk q.symm)]
  · rw [List.getElem?_eq_none (l := qz_L (ad, qz_u E k e, n)) (by rw [qz_len]; exact Nat.not_lt.mp hi)]
    have hi2 : ¬ k = i := fun q => hi (q ▸ h)
    rw [if_neg hi2, List.getElem?_eq_none (by rw [show (qz_L (ad, E, n)).length = n from qz_len]; exact Nat.not_lt.mp hi)]
theorem qz_mna {ad : Nat → Nat} {E : Nat → va_E} {n q N : Nat} {r : Nat → Nat} {e x : va_E} {f : Nat → va_E} : (qz_L (ad, E, n) ++ [(q, e)]) ++ va_pl (([] : List Nat) ++ (List.range N).map r) (vr_up f ((List.range N).map r) x) = qz_L ((fun i => if i ≤ n then qz_u ad n q i else r (i - (n + 1))), (fun i => if i ≤ n then qz_u E n e i else x), n + 1 + N) := by
  rw [qz_add]
  unfold qz_L va_pl
  show _ = (List.range (n + 1 + N)).map _
  rw [List.nil_append, show List.range (n + 1 + N) = List.range (n + 1) ++ (List.range N).map (fun x => n + 1 + x) from List.range_add, List.map_append]
  congr 1
  · apply List.map_congr_left
    intro i hi
    have h : i < n + 1 := List.mem_range.mp hi
    show (qz_u ad n q i, qz_u E n e i) = (if i ≤ n then _ else _, if i ≤ n then _ else _)
    rw [if_pos (by omega), if_pos (by omega)]
  · rw [List.map_map, List.map_map]
    apply List.map_congr_left
    intro i hi
    show (r i, vr_up f ((List.range N).map r) x (r i)) = (if n + 1 + i ≤ n then _ else r (n + 1 + i - (n + 1)), if n + 1 + i ≤ n then _ else x)
    rw [if_neg (by omega), if_neg (by omega), Nat.add_sub_cancel_left, vr_up_in (List.mem_map.mpr ⟨i, hi, rfl⟩)]
/-- the classes of rows of rows and of rows of RUNS -/
def qz_O (U : State) : Prop := va_AO "ColumnsLevelled$Run" U ∧ (Cond.arrayOver (.array .int)).before #[] U = true
theorem qz_O.moved {u U : State} (hvm : u.vm.Alike U.vm) (h : qz_O u) : qz_O U := ⟨va_AO.moved hvm h.1, over_moved hvm h.2⟩
/-- what holds in a constructor, or in what it calls -/
def qz_ok (X : qm_X) (own : String) (cc : ByteArray) (nL f lo mc ms : Nat) (l : List qm_I) : Prop :=
  ((qx_p X).tables.exec = Jvm.exec ∧ (qx_c X).code = cc ∧ (qx_c X).maxLocals = nL ∧ (qx_s X).vm.findClass own = some (qx_m X).cls ∧ ∀ w ∈ qm_tb, w.before (qx_args X) (qx_s X) = true) ∧
  qm_D cc l ∧ (qx_meth X).locks = false ∧ qm_K (qx_G X) (qx_s X) ∧ qm_Z (qx_G X) (qx_A X) (qx_s X) (qx_s X).heap ∧ (∀ q, (qx_s X).heap.size ≤ q → qx_A X q) ∧ (qx_R X).frames = f ∧ (qx_R X).locals = lo ∧ ((qx_R X).cells = mc ∧ (qx_R X).slots = ms) ∧ qz_O (qx_s X)
def qz_J (X : qm_X) (pc : Nat) (ρ : List (Option Value)) (st : List Value) (T : qz_T) (ce sl : Nat) : Prop :=
  ∀ (H : Heap) (locs : List Loc) (ls : Array Slot), va_P (qx_G X).2.1 qm_cl (qz_L T) H → va_D (qx_A X) (qz_L T) → va_S (qx_A X) (qx_s X).heap H locs → qm_L ls (qx_c X).maxLocals ρ → W (qx_p X) (qx_l X) (qx_e X) (qx_R X) (qx_s X) (qx_m X) (qx_args X) (qx_below X) (qx_meth X) (qx_c X) H locs ce sl (qx_Q X) (F0 (qx_m X) pc ls st)
def qz_A (T : qz_T) (sz : Nat) : Nat → Prop := fun q => (∃ i, i < T.2.2 ∧ q = T.1 i) ∨ sz ≤ q
def qz_rm (f lo mc ms : Nat) : Room := { frames := f, cells := mc, slots := ms, locals := lo }
def qz_Pc (G : qm_G) (T : qz_T) (av : List Value) (sz : Nat) : Array Value → State → Prop := va_Pc av (fun U => U.heap.size = sz ∧ va_P G.2.1 qm_cl (qz_L T) U.heap ∧ va_D (qz_A T sz) (qz_L T) ∧ qm_K G U ∧ qm_Z G (qz_A T sz) U U.heap ∧ qz_O U)
def qz_W (G : qm_G) (T : qz_T) (sz : Nat) (T' : qz_T) (t : State) : Prop := va_P G.2.1 qm_cl (qz_L T') t.heap ∧ va_D (qz_A T sz) (qz_L T')
/-- a contract of what makes -/
def qz_MV (l : Launch) (G : qm_G) (y : MethodName) (b : ByteArray) (nL f lo mc ms : Nat) (T : qz_T) (av : List Value) (post : qz_T → Prop) : Prop :=
  ∀ sz, Met l y (qm_w y b nL none) (qz_rm f lo mc ms) (qz_Pc G T av sz) (va_Qv post (qz_W G T sz) (qz_A T sz)) mc ms (qz_A T sz)
def qz_MI (l : Launch) (G : qm_G) (y : MethodName) (b : ByteArray) (nL : Nat) (ret : Option FieldType) (f lo : Nat) (T : qz_T) (av : List Value) (v : Int32) : Prop :=
  ∀ sz, Met l y (qm_w y b nL ret) (qz_rm f lo 0 0) (qz_Pc G T av sz) (va_Qi (fun r T' => r = v ∧ T' = T) (qz_W G T sz) (qz_A T sz)) 0 0 (qz_A T sz)
theorem qz_Pc_blind {G : qm_G} {T : qz_T} {av : List Value} {sz : Nat} : FrameBlind (qz_Pc G T av sz) := by
  intro a U g mk h
  obtain ⟨h1, h2, h3, hd, ⟨h4, h5⟩, h6, h7⟩ := h
  refine ⟨h1, h2, h3, hd, ⟨va_K.moved (u := U) (U := U.calling g mk a) (Vm.Alike.refl U.vm) h4, fun w hw => ?_⟩, ⟨fun q hq => (h6.1 q hq).moved (U := U.calling g mk a) (Vm.Alike.refl U.vm), h6.2.1.moved (U := U.calling g mk a) (Vm.Alike.refl U.vm), fun r hr => vk_R.same (u := U) rfl (h6.2.2.1 r hr), h6.2.2.2.1.moved (U := U.calling g mk a) (Vm.Alike.refl U.vm), h6.2.2.2.2.1.moved (U := U.calling g mk a) (Vm.Alike.refl U.vm), fun i h1 h2 => (h6.2.2.2.2.2 i h1 h2).moved (U := U.calling g mk a) (Vm.Alike.refl U.vm)⟩, qz_O.moved (u := U) (U := U.calling g mk a) (Vm.Alike.refl U.vm) h7⟩
  have hon : ∀ w ∈ qm_nw, w.onTables = true := by decide +kernel
  exact va_Nw.same (hon w hw) (u := U) (U := U.calling g mk a) rfl (h5 w hw)
section
variable {X : qm_X} {own : String} {cc : ByteArray} {nL f lo mc ms : Nat} {il : List qm_I}
variable {pc pc' ce sl : Nat} {ρ : List (Option Value)} {st : List Value} {T : qz_T}
theorem zk_ex (hX : qz_ok X own cc nL f lo mc ms il) : (qx_p X).tables.exec = Jvm.exec := hX.1.1
theorem zk_by (hX : qz_ok X own cc nL f lo mc ms il) : (qx_c X).code = cc := hX.1.2.1
theorem zk_ml (hX : qz_ok X own cc nL f lo mc ms il) : (qx_c X).maxLocals = nL := hX.1.2.2.1
theorem zk_ow (hX : qz_ok X own cc nL f lo mc ms il) : (qx_s X).vm.findClass own = some (qx_m X).cls := hX.1.2.2.2.1
theorem zk_ts (hX : qz_ok X own cc nL f lo mc ms il) : ∀ w ∈ qm_tb, w.before (qx_args X) (qx_s X) = true := hX.1.2.2.2.2
theorem zk_d (hX : qz_ok X own cc nL f lo mc ms il) {k n : Nat} {i : Instr} (hd : qm_nth il k = some (pc, i, n, pc')) : decode cc pc = .ok (i, n) := (hX.2.1 k _ hd).1
theorem zk_n (hX : qz_ok X own cc nL f lo mc ms il) {k n : Nat} {i : Instr} (hd : qm_nth il k = some (pc, i, n, pc')) : pc + n = pc' := (hX.2.1 k _ hd).2
theorem zk_K (hX : qz_ok X own cc nL f lo mc ms il) : va_K (qx_G X).2.1 qm_cl (qm_tys (qx_G X)) (qx_s X) := hX.2.2.2.1.1
theorem zk_nw (hX : qz_ok X own cc nL f lo mc ms il) : ∀ w ∈ qm_nw, va_Nw w (qx_s X) := hX.2.2.2.1.2
theorem zk_Z (hX : qz_ok X own cc nL f lo mc ms il) : qm_Z (qx_G X) (qx_A X) (qx_s X) (qx_s X).heap := hX.2.2.2.2.1
theorem zk_A (hX : qz_ok X own cc nL f lo mc ms il) : ∀ q, (qx_s X).heap.size ≤ q → qx_A X q := hX.2.2.2.2.2.1
theorem zk_R (hX : qz_ok X own cc nL f lo mc ms il) : (qx_R X).frames = f ∧ (qx_R X).locals = lo ∧ (qx_R X).cells = mc ∧ (qx_R X).slots = ms := ⟨hX.2.2.2.2.2.2.1, hX.2.2.2.2.2.2.2.1, hX.2.2.2.2.2.2.2.2.1.1, hX.2.2.2.2.2.2.2.2.1.2⟩
theorem zk_O (hX : qz_ok X own cc nL f lo mc ms il) : qz_O (qx_s X) := hX.2.2.2.2.2.2.2.2.2
theorem qz_aload_n (hX : qz_ok X own cc nL f lo mc ms il) (k : Nat) {i : Fin 4} {x : Nat} (hd : qm_nth il k = some (pc, .aload_n i, 1, pc')) (hr : ρ[(i : Nat)]? = some (some (.ref x))) (h : qz_J X pc' ρ (.ref x :: st) T ce sl) : qz_J X pc ρ st T ce sl := by
  cases zk_n hX hd
  exact fun H locs ls hP hD hS hL => lv_aload_n (zk_ex hX) (zk_by hX) (zk_d hX hd) rfl (hL.at hr) (h H locs ls hP hD hS hL)
theorem qz_iload_n (hX : qz_ok X own cc nL f lo mc ms il) (k : Nat) {i : Fin 4} {x : Int32} (hd : qm_nth il k = some (pc, .iload_n i, 1, pc')) (hr : ρ[(i : Nat)]? = some (some (.int x))) (h : qz_J X pc' ρ (.int x :: st) T ce sl) : qz_J X pc ρ st T ce sl := by
  cases zk_n hX hd
  exact fun H locs ls hP hD hS hL => lv_iload_n (zk_ex hX) (zk_by hX) (zk_d hX hd) rfl (hL.at hr) (h H locs ls hP hD hS hL)
theorem qz_iconst (hX : qz_ok X own cc nL f lo mc ms il) (k : Nat) {n : Int} (v : Int32) (hd : qm_nth il k = some (pc, .iconst n, 1, pc')) (hv : Int32.ofInt n = v) (h : qz_J X pc' ρ (.int v :: st) T ce sl) : qz_J X pc ρ st T ce sl := by
  cases zk_n hX hd
  exact fun H locs ls hP hD hS hL => lv_iconst (zk_ex hX) (zk_by hX) (zk_d hX hd) hv (h H locs ls hP hD hS hL)
theorem qz_bipush (hX : qz_ok X own cc nL f lo mc ms il) (k : Nat) {n : Int} (v : Int32) (hd : qm_nth il k = some (pc, .bipush n, 2, pc')) (hv : (Int8.ofInt n).toInt32 = v) (h : qz_J X pc' ρ (.int v :: st) T ce sl) : qz_J X pc ρ st T ce sl := by
  cases zk_n hX hd
  exact fun H locs ls hP hD hS hL => lv_bipush (zk_ex hX) (zk_by hX) (zk_d hX hd) hv (h H locs ls hP hD hS hL)
theorem qz_sipush (hX : qz_ok X own cc nL f lo mc ms il) (k : Nat) {n : Int} (v : Int32) (hd : qm_nth il k = some (pc, .sipush n, 3, pc')) (hv : (Int16.ofInt n).toInt32 = v) (h : qz_J X pc' ρ (.int v :: st) T ce sl) : qz_J X pc ρ st T ce sl := by
  cases zk_n hX hd
  exact fun H locs ls hP hD hS hL => lv_sipush (zk_ex hX) (zk_by hX) (zk_d hX hd) hv (h H locs ls hP hD hS hL)
theorem qz_dup (hX : qz_ok X own cc nL f lo mc ms il) (k : Nat) {q : Nat} (hd : qm_nth il k = some (pc, .dup, 1, pc')) (h : qz_J X pc' ρ (.ref q :: .ref q :: st) T ce sl) : qz_J X pc ρ (.ref q :: st) T ce sl := by
  cases zk_n hX hd
  exact fun H locs ls hP hD hS hL => lv_dup (zk_ex hX) (zk_by hX) (zk_d hX hd) rfl (h H locs ls hP hD hS hL)
theorem qz_goto (hX : qz_ok X own cc nL f lo mc ms il) (k : Nat) {off : Int} {n tgt : Nat} (hd : qm_nth il k = some (pc, .goto off, 3, n)) (ht : (pc : Int) + off = (tgt : Int)) (h : qz_J X tgt ρ st T ce sl) : qz_J X pc ρ st T ce sl :=
  fun H locs ls hP hD hS hL => lv_goto (zk_ex hX) (zk_by hX) (zk_d hX hd) ht (h H locs ls hP hD hS hL)
theorem qz_icge (hX : qz_ok X own cc nL f lo mc ms il) (k : Nat) {x y : Int32} {off : Int} (tgt : Nat) (hd : qm_nth il k = some (pc, .if_icmp .ge off, 3, pc')) (ht : (pc : Int) + off = (tgt : Int)) (h1 : y ≤ x → qz_J X tgt ρ st T ce sl) (h2 : ¬ y ≤ x → qz_J X pc' ρ st T ce sl) : qz_J X pc ρ (.int y :: .int x :: st) T ce sl := by
  cases zk_n hX hd
  intro H locs ls hP hD hS hL
  exact lv_icmp_ge (zk_ex hX) (zk_by hX) (zk_d hX hd) ht (fun c => h1 (by first | exact c | simpa using c) H locs ls hP hD hS hL) (fun c => h2 (by first | exact c | simpa using c) H locs ls hP hD hS hL)
theorem qz_istore_n (hX : qz_ok X own cc nL f lo mc ms il) (k : Nat) {i : Fin 4} {x : Int32} (ρ' : List (Option Value)) (hd : qm_nth il k = some (pc, .istore_n i, 1, pc')) (hi : (i : Nat) < nL) (hρ : ρ.set (i : Nat) (some (.int x)) = ρ') (h : qz_J X pc' ρ' st T ce sl) : qz_J X pc ρ (.int x :: st) T ce sl := by
  cases zk_n hX hd
  intro H locs ls hP hD hS hL
  obtain ⟨ls', e, s2⟩ := hL.put (i := (i : Nat)) (v := .int x) (by rw [zk_ml hX]; exact hi) rfl
  rw [hρ] at s2
  have h := h H locs ls' hP hD hS s2
  intro T9 hT Y
  obtain ⟨t, a, b⟩ := h T9 hT Y
  refine ⟨t, ?_, b⟩
  have hd' := zk_d hX hd
  jvm_step Y.here [Y.here.top, ↓top_set Y.here.top, zk_ex hX, zk_by hX, hd', e]
  exact a
theorem qz_iinc (hX : qz_ok X own cc nL f lo mc ms il) (k : Nat) {i : Nat} {n : Int} {x : Int32} (d : Int32) (ρ' : List (Option Value)) (hd : qm_nth il k = some (pc, .iinc i n, 3, pc')) (hn : Int32.ofInt n = d) (hi : i < nL) (hx : ρ[i]? = some (some (.int x))) (hr : ρ.set i (some (.int (x + d))) = ρ') (h : qz_J X pc' ρ' st T ce sl) : qz_J X pc ρ st T ce sl := by
  cases zk_n hX hd
  intro H locs ls hP hD hS hL
  obtain ⟨ls', e1, e2⟩ := hL.put (by rw [zk_ml hX]; exact hi) (v := .int (x + d)) rfl
  rw [hr] at e2
  have hd' := zk_d hX hd
  have hg := hL.at hx
  have hh := h H locs ls' hP hD hS e2
  intro T9 hT Y
  obtain ⟨t, a, b⟩ := hh T9 hT Y
  refine ⟨t, ?_, b⟩
  jvm_step Y.here [Y.here.top, ↓top_set Y.here.top, zk_ex hX, zk_by hX, hd', hg, hn, e1]
  exact a
/-- java/lang/Object's own -/
theorem qz_obj (hX : qz_ok X own cc nL f lo mc ms il) (k : Nat) {idx a : Nat} (hd : qm_nth il k = some (pc, .invokespecial idx, 3, pc')) (hw : Cond.methodLink own idx Lib.objectInit ∈ qm_tb) (h1 : Cond.instanceMethod Lib.objectInit ∈ qm_tb) (h2 : Cond.code Lib.objectInit ⟨#[0xb1]⟩ 1 none ∈ qm_tb) (hr : 1 ≤ f ∧ 12 ≤ lo) (h : qz_J X pc' ρ [] T ce sl) : qz_J X pc ρ [.ref a] T ce sl := by
  cases zk_n hX hd
  intro H locs ls hP hD hS hL
  obtain ⟨r1, r2, -, -⟩ := zk_R hX
  exact W.objInit (zk_ex hX) (zk_by hX) (zk_ow hX) (zk_ts hX _ hw) (zk_ts hX _ h1) (zk_ts hX _ h2) rfl hL.1 rfl (zk_d hX hd) (by rw [r1]; exact hr.1) (by rw [r2]; show 2 * 0 + 0 + 12 ≤ _; omega) (h H locs ls hP hD hS hL)
/-- a class's words for new -/
def qz_N (own : String) (idx ci : Nat) (ty : Nat → FieldType) (fs : List Value) (N : Nat) : Prop := ∃ (C : String) (T : u_T), qm_cls ci C T N ∧ (∀ k, k < N → parseFieldDescriptor (T k).2.2.1 = some (ty k)) ∧ Cond.classLink own idx C ∈ qm_tb ∧ Cond.instantiable C N ∈ qm_tb ∧ Cond.initialized C ∈ qm_tb ∧ ∀ j, j < N → defaultValue (ty j) = vp_V fs j
theorem qz_new {ad : Nat → Nat} {E : Nat → va_E} {n : Nat} (hX : qz_ok X own cc nL f lo mc ms il) (k : Nat) {idx ci N : Nat} {ty : Nat → FieldType} {fs : List Value} (hd : qm_nth il k = some (pc, .new idx, 3, pc')) (hn : qz_N own idx ci ty fs N) (hc : ce + 1 ≤ mc ∧ sl + N ≤ ms) (h : ∀ q, qz_J X pc' ρ (.ref q :: st) (qz_u ad n q, qz_u E n (.inr (ci, fs)), n + 1) (ce + 1) (sl + N)) : qz_J X pc ρ st (ad, E, n) ce sl := by
  cases zk_n hX hd
  obtain ⟨C, U, ⟨c1, c2⟩, c3, c4, c5, c6, c7⟩ := hn
  obtain ⟨-, -, r3, r4⟩ := zk_R hX
  intro H locs ls hP hD hS hL
  refine va_new (zk_ex hX) (zk_by hX) (zk_ts hX) c2 ty c3 (zk_ow hX) (zk_ts hX _ c4) (zk_ts hX _ c5) (zk_ts hX _ c6) (zk_K hX) hP hD hS (zk_A hX) c1 c7 (by rw [r3]; exact hc.1) (by rw [r4]; exact hc.2) (zk_d hX hd) (fun q H1 hP1 hD1 hS1 => ?_)
  rw [qz_add] at hP1 hD1
  exact h q H1 locs ls hP1 hD1 hS1 hL
theorem qz_same {D : va_G} {cl : List vw_C} {tys : List (ClassId × FieldType)} {U : State} {cA c1 : ClassId} {ty : FieldType} (hK : va_K D cl (tys ++ [(cA, ty)]) U) (k : Nat) (hk : tys[k]? = some (c1, ty)) : cA = c1 := by
  have h1 := (hK.2 tys.length (cA, ty) (by rw [List.getElem?_append_right (Nat.le_refl _), Nat.sub_self]; rfl)).2
  have h2 := (hK.2 k (c1, ty) (by rw [List.getElem?_append_left (List.getElem?_eq_some_iff.mp hk).1]; exact hk)).2
  cases ty with
  | object C =>
    obtain ⟨kA, comp, -, -, -, e1⟩ := h1
    obtain ⟨kA', comp', -, -, -, e2⟩ := h2
    exact Option.some.inj (e1.symm.trans e2)
  | _ => exact Option.some.inj (h1.symm.trans h2)
theorem qz_newa {ad : Nat → Nat} {E : Nat → va_E} {n : Nat} (hX : qz_ok X own cc nL f lo mc ms il) (k : Nat) {at9 : ArrayType} {ty : FieldType} (t0 : Nat) {v : Int32} (N : Nat) (hd : qm_nth il k = some (pc, .newarray at9, 2, pc')) (hw : Cond.arrayClass ty ∈ qm_tb) (hty : newarray.typeOf at9 = ty) (hdf : defaultValue ty = .int 0) (hv : v = Int32.ofNat N) (hN : N ≤ 100000) (hb : componentBytes ty ≤ 8) (ht : (qm_tys (qx_G X))[t0]? = some ((qx_G X).2.2 (t0 + 1), ty)) (hc : ce + 1 ≤ mc ∧ sl + N ≤ ms) (h : ∀ q, qz_J X pc' ρ (.ref q :: st) (qz_u ad n q, qz_u E n (.inl ((qx_G X).2.2 (t0 + 1), N, .inl (fun _ => 0))), n + 1) (ce + 1) (sl + N)) : qz_J X pc ρ (.int v :: st) (ad, E, n) ce sl := by
  cases zk_n hX hd
  obtain ⟨-, -, r3, r4⟩ := zk_R hX
  subst hty
  subst hv
  have hn0 : (Int32.ofNat N).toInt = (N : Int) := by
    have hs : Int32.size = 4294967296 := rfl
    rw [Int32.toInt_ofNat']
    exact Int.bmod_eq_of_le (by omega) (by omega)
  intro H locs ls hP hD hS hL
  refine va_newa (a0 := (N, .inl (fun _ => 0))) (N' := N) (zk_ex hX) (zk_by hX) (zk_ts hX _ hw) rfl (zk_K hX) hP hD hS (zk_A hX) (fun cA => by rw [vp_cell_i, hdf]) (by
    intro q
    have := Int32.lt_iff_toInt_lt.mp q
    rw [hn0] at this
    have h0 : (0 : Int32).toInt = 0 := rfl
    omega) (by show (Int32.ofNat N).toInt.toNat = N; rw [hn0]; omega) (by have := Nat.mul_le_mul hN hb; omega) (by rw [r3]; exact hc.1) (by rw [r4]; exact hc.2) (zk_d hX hd) (fun q cA H1 hK1 hP1 hD1 hS1 => ?_)
  have e := qz_same hK1 t0 ht
  subst e
  rw [qz_add] at hP1 hD1
  exact h q H1 locs ls hP1 hD1 hS1 hL
theorem qz_newq {ad : Nat → Nat} {E : Nat → va_E} {n : Nat} (hX : qz_ok X own cc nL f lo mc ms il) (k : Nat) {idx : Nat} {v : Int32} (N : Nat) (hd : qm_nth il k = some (pc, .anewarray idx, 3, pc')) (hw : Cond.classLink own idx "ColumnsLevelled$Run" ∈ qm_tb) (hv : ¬ v < 0 ∧ v.toNatClampNeg = N ∧ N * 4 ≤ 536870912) (hc : ce + 1 ≤ mc ∧ sl + N ≤ ms) (h : ∀ q, qz_J X pc' ρ (.ref q :: st) (qz_u ad n q, qz_u E n (.inl ((qx_G X).2.2 5, N, .inr (.inr (.inr (.inr (fun _ => none)))))), n + 1) (ce + 1) (sl + N)) : qz_J X pc ρ (.int v :: st) (ad, E, n) ce sl := by
  cases zk_n hX hd
  obtain ⟨-, -, r3, r4⟩ := zk_R hX
  intro H locs ls hP hD hS hL
  refine va_newq (N' := N) (zk_ex hX) (zk_by hX) (zk_ow hX) (zk_ts hX _ hw) (zk_O hX).1 (zk_K hX) hP hD hS (zk_A hX) hv.1 hv.2.1 hv.2.2 (by rw [r3]; exact hc.1) (by rw [r4]; exact hc.2) (zk_d hX hd) (fun q cA H1 hK1 hP1 hD1 hS1 => ?_)
  have e := qz_same hK1 4 rfl
  subst e
  rw [qz_add] at hP1 hD1
  exact h q H1 locs ls hP1 hD1 hS1 hL
theorem qz_nn {v : Int32} {N : Nat} (hv : v = Int32.ofNat N) (hN : N ≤ 100000) : ¬ v < 0 ∧ v.toNatClampNeg = N := by
  subst hv
  have hn0 : (Int32.ofNat N).toInt = (N : Int) := by
    have hs : Int32.size = 4294967296 := rfl
    rw [Int32.toInt_ofNat']
    exact Int.bmod_eq_of_le (by omega) (by omega)
  refine ⟨fun q => ?_, ?_⟩
  · have := Int32.lt_iff_toInt_lt.mp q
    rw [hn0] at this
    have h0 : (0 : Int32).toInt = 0 := rfl
    omega
  · show (Int32.ofNat N).toInt.toNat = N
    rw [hn0]
    omega
theorem qz_mnew {ad : Nat → Nat} {E : Nat → va_E} {n : Nat} (hX : qz_ok X own cc nL f lo mc ms il) (k : Nat) {idx : Nat} {v w : Int32} (N M : Nat) (hd : qm_nth il k = some (pc, .multianewarray idx 2, 4, pc')) (hw : Cond.classLink own idx "[[I" ∈ qm_tb) (ha : Cond.arrayClass .int ∈ qm_tb) (hv : v = Int32.ofNat N) (hw2 : w = Int32.ofNat M) (hN : N ≤ 100000 ∧ M ≤ 100000) (hc : ce + (1 + N) ≤ mc ∧ sl + (N + N * M) ≤ ms) (h : ∀ (q : Nat) (r : Nat → Nat), qz_J X pc' ρ (.ref q :: st) ((fun i => if i ≤ n then qz_u ad n q i else r (i - (n + 1))), (fun i => if i ≤ n then qz_u E n (.inl ((qx_G X).2.2 4, N, .inr (.inr (.inr (.inr (fun i => if i < N then some (r i) else none)))))) i else .inl ((qx_G X).2.2 1, M, .inl (fun _ => 0))), n + 1 + N) (ce + 1 + N) (sl + N + N * M)) : qz_J X pc ρ (.int w :: .int v :: st) (ad, E, n) ce sl := by
  cases zk_n hX hd
  obtain ⟨-, -, r3, r4⟩ := zk_R hX
  obtain ⟨v1, v2⟩ := qz_nn hv hN.1
  obtain ⟨w1, w2⟩ := qz_nn hw2 hN.2
  intro H locs ls hP hD hS hL
  have hcy := ((zk_K hX).2 0 _ rfl).2
  refine va_mna (X := qz_L (ad, E, n)) (L := []) (f := fun _ => .inr (0, [])) (ty := .int) (cy := (qx_G X).2.2 1) (z := (M, .inl (fun _ => 0))) (N' := N) (K' := M) (zk_ex hX) (zk_by hX) (zk_ow hX) (zk_ts hX _ hw) (over_moved (Vm.Alike.refl _) (zk_O hX).2) (zk_ts hX _ ha) hcy (zk_K hX) (by show va_P _ _ (qz_L (ad, E, n) ++ []) _; rw [List.append_nil]; exact hP) (by show va_D _ (qz_L (ad, E, n) ++ []); rw [List.append_nil]; exact hD) hS (zk_A hX) v1 w1 v2 w2 (by omega) (by show M * 4 ≤ _; omega) (by omega) rfl rfl (by rw [r3]; exact hc.1) (by rw [r4]; exact hc.2) (fun c => by rw [vp_cell_i]; exact arrV_new _ _ _) (zk_d hX hd) (fun q r cA H1 _ _ hK1 hP1 hD1 hS1 => ?_)
  have e := qz_same hK1 3 rfl
  subst e
  rw [qz_mna] at hP1 hD1
  exact h q r H1 locs ls hP1 hD1 hS1 hL
/-- a field's words for a write in a constructor -/
def qz_FP (own : String) (idx ci j : Nat) (ty : FieldType) (fin : Bool) : Prop := ∃ (C : String) (U : u_T) (N : Nat) (tys : Nat → FieldType), qm_cls ci C U N ∧ j < N ∧ Cond.fieldLink own idx (U j).1 (U j).2.1 (U j).2.2.1 ∈ qm_tb ∧ (∀ k, k < N → parseFieldDescriptor (U k).2.2.1 = some (tys k)) ∧ (∀ a, a < N → ∀ b, b < N → a ≠ b → (U a).2.1 ≠ (U b).2.1) ∧ (U j).2.2.2 = fin ∧ (U j).1 = own ∧ parseFieldDescriptor (U j).2.2.1 = some ty ∧ N = qm_nf ci
theorem qz_put {ad : Nat → Nat} {E : Nat → va_E} {n : Nat} (hX : qz_ok X own cc nL f lo mc ms il) (k : Nat) {idx ci j q : Nat} {v : Value} {fs : List Value} {ty : FieldType} {fin : Bool} (a : Nat) (hd : qm_nth il k = some (pc, .putfield idx, 3, pc')) (hf : qz_FP own idx ci j ty fin) (hin : fin = true → (qx_meth X).name = "<init>") (ha : a < n) (hq : ad a = q) (hE : E a = .inr (ci, fs)) (hl : fs.length = qm_nf ci) (hv : narrow ty v = v ∧ fits ty v = true) (h : qz_J X pc' ρ st (ad, qz_u E a (.inr (ci, fs.set j v)), n) ce sl) : qz_J X pc ρ (v :: .ref q :: st) (ad, E, n) ce sl := by
  cases zk_n hX hd
  subst hq
  obtain ⟨C, U, N, tys, ⟨c1, c2⟩, c3, c4, c5, c6, c7, c8, c9, c10⟩ := hf
  intro H locs ls hP hD hS hL
  have he : (qz_L (ad, E, n))[a]? = some (ad a, .inr (ci, fs)) := by rw [qz_at (T := (ad, E, n)) ha]; show some (ad a, E a) = _; rw [hE]
  have hj : j < fs.length := by rw [hl, ← c10]; exact c3
  cases fin with
  | true =>
    refine va_putF (zk_ex hX) (zk_by hX) (zk_ts hX) c2 tys c5 c6 (zk_ow hX) (zk_K hX) hP hD hS a he c1 j c3 (zk_ts hX _ c4) (fun x h => h) c7 (hin rfl) c8 c9 hv.1 hv.2 hj (zk_d hX hd) (fun H1 locs1 hP1 hD1 hS1 => ?_)
    rw [qz_set ha] at hP1 hD1
    exact h H1 locs1 ls hP1 hD1 hS1 hL
  | false =>
    refine va_put (zk_ex hX) (zk_by hX) (zk_ts hX) c2 tys c5 c6 (zk_ow hX) (zk_K hX) hP hD hS a he c1 j c3 (zk_ts hX _ c4) (fun x h => h) c7 c9 hv.1 hv.2 hj (zk_d hX hd) (fun H1 locs1 hP1 hD1 hS1 => ?_)
    rw [qz_set ha] at hP1 hD1
    exact h H1 locs1 ls hP1 hD1 hS1 hL
theorem qz_get {ad : Nat → Nat} {E : Nat → va_E} {n : Nat} (hX : qz_ok X own cc nL f lo mc ms il) (k : Nat) {idx ci j q : Nat} {v : Value} {fs : List Value} (a : Nat) (hd : qm_nth il k = some (pc, .getfield idx, 3, pc')) (hf : qm_FL own idx ci j) (ha : a < n) (hq : ad a = q) (hE : E a = .inr (ci, fs)) (hv : fs[j]? = some v) (h : qz_J X pc' ρ (v :: st) (ad, E, n) ce sl) : qz_J X pc ρ (.ref q :: st) (ad, E, n) ce sl := by
  cases zk_n hX hd
  subst hq
  obtain ⟨C, U, N, ⟨c1, c2⟩, c3, c4⟩ := hf
  intro H locs ls hP hD hS hL
  have he : (qz_L (ad, E, n))[a]? = some (ad a, .inr (ci, fs)) := by rw [qz_at (T := (ad, E, n)) ha]; show some (ad a, E a) = _; rw [hE]
  exact va_get (zk_ex hX) (zk_by hX) (zk_ts hX) c2 (zk_ow hX) (zk_K hX) hP a he c1 j c3 (zk_ts hX _ c4) (fun x h => h) hv (zk_d hX hd) (h H locs ls hP hD hS hL)
theorem qz_iast {ad : Nat → Nat} {E : Nat → va_E} {n : Nat} (hX : qz_ok X own cc nL f lo mc ms il) (k : Nat) {q N : Nat} {g : Nat → Int32} {i x : Int32} (a : Nat) (hd : qm_nth il k = some (pc, .iastore, 1, pc')) (ha : a < n) (hq : ad a = q) (hE : E a = .inl ((qx_G X).2.2 1, N, .inl g)) (hi : vp_in i N) (h : qz_J X pc' ρ st (ad, qz_u E a (.inl ((qx_G X).2.2 1, N, .inl (upd g i.toNatClampNeg x))), n) ce sl) : qz_J X pc ρ (.int x :: .int i :: .ref q :: st) (ad, E, n) ce sl := by
  cases zk_n hX hd
  subst hq
  intro H locs ls hP hD hS hL
  have he : (qz_L (ad, E, n))[a]? = some (ad a, .inl ((qx_G X).2.2 1, N, .inl g)) := by rw [qz_at (T := (ad, E, n)) ha]; show some (ad a, E a) = _; rw [hE]
  refine va_iast (tys := qm_tys (qx_G X)) (zk_ex hX) (zk_by hX) (zk_K hX) hP hD hS a 0 he rfl hi (zk_d hX hd) (fun H1 locs1 hP1 hD1 hS1 => ?_)
  rw [qz_set ha] at hP1 hD1
  exact h H1 locs1 ls hP1 hD1 hS1 hL
theorem qz_iald {ad : Nat → Nat} {E : Nat → va_E} {n : Nat} (hX : qz_ok X own cc nL f lo mc ms il) (k : Nat) {q N : Nat} {g : Nat → Int32} {i : Int32} (a : Nat) (hd : qm_nth il k = some (pc, .iaload, 1, pc')) (ha : a < n) (hq : ad a = q) (hE : E a = .inl ((qx_G X).2.2 1, N, .inl g)) (hi : vp_in i N) (h : qz_J X pc' ρ (.int (g i.toNatClampNeg) :: st) (ad, E, n) ce sl) : qz_J X pc ρ (.int i :: .ref q :: st) (ad, E, n) ce sl := by
  cases zk_n hX hd
  subst hq
  intro H locs ls hP hD hS hL
  have he : (qz_L (ad, E, n))[a]? = some (ad a, .inl ((qx_G X).2.2 1, N, .inl g)) := by rw [qz_at (T := (ad, E, n)) ha]; show some (ad a, E a) = _; rw [hE]
  exact va_iald (tys := qm_tys (qx_G X)) (zk_ex hX) (zk_by hX) (zk_K hX) hP a 0 he rfl hi (zk_d hX hd) (h H locs ls hP hD hS hL)
theorem qz_alen {ad : Nat → Nat} {E : Nat → va_E} {n : Nat} (hX : qz_ok X own cc nL f lo mc ms il) (k : Nat) {q N : Nat} {g : Nat → Int32} (a : Nat) (v : Int32) (hd : qm_nth il k = some (pc, .arraylength, 1, pc')) (ha : a < n) (hq : ad a = q) (hE : E a = .inl ((qx_G X).2.2 1, N, .inl g)) (hv : Int32.ofNat N = v) (h : qz_J X pc' ρ (.int v :: st) (ad, E, n) ce sl) : qz_J X pc ρ (.ref q :: st) (ad, E, n) ce sl := by
  cases zk_n hX hd
  subst hq
  intro H locs ls hP hD hS hL
  have he : (qz_L (ad, E, n))[a]? = some (ad a, .inl ((qx_G X).2.2 1, N, .inl g)) := by rw [qz_at (T := (ad, E, n)) ha]; show some (ad a, E a) = _; rw [hE]
  exact va_alen (tys := qm_tys (qx_G X)) (zk_ex hX) (zk_by hX) (zk_K hX) hP a 0 he rfl hv (zk_d hX hd) (h H locs ls hP hD hS hL)
theorem qz_aast {ad : Nat → Nat} {E : Nat → va_E} {n : Nat} (hX : qz_ok X own cc nL f lo mc ms il) (k : Nat) {q v N : Nat} {g : Nat → Option Nat} {i : Int32} {vs : List Value} (a b : Nat) (hd : qm_nth il k = some (pc, .aastore, 1, pc')) (ha : a < n) (hq : ad a = q) (hE : E a = .inl ((qx_G X).2.2 5, N, .inr (.inr (.inr (.inr g))))) (hb : b < n) (hqb : ad b = v) (hEb : E b = .inr (4, vs)) (hi : vp_in i N) (h : qz_J X pc' ρ st (ad, qz_u E a (.inl ((qx_G X).2.2 5, N, .inr (.inr (.inr (.inr (va_up g i.toNatClampNeg (some v))))))), n) ce sl) : qz_J X pc ρ (.ref v :: .int i :: .ref q :: st) (ad, E, n) ce sl := by
  cases zk_n hX hd
  subst hq
  subst hqb
  intro H locs ls hP hD hS hL
  have he : (qz_L (ad, E, n))[a]? = some (ad a, .inl ((qx_G X).2.2 5, N, .inr (.inr (.inr (.inr g))))) := by rw [qz_at (T := (ad, E, n)) ha]; show some (ad a, E a) = _; rw [hE]
  have heb : (qz_L (ad, E, n))[b]? = some (ad b, .inr (4, vs)) := by rw [qz_at (T := (ad, E, n)) hb]; show some (ad b, E b) = _; rw [hEb]
  refine va_astq (tys := qm_tys (qx_G X)) (zk_ex hX) (zk_by hX) (zk_K hX) hP hD hS a 4 b 4 he rfl heb jc_4.1 hi (zk_d hX hd) (fun H1 locs1 hP1 hD1 hS1 => ?_)
  rw [qz_set ha] at hP1 hD1
  exact h H1 locs1 ls hP1 hD1 hS1 hL
theorem qz_sget (hX : qz_ok X own cc nL f lo mc ms il) (k : Nat) {idx : Nat} {n : String} (i : Nat) (hd : qm_nth il k = some (pc, .getstatic idx, 3, pc')) (hq : ("ColumnsLevelled", n, "[I", i) ∈ qm_sts) (hw : Cond.fieldLinkNest own idx "ColumnsLevelled" n "[I" "ColumnsLevelled" ∈ qm_nw) (h : qz_J X pc' ρ (.ref ((qx_G X).1 i) :: st) T ce sl) : qz_J X pc ρ st T ce sl := by
  cases zk_n hX hd
  intro H locs ls hP hD hS hL
  exact va_getsN (zk_ex hX) (zk_by hX) ((zk_Z hX).1 _ hq) hS (zk_ow hX) (va_Nw.use rfl (zk_nw hX _ hw)) (fun x h => h) (zk_d hX hd) (h H locs ls hP hD hS hL)
theorem qz_sti (hX : qz_ok X own cc nL f lo mc ms il) (k : Nat) {a : Nat} {i : Int32} (hd : qm_nth il k = some (pc, .iaload, 1, pc')) (ha : 405 ≤ a ∧ a < 408) (hi : vp_in i 8) (h : qz_J X pc' ρ (.int (qm_sv a i.toNatClampNeg) :: st) T ce sl) : qz_J X pc ρ (.int i :: .ref ((qx_G X).1 a) :: st) T ce sl := by
  cases zk_n hX hd
  intro H locs ls hP hD hS hL
  exact va_ti (zk_ex hX) (zk_by hX) ((zk_Z hX).2.2.2.2.2 a ha.1 ha.2) hS hi rfl (zk_d hX hd) (h H locs ls hP hD hS hL)
theorem qz_mmax (hX : qz_ok X own cc nL f lo mc ms il) (k : Nat) {idx : Nat} {x y : Int32} (v : Int32) (hd : qm_nth il k = some (pc, .invokestatic idx, 3, pc')) (hc : qm_CS own idx jy_Math_max prog_18_method_65_code 2 (some .int) 2) (hr : 1 ≤ f ∧ 21 ≤ lo) (hce : ce ≤ mc ∧ sl ≤ ms) (h8 : (st.map fun v => v.category).sum ≤ 8) (hv : (if x < y then y else x) = v) (h : qz_J X pc' ρ (.int v :: st) T ce sl) : qz_J X pc ρ (.int y :: .int x :: st) T ce sl := by
  cases zk_n hX hd
  subst hv
  obtain ⟨h1, h2, h4, h5, h6⟩ := hc
  have ht := zk_ts hX
  obtain ⟨r1, r2, r3, r4⟩ := zk_R hX
  intro H locs ls hP hD hS hL
  exact va_mmax (zk_ex hX) (zk_by hX) hL.1.symm (zk_ow hX) (ht _ h1) (ht _ h2) (ht _ h4) (ht _ h5) (by rw [r1]; exact hr.1) (by rw [r2]; omega) (by rw [r3]; exact hce.1) (by rw [r4]; exact hce.2) (zk_d hX hd) (h H locs ls hP hD hS hL)
/-- before and behind a call -/
theorem zk_D {H : Heap} (hD : va_D (qx_A X) (qz_L T)) : va_D (qz_A T H.size) (qz_L T) := ⟨hD.1, fun k q hk => by
  have hk2 : k < T.2.2 := by
    have := (List.getElem?_eq_some_iff.mp hk).1
    rw [qz_len] at this
    exact this
  rw [qz_at hk2] at hk
  cases hk
  exact Or.inl ⟨k, hk2, rfl⟩⟩
theorem zk_sub (hX : qz_ok X own cc nL f lo mc ms il) {H : Heap} (hD : va_D (qx_A X) (qz_L T)) (hz : (qx_s X).heap.size ≤ H.size) : ∀ q, qz_A T H.size q → qx_A X q := by
  intro q hq
  rcases hq with ⟨i, hi, e⟩ | hq
  · subst e
    exact hD.2 i _ (qz_at hi)
  · exact zk_A hX q (Nat.le_trans hz hq)
theorem zk_pre (hX : qz_ok X own cc nL f lo mc ms il) {H : Heap} {locs : List Loc} (hP : va_P (qx_G X).2.1 qm_cl (qz_L T) H) (hD : va_D (qx_A X) (qz_L T)) (hS : va_S (qx_A X) (qx_s X).heap H locs) (av : List Value) : ∀ U : State, U.heap = H → (qx_s X).WarmedH U.vm → qz_Pc (qx_G X) T av H.size av.toArray U := by
  intro U hU hW
  have hs := zk_sub hX hD hS.1
  refine ⟨rfl, by rw [hU], by rw [hU]; exact hP, zk_D hD, ⟨va_K.moved hW.alike (zk_K hX), fun w hw => ?_⟩, ⟨fun q hq => ?_, ?_, fun r hr => ?_, ?_, ?_, fun i h1 h2 => ?_⟩, qz_O.moved hW.alike (zk_O hX)⟩
  · have h := zk_nw hX w hw
    unfold qm_nw at hw
    simp only [List.mem_cons, List.not_mem_nil, or_false] at hw
    rcases hw with rfl | rfl | rfl | rfl | rfl | rfl | rfl | rfl | rfl | rfl | rfl | rfl | rfl | rfl | rfl | rfl | rfl | rfl | rfl | rfl | rfl | rfl | rfl | rfl | rfl | rfl | rfl | rfl
    · exact va_Nw.warmF hW h
    · exact va_Nw.warmF hW h
    · exact va_Nw.warmF hW h
    · exact va_Nw.warmF hW h
    · exact va_Nw.warmF hW h
    · exact va_Nw.warmF hW h
    · exact va_Nw.warmF hW h
    · exact va_Nw.warmF hW h
    · exact va_Nw.warmF hW h
    · exact va_Nw.warmF hW h
    · exact va_Nw.warmF hW h
    · exact va_Nw.warmF hW h
    · exact va_Nw.warmF hW h
    · exact va_Nw.warmF hW h
    · exact va_Nw.warmF hW h
    · exact va_Nw.warmF hW h
    · exact va_Nw.warmF hW h
    · exact va_Nw.warmF hW h
    · exact va_Nw.warmF hW h
    · exact va_Nw.warmF hW h
    · exact va_Nw.warmF hW h
    · exact va_Nw.warmF hW h
    · exact va_Nw.warmF hW h
    · exact va_Nw.warmM hW h
    · exact va_Nw.warmM hW h
    · exact va_Nw.warmM hW h
    · exact va_Nw.warmM hW h
    · exact va_Nw.warmM hW h
  · rw [hU]
    exact ((((zk_Z hX).1 q hq).kept (H1 := H) hS.2.1).narrow hs).moved hW.alike
  · rw [hU]
    exact (((zk_Z hX).2.1.kept (H1 := H) hS.2.1).narrow hs).moved hW.alike
  · exact vk_R.warm hW ((zk_Z hX).2.2.1 r hr)
  · rw [hU]
    exact (((zk_Z hX).2.2.2.1.kept (H1 := H) hS.2.1).narrow hs).moved hW.alike
  · rw [hU]
    exact (((zk_Z hX).2.2.2.2.1.kept (H1 := H) hS.2.1).narrow hs).moved hW.alike
  · rw [hU]
    exact ((((zk_Z hX).2.2.2.2.2 i h1 h2).kept (H1 := H) hS.2.1).narrow hs).moved hW.alike
theorem zk_all (hX : qz_ok X own cc nL f lo mc ms il) : (qx_p X).tables.exec = Jvm.exec ∧ (qx_c X).code = cc ∧ (qx_c X).maxLocals = nL ∧ (qx_s X).vm.findClass own = some (qx_m X).cls ∧ ∀ w ∈ qm_tb, w.before (qx_args X) (qx_s X) = true := hX.1
/-- a constructor's words for a call -/
def qz_CI (own : String) (idx : Nat) (y : MethodName) (b : ByteArray) (nL n : Nat) : Prop :=
  Cond.methodLink own idx y ∈ qm_tb ∧ Cond.instanceMethod y ∈ qm_tb ∧ Cond.initialized y.cls ∈ qm_tb ∧ Cond.code y b nL none ∈ qm_tb ∧ y.name = "<init>" ∧
  (y.cls ≠ "java/lang/invoke/MethodHandle" ∧ y.cls ≠ "java/lang/invoke/VarHandle" ∧ (parseMethodDescriptor y.desc).map (fun d => d.parameters.length) = some n)
theorem qz_callI (hX : qz_ok X own cc nL f lo mc ms il) (k : Nat) {idx nL' n f' lo' mc' ms' q : Nat} {y : MethodName} {b : ByteArray} {As st0 : List Value} {post : qz_T → Prop} (hd : qm_nth il k = some (pc, .invokespecial idx, 3, pc')) (hc : qz_CI own idx y b nL' n) (hM : qz_MV (qx_l X) (qx_G X) y b nL' f' lo' mc' ms' T (.ref q :: As) post) (hr : As.length = n ∧ f' + 1 ≤ f ∧ 8 + (nL' + 11) + lo' ≤ lo) (hb : ce + mc' ≤ mc ∧ sl + ms' ≤ ms) (hst : st0 = As.reverse ++ .ref q :: st) (h8 : (st.map fun v => v.category).sum ≤ 8) (h : ∀ T', post T' → qz_J X pc' ρ st T' (ce + mc') (sl + ms')) : qz_J X pc ρ st0 T ce sl := by
  cases zk_n hX hd
  obtain ⟨c1, c2, c3, c4, c5, c6⟩ := hc
  have ht := zk_ts hX
  obtain ⟨r1, r2, r3, r4⟩ := zk_R hX
  intro H locs ls hP hD hS hL
  have hs := zk_sub hX hD hS.1
  exact va_callv (va_runI (As := As) (rest := st) (zk_all hX) (hM H.size) (cwI n ht (qm_goodIn c4) rfl rfl rfl (ht _ c3) (ht _ c1) (ht _ c2) c5 c6 ⟨by rw [r1]; exact hr.2.1, by rw [r2]; exact hr.2.2⟩) ⟨qz_Pc_blind, zk_pre hX hP hD hS (.ref q :: As)⟩ rfl hr.1 (hL.1.trans (zk_ml hX)) hst (lv_room h8) (zk_d hX hd) ⟨by rw [r3]; exact hb.1, by rw [r4]; exact hb.2⟩) hS (fun q _ hq => hs q hq) hs (fun T' t H1 locs1 ht1 hvm hp hB hz hk hS1 => by
    subst ht1
    exact h T' hp t.heap locs1 ls hB.1 ⟨hB.2.1, fun k q hq => hs _ (hB.2.2 k q hq)⟩ hS1 hL)
theorem qz_callV {ad : Nat → Nat} {E : Nat → va_E} {w : Nat} (hX : qz_ok X own cc nL f lo mc ms il) (k : Nat) {idx nL' n f' lo' ci q : Nat} {y : MethodName} {b : ByteArray} {As st0 : List Value} {post : qz_T → Prop} {r : vw_C} {fs : List Value} (a : Nat) (hd : qm_nth il k = some (pc, .invokevirtual idx, 3, pc')) (hc : qm_CV own idx y b nL' none n) (hM : qz_MV (qx_l X) (qx_G X) y b nL' f' lo' 0 0 (ad, E, w) (.ref q :: As) post) (ha : a < w) (hq : ad a = q) (hE : E a = .inr (ci, fs)) (hr : qm_cl[ci]? = some r ∧ r.1 = y.cls ∧ As.length = n ∧ f' + 1 ≤ f ∧ 8 + (nL' + 11) + lo' ≤ lo) (hb : ce ≤ mc ∧ sl ≤ ms) (hst : st0 = As.reverse ++ .ref q :: st) (h8 : (st.map fun v => v.category).sum ≤ 8) (h : ∀ T', post T' → qz_J X pc' ρ st T' ce sl) : qz_J X pc ρ st0 (ad, E, w) ce sl := by
  cases zk_n hX hd
  subst hq
  obtain ⟨h1, h2, h3, h4, h5, h6⟩ := hc
  have ht := zk_ts hX
  obtain ⟨r1, r2, r3, r4⟩ := zk_R hX
  intro H locs ls hP hD hS hL
  have hs := zk_sub hX hD hS.1
  have he : (qz_L (ad, E, w))[a]? = some (ad a, .inr (ci, fs)) := by rw [qz_at (T := (ad, E, w)) ha]; show some (ad a, E a) = _; rw [hE]
  have hrec := va_recv (zk_K hX) hP hr.1 he
  rw [hr.2.1] at hrec
  exact va_callv (va_runV (As := As) (rest := st) (zk_all hX) (hM H.size) ⟨callB_of n ht (qm_goodIn h5) rfl rfl rfl (ht _ h4) (ht _ h1) h6 ⟨by rw [r1]; exact hr.2.2.2.1, by rw [r2]; exact hr.2.2.2.2⟩, ht _ h2, ht _ h3⟩ ⟨qz_Pc_blind, hrec, zk_pre hX hP hD hS (.ref (ad a) :: As)⟩ rfl hr.2.2.1 (hL.1.trans (zk_ml hX)) hst (lv_room h8) (zk_d hX hd) ⟨by rw [r3]; exact hb.1, by rw [r4]; exact hb.2⟩) hS (fun q _ hq => hs q hq) hs (fun T' t H1 locs1 ht1 hvm hp hB hz hk hS1 => by
    subst ht1
    exact h T' hp t.heap locs1 ls hB.1 ⟨hB.2.1, fun k q hq => hs _ (hB.2.2 k q hq)⟩ hS1 hL)
theorem qz_callS {ad : Nat → Nat} {E : Nat → va_E} {w : Nat} (hX : qz_ok X own cc nL f lo mc ms il) (k : Nat) {idx nL' n f' lo' ci q : Nat} {y : MethodName} {b : ByteArray} {ret : Option FieldType} {As st0 : List Value} {v : Int32} {r : vw_C} {fs : List Value} (a : Nat) (hd : qm_nth il k = some (pc, .invokevirtual idx, 3, pc')) (hc : qm_CV own idx y b nL' ret n) (hM : qz_MI (qx_l X) (qx_G X) y b nL' ret f' lo' (ad, E, w) (.ref q :: As) v) (ha : a < w) (hq : ad a = q) (hE : E a = .inr (ci, fs)) (hr : qm_cl[ci]? = some r ∧ r.1 = y.cls ∧ As.length = n ∧ f' + 1 ≤ f ∧ 8 + (nL' + 11) + lo' ≤ lo) (hb : ce ≤ mc ∧ sl ≤ ms) (hst : st0 = As.reverse ++ .ref q :: st) (h8 : (st.map fun v => v.category).sum ≤ 8) (h : qz_J X pc' ρ (.int v :: st) (ad, E, w) ce sl) : qz_J X pc ρ st0 (ad, E, w) ce sl := by
  cases zk_n hX hd
  subst hq
  obtain ⟨h1, h2, h3, h4, h5, h6⟩ := hc
  have ht := zk_ts hX
  obtain ⟨r1, r2, r3, r4⟩ := zk_R hX
  intro H locs ls hP hD hS hL
  have hs := zk_sub hX hD hS.1
  have he : (qz_L (ad, E, w))[a]? = some (ad a, .inr (ci, fs)) := by rw [qz_at (T := (ad, E, w)) ha]; show some (ad a, E a) = _; rw [hE]
  have hrec := va_recv (zk_K hX) hP hr.1 he
  rw [hr.2.1] at hrec
  exact va_calli (va_runV (As := As) (rest := st) (zk_all hX) (hM H.size) ⟨callB_of n ht (qm_goodIn h5) rfl rfl rfl (ht _ h4) (ht _ h1) h6 ⟨by rw [r1]; exact hr.2.2.2.1, by rw [r2]; exact hr.2.2.2.2⟩, ht _ h2, ht _ h3⟩ ⟨qz_Pc_blind, hrec, zk_pre hX hP hD hS (.ref (ad a) :: As)⟩ rfl hr.2.2.1 (hL.1.trans (zk_ml hX)) hst (lv_room h8) (zk_d hX hd) ⟨by rw [r3]; exact hb.1, by rw [r4]; exact hb.2⟩) hS (fun q _ hq => hs q hq) hs (fun r' T' t H1 locs1 ht1 hvm hp hB hz hk hS1 => by
    obtain ⟨e1, e2⟩ := hp
    subst e1
    subst e2
    subst ht1
    exact h t.heap locs1 ls hB.1 ⟨hB.2.1, fun k q hq => hs _ (hB.2.2 k q hq)⟩ hS1 hL)
theorem qz_calSV (hX : qz_ok X own cc nL f lo mc ms il) (k : Nat) {idx nL' n f' lo' : Nat} {y : MethodName} {b : ByteArray} {As st0 : List Value} {post : qz_T → Prop} (hd : qm_nth il k = some (pc, .invokestatic idx, 3, pc')) (hc : qm_CS own idx y b nL' none n) (hM : qz_MV (qx_l X) (qx_G X) y b nL' f' lo' 0 0 T As post) (hr : As.length = n ∧ f' + 1 ≤ f ∧ 8 + (nL' + 11) + lo' ≤ lo) (hb : ce ≤ mc ∧ sl ≤ ms) (hst : st0 = As.reverse ++ st) (h8 : (st.map fun v => v.category).sum ≤ 8) (h : ∀ T', post T' → qz_J X pc' ρ st T' ce sl) : qz_J X pc ρ st0 T ce sl := by
  cases zk_n hX hd
  obtain ⟨h1, h2, h4, h5, h6⟩ := hc
  have ht := zk_ts hX
  obtain ⟨r1, r2, r3, r4⟩ := zk_R hX
  intro H locs ls hP hD hS hL
  have hs := zk_sub hX hD hS.1
  exact va_callv (va_runS (As := As) (rest := st) (zk_all hX) (hM H.size) ⟨callB_of n ht (qm_goodIn h5) rfl rfl rfl (ht _ h4) (ht _ h1) h6 ⟨by rw [r1]; exact hr.2.1, by rw [r2]; exact hr.2.2⟩, ht _ h2⟩ ⟨qz_Pc_blind, zk_pre hX hP hD hS As⟩ rfl hr.1 (hL.1.trans (zk_ml hX)) hst (lv_room h8) (zk_d hX hd) ⟨by rw [r3]; exact hb.1, by rw [r4]; exact hb.2⟩) hS (fun q _ hq => hs q hq) hs (fun T' t H1 locs1 ht1 hvm hp hB hz hk hS1 => by
    subst ht1
    exact h T' hp t.heap locs1 ls hB.1 ⟨hB.2.1, fun k q hq => hs _ (hB.2.2 k q hq)⟩ hS1 hL)
/-- another picture of the same cells -/
theorem qz_cv {ad : Nat → Nat} {E E' : Nat → va_E} {n : Nat} (he : ∀ i, i < n → ∀ H : Heap, va_at (qx_G X).2.1 qm_cl (ad i, E i) H → va_at (qx_G X).2.1 qm_cl (ad i, E' i) H) (h : qz_J X pc ρ st (ad, E', n) ce sl) : qz_J X pc ρ st (ad, E, n) ce sl := by
  intro H locs ls hP hD hS hL
  have key : ∀ (F : Nat → va_E) (k : Nat) (q : Nat × va_E), (qz_L (ad, F, n))[k]? = some q → k < n ∧ q = (ad k, F k) := by
    intro F k q hk
    have hk2 : k < n := by
      have := (List.getElem?_eq_some_iff.mp hk).1
      rw [qz_len] at this
      exact this
    rw [qz_at (T := (ad, F, n)) hk2] at hk
    exact ⟨hk2, (Option.some.inj hk).symm⟩
  refine h H locs ls (fun k q hk => ?_) ⟨fun i j p q hp hq e => ?_, fun k q hk => ?_⟩ hS hL
  · obtain ⟨h1, h2⟩ := key E' k q hk
    rw [h2]
    exact he k h1 H (hP k _ (qz_at (T := (ad, E, n)) h1))
  · obtain ⟨h1, h2⟩ := key E' i p hp
    obtain ⟨h3, h4⟩ := key E' j q hq
    rw [h2, h4] at e
    exact hD.1 i j _ _ (qz_at (T := (ad, E, n)) h1) (qz_at (T := (ad, E, n)) h3) e
  · obtain ⟨h1, h2⟩ := key E' k q hk
    rw [h2]
    exact (hD.2 k (ad k, E k) (qz_at (T := (ad, E, n)) h1) : qx_A X (ad k))
def qz_RV (X : qm_X) (T : qz_T) (mc ms : Nat) (post : qz_T → Prop) : Prop :=
  qx_Q X = MQ (qx_below X) (va_Qv post (qz_W (qx_G X) T (qx_s X).heap.size) (qz_A T (qx_s X).heap.size)) (qx_args X) (qx_s X) mc ms (qz_A T (qx_s X).heap.size) ∧ (qx_meth X).sig.returnType = none ∧ qx_A X = qz_A T (qx_s X).heap.size
def qz_RI (X : qm_X) (T : qz_T) (v : Int32) (ty : FieldType) : Prop :=
  qx_Q X = MQ (qx_below X) (va_Qi (fun r T' => r = v ∧ T' = T) (qz_W (qx_G X) T (qx_s X).heap.size) (qz_A T (qx_s X).heap.size)) (qx_args X) (qx_s X) 0 0 (qz_A T (qx_s X).heap.size) ∧ (qx_meth X).sig.returnType = some ty ∧ qx_A X = qz_A T (qx_s X).heap.size
theorem qz_ret {T0 : qz_T} {post : qz_T → Prop} (hX : qz_ok X own cc nL f lo mc ms il) (k : Nat) (hd : qm_nth il k = some (pc, .return_, 1, pc')) (hR : qz_RV X T0 mc ms post) (hc : ce ≤ mc ∧ sl ≤ ms) (hp : post T) : qz_J X pc ρ [] T ce sl := by
  intro H locs ls hP hD hS hL
  obtain ⟨hQ, hr, hA⟩ := hR
  refine W.widen hc.1 hc.2 ?_
  rw [hQ]
  rw [hA] at hS hD
  exact W.vret (zk_ex hX) (zk_by hX) hr (fun t ht hW => ⟨⟨T, rfl, hp, by show va_P _ _ _ t.heap; rw [ht]; exact hP, hD⟩, hS.F ht⟩) hS.2.2 (zk_d hX hd) hX.2.2.1
theorem qz_iret {T0 : qz_T} {v : Int32} {ty : FieldType} (hX : qz_ok X own cc nL f lo 0 0 il) (k : Nat) (hd : qm_nth il k = some (pc, .ireturn, 1, pc')) (hR : qz_RI X T0 v ty) (hn : narrow ty (.int v) = .int v) : qz_J X pc ρ [.int v] T0 0 0 := by
  intro H locs ls hP hD hS hL
  obtain ⟨hQ, hr, hA⟩ := hR
  rw [hQ]
  rw [hA] at hS hD
  exact W.zret (zk_ex hX) (zk_by hX) hr hn (fun t ht hW => ⟨⟨v, T0, rfl, ⟨rfl, rfl⟩, by show va_P _ _ _ t.heap; rw [ht]; exact hP, hD⟩, hS.F ht⟩) hS.2.2 (zk_d hX hd) hX.2.2.1
end
theorem qz_met {l : Launch} {G : qm_G} {y : MethodName} {b : ByteArray} {nL f lo mc ms : Nat} {T : qz_T} {av : List Value} {post : qz_T → Prop} {il : List qm_I} (hy : plainName y.cls = true) (hil : qm_D b il) (hc : ∀ v ∈ av, v.category = 1) (hn : av.length ≤ nL)
    (body : ∀ X, qx_l X = l → qx_G X = G → (qx_meth X).name = y.name → qz_ok X y.cls b nL f lo mc ms il → qz_RV X T mc ms post → qz_J X 0 (av.map some ++ List.replicate (nL - av.length) none) [] T 0 0) : qz_MV l G y b nL f lo mc ms T av post := by
  intro sz
  refine Met.ofW (cc := b) (maxL := nL) (ret := none) hy rfl ?_
  intro p e s mi args below meth c s₁ B hml hv
  obtain ⟨rfl, hsz, hP, hD, hK, hZ, hO⟩ := hv
  subst hsz
  have hts := atoms_spec (ws := qm_w y b nL none) B.pre
  have hok : qz_ok (p, l, e, qz_rm f lo mc ms, s, mi, av.toArray, below, meth, c, G, qz_A T s.heap.size, 0, 0, MQ below (va_Qv post (qz_W G T s.heap.size) (qz_A T s.heap.size)) av.toArray s mc ms (qz_A T s.heap.size)) y.cls b nL f lo mc ms il :=
    ⟨⟨B.exec, B.bytes, hml, findClass_of_methodNamed B.named, fun w hw => hts w (List.mem_cons_of_mem _ hw)⟩, hil, B.notSynchronized, hK, hZ, fun q hq => Or.inr hq, rfl, rfl, ⟨rfl, rfl⟩, hO⟩
  have hb := body _ rfl rfl (name_of_methodNamed B.named B.method).1 hok ⟨rfl, B.returns, rfl⟩
  rw [lg_entry_eq]
  exact hb s.heap [] _ hP hD va_S.rf (by show qm_L _ c.maxLocals _; rw [hml]; exact qm_entry av nL hc hn)
theorem qz_metI {l : Launch} {G : qm_G} {y : MethodName} {b : ByteArray} {nL f lo : Nat} {ret : Option FieldType} {ty : FieldType} {T : qz_T} {av : List Value} {v : Int32} {il : List qm_I} (hy : plainName y.cls = true) (hil : qm_D b il) (hc : ∀ v ∈ av, v.category = 1) (hn : av.length ≤ nL) (hret : ret = some ty)
    (body : ∀ X, qx_l X = l → qx_G X = G → qz_ok X y.cls b nL f lo 0 0 il → qz_RI X T v ty → qz_J X 0 (av.map some ++ List.replicate (nL - av.length) none) [] T 0 0) : qz_MI l G y b nL ret f lo T av v := by
  intro sz
  refine Met.ofW (cc := b) (maxL := nL) (ret := ret) hy rfl ?_
  intro p e s mi args below meth c s₁ B hml hv
  obtain ⟨rfl, hsz, hP, hD, hK, hZ, hO⟩ := hv
  subst hsz
  have hts := atoms_spec (ws := qm_w y b nL ret) B.pre
  have hok : qz_ok (p, l, e, qz_rm f lo 0 0, s, mi, av.toArray, below, meth, c, G, qz_A T s.heap.size, 0, 0, MQ below (va_Qi (fun r T' => r = v ∧ T' = T) (qz_W G T s.heap.size) (qz_A T s.heap.size)) av.toArray s 0 0 (qz_A T s.heap.size)) y.cls b nL f lo 0 0 il :=
    ⟨⟨B.exec, B.bytes, hml, findClass_of_methodNamed B.named, fun w hw => hts w (List.mem_cons_of_mem _ hw)⟩, hil, B.notSynchronized, hK, hZ, fun q hq => Or.inr hq, rfl, rfl, ⟨rfl, rfl⟩, hO⟩
  have hb := body _ rfl rfl hok ⟨rfl, B.returns.trans hret, rfl⟩
  rw [lg_entry_eq]
  exact hb s.heap [] _ hP hD va_S.rf (by show qm_L _ c.maxLocals _; rw [hml]; exact qm_entry av nL hc hn)
