section
/-! ===== BEGIN new T[n][m]: the outer array a place, the inner ones among the pooled ===== -/
/-- f, but v at every address of l -/
def vr_up {α : Type} (f : Nat → α) (l : List Nat) (v : α) : Nat → α := fun a => if a ∈ l then v else f a
theorem vr_up_in {α : Type} {f : Nat → α} {l : List Nat} {v : α} {a : Nat} (h : a ∈ l) : vr_up f l v a = v := if_pos h
theorem vr_up_ne {α : Type} {f : Nat → α} {l : List Nat} {v : α} {a : Nat} (h : a ∉ l) : vr_up f l v a = f a := if_neg h
theorem vr_rows {L l : List Nat} {f : Nat → va_E} {e : va_E} (h : ∀ a, a ∈ l → a ∉ L) : va_pl L f ++ l.map (fun a => (a, e)) = va_pl (L ++ l) (vr_up f l e) := by
  unfold va_pl
  rw [List.map_append]
  congr 1
  · apply List.map_congr_left
    intro a ha
    rw [vr_up_ne (fun q => h a q ha)]
  · apply List.map_congr_left
    intro a ha
    rw [vr_up_in ha]
theorem vr_lay {X rows : va_W} {x : Nat × va_E} {pl : va_W} {D : va_G} {cl : List vw_C} {H : Heap} (hP : va_P D cl (((X ++ pl) ++ [x]) ++ rows) H) : va_P D cl ((X ++ [x]) ++ (pl ++ rows)) H := by
  rw [List.append_assoc (X ++ pl)] at hP
  have h := va_P.swap hP
  rw [← List.append_assoc X] at h
  have h2 := va_P.swap h
  rw [List.append_assoc (X ++ [x])] at h2
  exact h2
theorem vr_layD {X rows : va_W} {x : Nat × va_E} {pl : va_W} {A : Nat → Prop} (hD : va_D A (((X ++ pl) ++ [x]) ++ rows)) : va_D A ((X ++ [x]) ++ (pl ++ rows)) := by
  rw [List.append_assoc (X ++ pl)] at hD
  have h := va_D.swap hD
  rw [← List.append_assoc X] at h
  have h2 := va_D.swap h
  rw [List.append_assoc (X ++ [x])] at h2
  exact h2
theorem vr_outer (c : ClassId) (N h0 : Nat) : ∀ i : Nat, Jvm.Free.Multi.outerC c N h0 i = arrV c N (fun j => va_rf (if j < i then some (h0 + 1 + j) else none))
  | 0 => by
    show ({ cls := c, slots := Array.replicate N .null, vm := .none } : Cell) = _
    rw [arrV_new]
    refine congrArg (arrV c N) (funext fun j => ?_)
    simp [va_rf]
  | i + 1 => by
    show (Jvm.Free.Multi.outerC c N h0 i).setSlot i (.ref (h0 + 1 + i)) = _
    rw [vr_outer c N h0 i, arrV_store]
    refine congrArg (arrV c N) (funext fun j => ?_)
    by_cases e : j = i
    · subst e
      simp [updV, va_rf]
    · by_cases h : j < i
      · simp [updV, e, h, Nat.lt_succ_of_lt h]
      · simp [updV, e, h, show ¬ j < i + 1 by omega]
section VGM
variable {p : Program} {l : Launch} {e : Env} {R : Room} {s : State} {m : MethodId} {args : Array Value} {below : List Frame} {meth : Method} {c : Code} {H : Heap} {locs : List Loc} {cells slots : Nat} {Q : State → Prop}
variable {cc : ByteArray} {pc : Nat} {ls : Array Slot} {rest : List Value} {D : va_G} {cl : List vw_C} {A : Nat → Prop} {a : Nat} {tys : List (ClassId × FieldType)} {ws : va_W} {H0 : Heap}
theorem va_mna {X : va_W} {L : List Nat} {f : Nat → va_E} {cc : ByteArray} (hexec : p.tables.exec = Jvm.exec) (hb : c.code = cc) {own : String} {index : Nat} {ty : FieldType} {cy : ClassId} (hown : s.vm.findClass own = some m.cls) (hclink : (Cond.classLink own index ("[" ++ (FieldType.array ty).toString)).before args s = true) (hover : (Cond.arrayOver (.array ty)).before args s = true) (harr : (Cond.arrayClass ty).before args s = true) (hcy : s.vm.findClass (FieldType.array ty).toString = some cy)
    (hK : va_K D cl tys s) (hP : va_P D cl (X ++ va_pl L f) H) (hD : va_D A (X ++ va_pl L f)) (hS : va_S A H0 H locs) (hA : ∀ q, H0.size ≤ q → A q) {n k : Int32} {N' K' : Nat} {z : vp_A} (hn : ¬ n < 0) (hk : ¬ k < 0) (hN : n.toNatClampNeg = N') (hM : k.toNatClampNeg = K')
    (hb1 : N' * 4 ≤ 536870912) (hb2 : K' * componentBytes ty ≤ 536870912) (hb3 : K' ≤ 536870912) (hdf : fits ty (defaultValue ty) = true) (hdd : (defaultValue ty).isDefault = true) (hcells : cells + (1 + N') ≤ R.cells) (hslots : slots + (N' + N' * K') ≤ R.slots) (hz : ∀ c : ClassId, Jvm.Free.Multi.innerC c K' (defaultValue ty) = vp_cell c z) (hdg : decode cc pc = .ok (.multianewarray index 2, 4))
    (kk : ∀ (q : Nat) (r : Nat → Nat) (cA : ClassId) (H1 : Heap), (∀ i j : Nat, i < N' → j < N' → r i = r j → i = j) → (∀ i : Nat, i < N' → r i ∉ L) → va_K D cl (tys ++ [(cA, .array ty)]) s →
      va_P D cl ((X ++ [(q, .inl (cA, N', .inr (.inr (.inr (.inr (fun i => if i < N' then some (r i) else none))))))]) ++ va_pl (L ++ (List.range N').map r) (vr_up f ((List.range N').map r) (.inl (cy, z)))) H1 → va_D A ((X ++ [(q, .inl (cA, N', .inr (.inr (.inr (.inr (fun i => if i < N' then some (r i) else none))))))]) ++ va_pl (L ++ (List.range N').map r) (vr_up f ((List.range N').map r) (.inl (cy, z)))) → va_S A H0 H1 locs →
      W p l e R s m args below meth c H1 locs (cells + 1 + N') (slots + N' + N' * K') Q (F0 m (pc + 4) ls (.ref q :: rest))) : W p l e R s m args below meth c H locs cells slots Q (F0 m pc ls (.int k :: .int n :: rest)) := by
  subst hN
  subst hM
  intro T hT Xs
  obtain ⟨vm₁, cA, comp, -, fA, fC, hO, -, X', step⟩ := Xs.multianewarray2F hexec hown hclink hover harr (g := F0 m pc ls (.int k :: .int n :: rest)) rfl (by rw [hb]; exact hdg) rfl hn hk hb1 hb2 hb3 hdf hdd hcells hslots
  have ec : some cy = some comp := hcy.symm.trans fC
  cases ec
  generalize hF : Jvm.Free.Multi.fill (T.setVm vm₁) cA cy n.toNatClampNeg k.toNatClampNeg (defaultValue ty) n.toNatClampNeg = F at X' step
  have hTh : (T.setVm vm₁).heap = H := hT
  obtain ⟨f1, f2, -, -⟩ := Jvm.Free.Multi.fill_facts (T.setVm vm₁) cA cy n.toNatClampNeg k.toNatClampNeg (defaultValue ty) n.toNatClampNeg
  rw [hF, hTh] at f1 f2
  have hold : ∀ x : Nat, x < H.size → F.heap[x]? = H[x]? := fun x hx => by
    have := Jvm.Free.Multi.fill_old (T.setVm vm₁) cA cy n.toNatClampNeg k.toNatClampNeg (defaultValue ty) (a := x) (by rw [hTh]; exact hx) n.toNatClampNeg
    rw [hF, hTh] at this
    exact this
  have hrow : ∀ j : Nat, j < n.toNatClampNeg → F.heap[H.size + 1 + j]? = some (vp_cell cy z) := fun j hj => by
    have := Jvm.Free.Multi.fill_inner (T.setVm vm₁) cA cy n.toNatClampNeg k.toNatClampNeg (defaultValue ty) n.toNatClampNeg j hj
    rw [hF, hTh, hz] at this
    exact this
  have hout : Jvm.Free.Multi.outerC cA n.toNatClampNeg H.size n.toNatClampNeg = vp_cell cA (n.toNatClampNeg, .inr (.inr (.inr (.inr (fun i => if i < n.toNatClampNeg then some (H.size + 1 + i) else none))))) := by
    rw [vp_cell_q]
    exact vr_outer cA n.toNatClampNeg H.size n.toNatClampNeg
  rw [hout] at f2
  have hlt : ∀ a, a ∈ L → a < H.size := fun a ha => by
    obtain ⟨k9, hk9⟩ := va_pl_get (X := X) (f := f) ha
    exact (hP k9 _ hk9).lt
  have hnl : ∀ i : Nat, i < n.toNatClampNeg → H.size + 1 + i ∉ L := fun i _ h => by
    have := hlt _ h
    omega
  have hnm : ∀ a, a ∈ (List.range n.toNatClampNeg).map (fun i => H.size + 1 + i) → a ∉ L := fun a ha h => by
    obtain ⟨i, -, rfl⟩ := List.mem_map.mp ha
    have := hlt _ h
    omega
  have hP0 : va_P D cl (X ++ va_pl L f) F.heap := hP.kept (fun k9 x hx => hold x.1 ((hP k9 x hx).lt))
  have hP1 : va_P D cl ((X ++ va_pl L f) ++ [(H.size, .inl (cA, n.toNatClampNeg, .inr (.inr (.inr (.inr (fun i => if i < n.toNatClampNeg then some (H.size + 1 + i) else none))))))]) F.heap := hP0.app (fun k9 x hx => by
    have h0 : k9 < 1 := (List.getElem?_eq_some_iff.mp hx).1
    rw [show k9 = 0 by omega] at hx
    cases hx
    exact f2)
  have hP2 : va_P D cl (((X ++ va_pl L f) ++ [(H.size, .inl (cA, n.toNatClampNeg, .inr (.inr (.inr (.inr (fun i => if i < n.toNatClampNeg then some (H.size + 1 + i) else none))))))]) ++ ((List.range n.toNatClampNeg).map (fun i => H.size + 1 + i)).map (fun a => (a, .inl (cy, z)))) F.heap := hP1.app (fun k9 x hx => by
    obtain ⟨a, ha, rfl⟩ := List.mem_map.mp (List.mem_of_getElem? hx)
    obtain ⟨i, hi, rfl⟩ := List.mem_map.mp ha
    exact hrow i (List.mem_range.mp hi))
  have hD2 : va_D A (((X ++ va_pl L f) ++ [(H.size, .inl (cA, n.toNatClampNeg, .inr (.inr (.inr (.inr (fun i => if i < n.toNatClampNeg then some (H.size + 1 + i) else none))))))]) ++ ((List.range n.toNatClampNeg).map (fun i => H.size + 1 + i)).map (fun a => (a, .inl (cy, z)))) := by
    have hD1 := hD.push (e := .inl (cA, n.toNatClampNeg, .inr (.inr (.inr (.inr (fun i => if i < n.toNatClampNeg then some (H.size + 1 + i) else none)))))) hP rfl (hA _ hS.1)
    generalize hW1 : (X ++ va_pl L f) ++ [(H.size, .inl (cA, n.toNatClampNeg, .inr (.inr (.inr (.inr (fun i => if i < n.toNatClampNeg then some (H.size + 1 + i) else none))))))] = W1 at hD1 hP1 ⊢
    have hle : ∀ (k9 : Nat) (x : Nat × va_E), W1[k9]? = some x → x.1 ≤ H.size := fun k9 x hx => by
      rw [← hW1] at hx
      by_cases hl : k9 < (X ++ va_pl L f).length
      · rw [List.getElem?_append_left hl] at hx
        exact Nat.le_of_lt ((hP k9 x hx).lt)
      · rw [List.getElem?_append_right (by omega)] at hx
        have h0 : k9 - (X ++ va_pl L f).length < 1 := (List.getElem?_eq_some_iff.mp hx).1
        rw [show k9 - (X ++ va_pl L f).length = 0 by omega] at hx
        cases hx
        exact Nat.le_refl _
    have hr : ∀ (k9 : Nat) (x : Nat × va_E), (((List.range n.toNatClampNeg).map (fun i => H.size + 1 + i)).map (fun a => ((a, .inl (cy, z)) : Nat × va_E)))[k9]? = some x → x.1 = H.size + 1 + k9 := fun k9 x hx => by
      rw [List.getElem?_map, List.getElem?_map] at hx
      by_cases h9 : k9 < n.toNatClampNeg
      · rw [List.getElem?_range h9] at hx
        cases hx
        rfl
      · have hn0 : (List.range n.toNatClampNeg)[k9]? = none := List.getElem?_eq_none (by rw [List.length_range]; omega)
        rw [hn0] at hx
        cases hx
    refine ⟨fun i j x y hi hj hxy => ?_, fun k9 x hx => ?_⟩
    · by_cases h1 : i < W1.length <;> by_cases h2 : j < W1.length
      · rw [List.getElem?_append_left h1] at hi
        rw [List.getElem?_append_left h2] at hj
        exact hD1.1 i j x y hi hj hxy
      · rw [List.getElem?_append_left h1] at hi
        rw [List.getElem?_append_right (by omega)] at hj
        have := hle _ _ hi
        have := hr _ _ hj
        omega
      · rw [List.getElem?_append_right (by omega)] at hi
        rw [List.getElem?_append_left h2] at hj
        have := hle _ _ hj
        have := hr _ _ hi
        omega
      · rw [List.getElem?_append_right (by omega)] at hi hj
        have := hr _ _ hi
        have := hr _ _ hj
        omega
    · by_cases h1 : k9 < W1.length
      · rw [List.getElem?_append_left h1] at hx
        exact hD1.2 k9 x hx
      · rw [List.getElem?_append_right (by omega)] at hx
        have := hr _ _ hx
        exact hA _ (by have := hS.1; omega)
  have hAr : ArrOfT s cA (.array ty) := fun N9 z9 => by
    obtain ⟨-, k9, hk9, cm9, hkk9⟩ := (hO 0 0 0).1
    exact ⟨(fun q hq => by cases hq), k9, hk9, cm9, hkk9⟩
  have hK2 : va_K D cl (tys ++ [(cA, .array ty)]) s := ⟨hK.1, fun k9 x hx => by
    by_cases hl : k9 < tys.length
    · rw [List.getElem?_append_left hl] at hx
      exact hK.2 k9 x hx
    · rw [List.getElem?_append_right (by omega)] at hx
      have h0 : k9 - tys.length < 1 := (List.getElem?_eq_some_iff.mp hx).1
      rw [show k9 - tys.length = 0 by omega] at hx
      cases hx
      exact ⟨hAr, fA⟩⟩
  obtain ⟨t, a1, b1⟩ := kk H.size (fun i => H.size + 1 + i) cA F.heap (fun i j _ _ h => by have h9 : H.size + 1 + i = H.size + 1 + j := h; omega) hnl hK2 (by rw [← vr_rows hnm]; exact vr_lay hP2) (by rw [← vr_rows hnm]; exact vr_layD hD2) ⟨by rw [f1]; have := hS.1; omega, fun x h1 h2 => (hold x (Nat.lt_of_lt_of_le h1 hS.1)).trans (hS.2.1 x h1 h2), hS.2.2⟩ F rfl X'
  refine ⟨t, step t ?_, b1⟩
  have e : T.heap.size = H.size := by rw [hT]
  rw [e]
  exact a1
end VGM
/-! ===== END ===== -/
end
section
-- ===== PART A: goes FIRST, ahead of the names: the tables' words, and 'selects' of the private methods out of them =====
/-- a private method of a class that the tables say can be made, by its rows of tables_1 -/
def lw_okq (q : MethodName × Nat) : Prop := (q.1.cls ≠ "java/lang/invoke/MethodHandle" ∧ q.1.cls ≠ "java/lang/invoke/VarHandle") ∧ Cond.instantiable q.1.cls q.2 ∈ tables_1 ∧ Cond.privateMethod q.1 ∈ tables_1 ∧ Cond.instanceMethod q.1 ∈ tables_1
theorem lw_p0 : lw_okq (⟨"ColumnsLevelled$Teller", "split", "()V"⟩, 8) := ⟨⟨by decide +kernel, by decide +kernel⟩, List.mem_of_getElem? (i := 74) (by decide +kernel), List.mem_of_getElem? (i := 389) (by decide +kernel), List.mem_of_getElem? (i := 390) (by decide +kernel)⟩
theorem lw_p1 : lw_okq (⟨"ColumnsLevelled$Teller", "wordOf", "(II)I"⟩, 8) := ⟨⟨by decide +kernel, by decide +kernel⟩, List.mem_of_getElem? (i := 74) (by decide +kernel), List.mem_of_getElem? (i := 399) (by decide +kernel), List.mem_of_getElem? (i := 400) (by decide +kernel)⟩
theorem lw_p2 : lw_okq (⟨"ColumnsLevelled$Teller", "isWord", "(III)Z"⟩, 8) := ⟨⟨by decide +kernel, by decide +kernel⟩, List.mem_of_getElem? (i := 74) (by decide +kernel), List.mem_of_getElem? (i := 452) (by decide +kernel), List.mem_of_getElem? (i := 453) (by decide +kernel)⟩
theorem lw_p3 : lw_okq (⟨"ColumnsLevelled$Teller", "numberOf", "(II)I"⟩, 8) := ⟨⟨by decide +kernel, by decide +kernel⟩, List.mem_of_getElem? (i := 74) (by decide +kernel), List.mem_of_getElem? (i := 456) (by decide +kernel), List.mem_of_getElem? (i := 457) (by decide +kernel)⟩
theorem lw_p4 : lw_okq (⟨"ColumnsLevelled$Teller", "sign", "()I"⟩, 8) := ⟨⟨by decide +kernel, by decide +kernel⟩, List.mem_of_getElem? (i := 74) (by decide +kernel), List.mem_of_getElem? (i := 464) (by decide +kernel), List.mem_of_getElem? (i := 465) (by decide +kernel)⟩
theorem lw_p5 : lw_okq (⟨"ColumnsLevelled$Teller", "readPart", "()V"⟩, 8) := ⟨⟨by decide +kernel, by decide +kernel⟩, List.mem_of_getElem? (i := 74) (by decide +kernel), List.mem_of_getElem? (i := 468) (by decide +kernel), List.mem_of_getElem? (i := 469) (by decide +kernel)⟩
theorem lw_p6 : lw_okq (⟨"ColumnsLevelled$Teller", "place", "()I"⟩, 8) := ⟨⟨by decide +kernel, by decide +kernel⟩, List.mem_of_getElem? (i := 74) (by decide +kernel), List.mem_of_getElem? (i := 472) (by decide +kernel), List.mem_of_getElem? (i := 473) (by decide +kernel)⟩
theorem lw_p7 : lw_okq (⟨"ColumnsLevelled$Teller", "readWord", "()I"⟩, 8) := ⟨⟨by decide +kernel, by decide +kernel⟩, List.mem_of_getElem? (i := 74) (by decide +kernel), List.mem_of_getElem? (i := 476) (by decide +kernel), List.mem_of_getElem? (i := 477) (by decide +kernel)⟩
theorem lw_p8 : lw_okq (⟨"ColumnsLevelled$Teller", "wrong", "(II)V"⟩, 8) := ⟨⟨by decide +kernel, by decide +kernel⟩, List.mem_of_getElem? (i := 74) (by decide +kernel), List.mem_of_getElem? (i := 480) (by decide +kernel), List.mem_of_getElem? (i := 481) (by decide +kernel)⟩
theorem lw_p9 : lw_okq (⟨"ColumnsLevelled$Teller", "readSetting", "(II)V"⟩, 8) := ⟨⟨by decide +kernel, by decide +kernel⟩, List.mem_of_getElem? (i := 74) (by decide +kernel), List.mem_of_getElem? (i := 484) (by decide +kernel), List.mem_of_getElem? (i := 485) (by decide +kernel)⟩
theorem lw_p10 : lw_okq (⟨"ColumnsLevelled$Teller", "tellOnce", "(II)V"⟩, 8) := ⟨⟨by decide +kernel, by decide +kernel⟩, List.mem_of_getElem? (i := 74) (by decide +kernel), List.mem_of_getElem? (i := 488) (by decide +kernel), List.mem_of_getElem? (i := 489) (by decide +kernel)⟩
theorem lw_p11 : lw_okq (⟨"ColumnsLevelled$Teller", "readNumber", "(II)I"⟩, 8) := ⟨⟨by decide +kernel, by decide +kernel⟩, List.mem_of_getElem? (i := 74) (by decide +kernel), List.mem_of_getElem? (i := 496) (by decide +kernel), List.mem_of_getElem? (i := 497) (by decide +kernel)⟩
theorem lw_p12 : lw_okq (⟨"ColumnsLevelled$Teller", "readBlock", "(II)V"⟩, 8) := ⟨⟨by decide +kernel, by decide +kernel⟩, List.mem_of_getElem? (i := 74) (by decide +kernel), List.mem_of_getElem? (i := 509) (by decide +kernel), List.mem_of_getElem? (i := 510) (by decide +kernel)⟩
theorem lw_p13 : lw_okq (⟨"ColumnsLevelled$Teller", "readWords", "(II)V"⟩, 8) := ⟨⟨by decide +kernel, by decide +kernel⟩, List.mem_of_getElem? (i := 74) (by decide +kernel), List.mem_of_getElem? (i := 533) (by decide +kernel), List.mem_of_getElem? (i := 534) (by decide +kernel)⟩
theorem lw_p14 : lw_okq (⟨"ColumnsLevelled$Teller", "readMark", "(II)V"⟩, 8) := ⟨⟨by decide +kernel, by decide +kernel⟩, List.mem_of_getElem? (i := 74) (by decide +kernel), List.mem_of_getElem? (i := 537) (by decide +kernel), List.mem_of_getElem? (i := 538) (by decide +kernel)⟩
theorem lw_p15 : lw_okq (⟨"ColumnsLevelled", "changed", "()V"⟩, 11) := ⟨⟨by decide +kernel, by decide +kernel⟩, List.mem_of_getElem? (i := 24) (by decide +kernel), List.mem_of_getElem? (i := 554) (by decide +kernel), List.mem_of_getElem? (i := 555) (by decide +kernel)⟩
def lw_privs_1 : List (MethodName × Nat) := [(⟨"ColumnsLevelled$Teller", "split", "()V"⟩, 8), (⟨"ColumnsLevelled$Teller", "wordOf", "(II)I"⟩, 8), (⟨"ColumnsLevelled$Teller", "isWord", "(III)Z"⟩, 8), (⟨"ColumnsLevelled$Teller", "numberOf", "(II)I"⟩, 8), (⟨"ColumnsLevelled$Teller", "sign", "()I"⟩, 8), (⟨"ColumnsLevelled$Teller", "readPart", "()V"⟩, 8), (⟨"ColumnsLevelled$Teller", "place", "()I"⟩, 8), (⟨"ColumnsLevelled$Teller", "readWord", "()I"⟩, 8), (⟨"ColumnsLevelled$Teller", "wrong", "(II)V"⟩, 8), (⟨"ColumnsLevelled$Teller", "readSetting", "(II)V"⟩, 8), (⟨"ColumnsLevelled$Teller", "tellOnce", "(II)V"⟩, 8), (⟨"ColumnsLevelled$Teller", "readNumber", "(II)I"⟩, 8), (⟨"ColumnsLevelled$Teller", "readBlock", "(II)V"⟩, 8), (⟨"ColumnsLevelled$Teller", "readWords", "(II)V"⟩, 8), (⟨"ColumnsLevelled$Teller", "readMark", "(II)V"⟩, 8), (⟨"ColumnsLevelled", "changed", "()V"⟩, 11)]
theorem lw_r1 : ∀ q ∈ lw_privs_1, lw_okq q := List.forall_mem_cons.mpr ⟨lw_p0, List.forall_mem_cons.mpr ⟨lw_p1, List.forall_mem_cons.mpr ⟨lw_p2, List.forall_mem_cons.mpr ⟨lw_p3, List.forall_mem_cons.mpr ⟨lw_p4, List.forall_mem_cons.mpr ⟨lw_p5, List.forall_mem_cons.mpr ⟨lw_p6, List.forall_mem_cons.mpr ⟨lw_p7, List.forall_mem_cons.mpr ⟨lw_p8, List.forall_mem_cons.mpr ⟨lw_p9, List.forall_mem_cons.mpr ⟨lw_p10, List.forall_mem_cons.mpr ⟨lw_p11, List.forall_mem_cons.mpr ⟨lw_p12, List.forall_mem_cons.mpr ⟨lw_p13, List.forall_mem_cons.mpr ⟨lw_p14, List.forall_mem_cons.mpr ⟨lw_p15, fun _ h => absurd h List.not_mem_nil⟩⟩⟩⟩⟩⟩⟩⟩⟩⟩⟩⟩⟩⟩⟩⟩
theorem lw_p16 : lw_okq (⟨"ColumnsLevelled", "beginAct", "()V"⟩, 11) := ⟨⟨by decide +kernel, by decide +kernel⟩, List.mem_of_getElem? (i := 24) (by decide +kernel), List.mem_of_getElem? (i := 565) (by decide +kernel), List.mem_of_getElem? (i := 566) (by decide +kernel)⟩
theorem lw_p17 : lw_okq (⟨"ColumnsLevelled$Run", "copyCells", "(II)V"⟩, 3) := ⟨⟨by decide +kernel, by decide +kernel⟩, List.mem_of_getElem? (i := 32) (by decide +kernel), List.mem_of_getElem? (i := 613) (by decide +kernel), List.mem_of_getElem? (i := 614) (by decide +kernel)⟩
theorem lw_p18 : lw_okq (⟨"ColumnsLevelled", "laidOut", "()LColumnsLevelled$Press;"⟩, 11) := ⟨⟨by decide +kernel, by decide +kernel⟩, List.mem_of_getElem? (i := 24) (by decide +kernel), List.mem_of_getElem? (i := 646) (by decide +kernel), List.mem_of_getElem? (i := 647) (by decide +kernel)⟩
theorem lw_p19 : lw_okq (⟨"ColumnsLevelled$Flow", "openSection", "(I)V"⟩, 20) := ⟨⟨by decide +kernel, by decide +kernel⟩, List.mem_of_getElem? (i := 134) (by decide +kernel), List.mem_of_getElem? (i := 658) (by decide +kernel), List.mem_of_getElem? (i := 659) (by decide +kernel)⟩
theorem lw_p20 : lw_okq (⟨"ColumnsLevelled$Flow", "layPieces", "(I)V"⟩, 20) := ⟨⟨by decide +kernel, by decide +kernel⟩, List.mem_of_getElem? (i := 134) (by decide +kernel), List.mem_of_getElem? (i := 663) (by decide +kernel), List.mem_of_getElem? (i := 664) (by decide +kernel)⟩
theorem lw_p21 : lw_okq (⟨"ColumnsLevelled$Flow", "endsBehind", "(II)Z"⟩, 20) := ⟨⟨by decide +kernel, by decide +kernel⟩, List.mem_of_getElem? (i := 134) (by decide +kernel), List.mem_of_getElem? (i := 672) (by decide +kernel), List.mem_of_getElem? (i := 673) (by decide +kernel)⟩
theorem lw_p22 : lw_okq (⟨"ColumnsLevelled$Flow", "markEnd", "(I)V"⟩, 20) := ⟨⟨by decide +kernel, by decide +kernel⟩, List.mem_of_getElem? (i := 134) (by decide +kernel), List.mem_of_getElem? (i := 677) (by decide +kernel), List.mem_of_getElem? (i := 678) (by decide +kernel)⟩
theorem lw_p23 : lw_okq (⟨"ColumnsLevelled", "pouredNow", "()LColumnsLevelled$Press;"⟩, 11) := ⟨⟨by decide +kernel, by decide +kernel⟩, List.mem_of_getElem? (i := 24) (by decide +kernel), List.mem_of_getElem? (i := 691) (by decide +kernel), List.mem_of_getElem? (i := 692) (by decide +kernel)⟩
theorem lw_p24 : lw_okq (⟨"ColumnsLevelled$Press", "putSpan", "(I)V"⟩, 13) := ⟨⟨by decide +kernel, by decide +kernel⟩, List.mem_of_getElem? (i := 128) (by decide +kernel), List.mem_of_getElem? (i := 701) (by decide +kernel), List.mem_of_getElem? (i := 702) (by decide +kernel)⟩
theorem lw_p25 : lw_okq (⟨"ColumnsLevelled$Press", "pageIsFree", "()Z"⟩, 13) := ⟨⟨by decide +kernel, by decide +kernel⟩, List.mem_of_getElem? (i := 128) (by decide +kernel), List.mem_of_getElem? (i := 705) (by decide +kernel), List.mem_of_getElem? (i := 706) (by decide +kernel)⟩
theorem lw_p26 : lw_okq (⟨"ColumnsLevelled$Press", "turnPage", "()V"⟩, 13) := ⟨⟨by decide +kernel, by decide +kernel⟩, List.mem_of_getElem? (i := 128) (by decide +kernel), List.mem_of_getElem? (i := 709) (by decide +kernel), List.mem_of_getElem? (i := 710) (by decide +kernel)⟩
theorem lw_p27 : lw_okq (⟨"ColumnsLevelled$Press", "pourSection", "(I)V"⟩, 13) := ⟨⟨by decide +kernel, by decide +kernel⟩, List.mem_of_getElem? (i := 128) (by decide +kernel), List.mem_of_getElem? (i := 713) (by decide +kernel), List.mem_of_getElem? (i := 714) (by decide +kernel)⟩
theorem lw_p28 : lw_okq (⟨"ColumnsLevelled$Fitter", "slotOf", "(III)I"⟩, 10) := ⟨⟨by decide +kernel, by decide +kernel⟩, List.mem_of_getElem? (i := 229) (by decide +kernel), List.mem_of_getElem? (i := 721) (by decide +kernel), List.mem_of_getElem? (i := 722) (by decide +kernel)⟩
theorem lw_p29 : lw_okq (⟨"ColumnsLevelled$Fitter", "bearsFrom", "(II[I)I"⟩, 10) := ⟨⟨by decide +kernel, by decide +kernel⟩, List.mem_of_getElem? (i := 229) (by decide +kernel), List.mem_of_getElem? (i := 732) (by decide +kernel), List.mem_of_getElem? (i := 733) (by decide +kernel)⟩
theorem lw_p30 : lw_okq (⟨"ColumnsLevelled$Press", "level", "(II)V"⟩, 13) := ⟨⟨by decide +kernel, by decide +kernel⟩, List.mem_of_getElem? (i := 128) (by decide +kernel), List.mem_of_getElem? (i := 740) (by decide +kernel), List.mem_of_getElem? (i := 741) (by decide +kernel)⟩
theorem lw_p31 : lw_okq (⟨"ColumnsLevelled$Fitter", "linesIn", "(I)I"⟩, 10) := ⟨⟨by decide +kernel, by decide +kernel⟩, List.mem_of_getElem? (i := 229) (by decide +kernel), List.mem_of_getElem? (i := 765) (by decide +kernel), List.mem_of_getElem? (i := 766) (by decide +kernel)⟩
def lw_privs_2 : List (MethodName × Nat) := [(⟨"ColumnsLevelled", "beginAct", "()V"⟩, 11), (⟨"ColumnsLevelled$Run", "copyCells", "(II)V"⟩, 3), (⟨"ColumnsLevelled", "laidOut", "()LColumnsLevelled$Press;"⟩, 11), (⟨"ColumnsLevelled$Flow", "openSection", "(I)V"⟩, 20), (⟨"ColumnsLevelled$Flow", "layPieces", "(I)V"⟩, 20), (⟨"ColumnsLevelled$Flow", "endsBehind", "(II)Z"⟩, 20), (⟨"ColumnsLevelled$Flow", "markEnd", "(I)V"⟩, 20), (⟨"ColumnsLevelled", "pouredNow", "()LColumnsLevelled$Press;"⟩, 11), (⟨"ColumnsLevelled$Press", "putSpan", "(I)V"⟩, 13), (⟨"ColumnsLevelled$Press", "pageIsFree", "()Z"⟩, 13), (⟨"ColumnsLevelled$Press", "turnPage", "()V"⟩, 13), (⟨"ColumnsLevelled$Press", "pourSection", "(I)V"⟩, 13), (⟨"ColumnsLevelled$Fitter", "slotOf", "(III)I"⟩, 10), (⟨"ColumnsLevelled$Fitter", "bearsFrom", "(II[I)I"⟩, 10), (⟨"ColumnsLevelled$Press", "level", "(II)V"⟩, 13), (⟨"ColumnsLevelled$Fitter", "linesIn", "(I)I"⟩, 10)]
theorem lw_r2 : ∀ q ∈ lw_privs_2, lw_okq q := List.forall_mem_cons.mpr ⟨lw_p16, List.forall_mem_cons.mpr ⟨lw_p17, List.forall_mem_cons.mpr ⟨lw_p18, List.forall_mem_cons.mpr ⟨lw_p19, List.forall_mem_cons.mpr ⟨lw_p20, List.forall_mem_cons.mpr ⟨lw_p21, List.forall_mem_cons.mpr ⟨lw_p22, List.forall_mem_cons.mpr ⟨lw_p23, List.forall_mem_cons.mpr ⟨lw_p24, List.forall_mem_cons.mpr ⟨lw_p25, List.forall_mem_cons.mpr ⟨lw_p26, List.forall_mem_cons.mpr ⟨lw_p27, List.forall_mem_cons.mpr ⟨lw_p28, List.forall_mem_cons.mpr ⟨lw_p29, List.forall_mem_cons.mpr ⟨lw_p30, List.forall_mem_cons.mpr ⟨lw_p31, fun _ h => absurd h List.not_mem_nil⟩⟩⟩⟩⟩⟩⟩⟩⟩⟩⟩⟩⟩⟩⟩⟩
theorem lw_p32 : lw_okq (⟨"ColumnsLevelled$Press", "putColumn", "(IIIIZ)Z"⟩, 13) := ⟨⟨by decide +kernel, by decide +kernel⟩, List.mem_of_getElem? (i := 128) (by decide +kernel), List.mem_of_getElem? (i := 773) (by decide +kernel), List.mem_of_getElem? (i := 774) (by decide +kernel)⟩
theorem lw_p33 : lw_okq (⟨"ColumnsLevelled$Press", "fill", "(I)Z"⟩, 13) := ⟨⟨by decide +kernel, by decide +kernel⟩, List.mem_of_getElem? (i := 128) (by decide +kernel), List.mem_of_getElem? (i := 780) (by decide +kernel), List.mem_of_getElem? (i := 781) (by decide +kernel)⟩
theorem lw_p34 : lw_okq (⟨"ColumnsLevelled", "asks", "(II)Z"⟩, 11) := ⟨⟨by decide +kernel, by decide +kernel⟩, List.mem_of_getElem? (i := 24) (by decide +kernel), List.mem_of_getElem? (i := 810) (by decide +kernel), List.mem_of_getElem? (i := 811) (by decide +kernel)⟩
theorem lw_p35 : lw_okq (⟨"ColumnsLevelled$Press", "leftOfNote", "(II)I"⟩, 13) := ⟨⟨by decide +kernel, by decide +kernel⟩, List.mem_of_getElem? (i := 128) (by decide +kernel), List.mem_of_getElem? (i := 1260) (by decide +kernel), List.mem_of_getElem? (i := 1261) (by decide +kernel)⟩
def lw_privs_3 : List (MethodName × Nat) := [(⟨"ColumnsLevelled$Press", "putColumn", "(IIIIZ)Z"⟩, 13), (⟨"ColumnsLevelled$Press", "fill", "(I)Z"⟩, 13), (⟨"ColumnsLevelled", "asks", "(II)Z"⟩, 11), (⟨"ColumnsLevelled$Press", "leftOfNote", "(II)I"⟩, 13)]
theorem lw_r3 : ∀ q ∈ lw_privs_3, lw_okq q := List.forall_mem_cons.mpr ⟨lw_p32, List.forall_mem_cons.mpr ⟨lw_p33, List.forall_mem_cons.mpr ⟨lw_p34, List.forall_mem_cons.mpr ⟨lw_p35, fun _ h => absurd h List.not_mem_nil⟩⟩⟩⟩
def lw_privs : List (MethodName × Nat) := lw_privs_1 ++ (lw_privs_2 ++ (lw_privs_3))
def lw_tbl : List Cond := k2_sels lw_privs ++ tables_1
theorem lw_privs_ok : ∀ q ∈ lw_privs, lw_okq q := by
  show ∀ q ∈ lw_privs_1 ++ (lw_privs_2 ++ (lw_privs_3)), lw_okq q
  exact List.forall_mem_append.mpr ⟨lw_r1, List.forall_mem_append.mpr ⟨lw_r2, lw_r3⟩⟩
end
section
def qr_Fitter : String := "ColumnsLevelled$Fitter"
def qt_Fitter : u_T := fun k => match k with
  | 0 => ("ColumnsLevelled$Fitter", "run", "LColumnsLevelled$Run;", true)
  | 1 => ("ColumnsLevelled$Fitter", "flow", "LColumnsLevelled$Flow;", true)
  | 2 => ("ColumnsLevelled$Fitter", "rule", "I", false)
  | 3 => ("ColumnsLevelled$Fitter", "lineHigh", "I", false)
  | 4 => ("ColumnsLevelled$Fitter", "bears", "[[I", true)
  | 5 => ("ColumnsLevelled$Fitter", "measuredSection", "I", false)
  | 6 => ("ColumnsLevelled$Fitter", "measuredHeight", "I", false)
  | 7 => ("ColumnsLevelled$Fitter", "measuredColumns", "I", false)
  | 8 => ("ColumnsLevelled$Fitter", "known", "[I", true)
  | _ => ("ColumnsLevelled$Fitter", "learnt", "Z", false)
def qr_Flow : String := "ColumnsLevelled$Flow"
def qt_Flow : u_T := fun k => match k with
  | 0 => ("ColumnsLevelled$Flow", "pieces", "I", false)
  | 1 => ("ColumnsLevelled$Flow", "sections", "I", false)
  | 2 => ("ColumnsLevelled$Flow", "notes", "I", false)
  | 3 => ("ColumnsLevelled$Flow", "run", "LColumnsLevelled$Run;", true)
  | 4 => ("ColumnsLevelled$Flow", "firsts", "[I", true)
  | 5 => ("ColumnsLevelled$Flow", "owners", "[I", true)
  | 6 => ("ColumnsLevelled$Flow", "numbers", "[I", true)
  | 7 => ("ColumnsLevelled$Flow", "heights", "[I", true)
  | 8 => ("ColumnsLevelled$Flow", "gaps", "[I", true)
  | 9 => ("ColumnsLevelled$Flow", "noteLines", "[I", true)
  | 10 => ("ColumnsLevelled$Flow", "parts", "[I", true)
  | 11 => ("ColumnsLevelled$Flow", "tops", "[I", true)
  | 12 => ("ColumnsLevelled$Flow", "heightsTo", "[I", true)
  | 13 => ("ColumnsLevelled$Flow", "linesTo", "[I", true)
  | 14 => ("ColumnsLevelled$Flow", "lastLines", "[I", true)
  | 15 => ("ColumnsLevelled$Flow", "ends", "[Z", true)
  | 16 => ("ColumnsLevelled$Flow", "begins", "[I", true)
  | 17 => ("ColumnsLevelled$Flow", "finishes", "[I", true)
  | 18 => ("ColumnsLevelled$Flow", "spanHeights", "[I", true)
  | _ => ("ColumnsLevelled$Flow", "notePieces", "[I", true)
def qr_Past : String := "ColumnsLevelled$Past"
def qt_Past : u_T := fun k => match k with
  | 0 => ("ColumnsLevelled$Past", "runs", "[LColumnsLevelled$Run;", true)
  | 1 => ("ColumnsLevelled$Past", "next", "I", false)
  | _ => ("ColumnsLevelled$Past", "acts", "I", false)
def qr_Press : String := "ColumnsLevelled$Press"
def qt_Press : u_T := fun k => match k with
  | 0 => ("ColumnsLevelled$Press", "run", "LColumnsLevelled$Run;", true)
  | 1 => ("ColumnsLevelled$Press", "flow", "LColumnsLevelled$Flow;", true)
  | 2 => ("ColumnsLevelled$Press", "fitter", "LColumnsLevelled$Fitter;", true)
  | 3 => ("ColumnsLevelled$Press", "rows", "[[I", true)
  | 4 => ("ColumnsLevelled$Press", "columns", "I", false)
  | 5 => ("ColumnsLevelled$Press", "page", "I", false)
  | 6 => ("ColumnsLevelled$Press", "free", "I", false)
  | 7 => ("ColumnsLevelled$Press", "place", "I", false)
  | 8 => ("ColumnsLevelled$Press", "carried", "I", false)
  | 9 => ("ColumnsLevelled$Press", "stuck", "I", false)
  | 10 => ("ColumnsLevelled$Press", "spansPut", "I", false)
  | 11 => ("ColumnsLevelled$Press", "spanPages", "[I", true)
  | _ => ("ColumnsLevelled$Press", "spanAboves", "[I", true)
def qr_Run : String := "ColumnsLevelled$Run"
def qt_Run : u_T := fun k => match k with
  | 0 => ("ColumnsLevelled$Run", "blocks", "I", false)
  | 1 => ("ColumnsLevelled$Run", "settings", "[I", true)
  | _ => ("ColumnsLevelled$Run", "cells", "[I", true)
def qr_Tape : String := "ColumnsLevelled$Tape"
def qt_Tape : u_T := fun k => match k with
  | 0 => ("ColumnsLevelled$Tape", "bytes", "[I", true)
  | _ => ("ColumnsLevelled$Tape", "length", "I", false)
def qr_Teller : String := "ColumnsLevelled$Teller"
def qt_Teller : u_T := fun k => match k with
  | 0 => ("ColumnsLevelled$Teller", "tape", "LColumnsLevelled$Tape;", true)
  | 1 => ("ColumnsLevelled$Teller", "draft", "LColumnsLevelled$Run;", true)
  | 2 => ("ColumnsLevelled$Teller", "signs", "[I", true)
  | 3 => ("ColumnsLevelled$Teller", "places", "[I", true)
  | 4 => ("ColumnsLevelled$Teller", "values", "[I", true)
  | 5 => ("ColumnsLevelled$Teller", "next", "I", false)
  | 6 => ("ColumnsLevelled$Teller", "fault", "I", false)
  | _ => ("ColumnsLevelled$Teller", "told", "I", false)
def qr_Walker : String := "ColumnsLevelled$Walker"
def qt_Walker : u_T := fun k => match k with
  | 0 => ("ColumnsLevelled$Walker", "flow", "LColumnsLevelled$Flow;", true)
  | 1 => ("ColumnsLevelled$Walker", "fitter", "LColumnsLevelled$Fitter;", true)
  | 2 => ("ColumnsLevelled$Walker", "carries", "[[I", true)
  | _ => ("ColumnsLevelled$Walker", "many", "[[I", true)
def qr_Top : String := "ColumnsLevelled"
def qt_Top : u_T := fun k => match k with
  | 0 => ("ColumnsLevelled", "run", "LColumnsLevelled$Run;", true)
  | 1 => ("ColumnsLevelled", "tape", "LColumnsLevelled$Tape;", true)
  | 2 => ("ColumnsLevelled", "teller", "LColumnsLevelled$Teller;", true)
  | 3 => ("ColumnsLevelled", "past", "LColumnsLevelled$Past;", true)
  | 4 => ("ColumnsLevelled", "shelves", "[LColumnsLevelled$Run;", true)
  | 5 => ("ColumnsLevelled", "shelved", "I", false)
  | 6 => ("ColumnsLevelled", "shown", "LColumnsLevelled$Press;", true)
  | 7 => ("ColumnsLevelled", "asked", "LColumnsLevelled$Press;", true)
  | 8 => ("ColumnsLevelled", "walker", "LColumnsLevelled$Walker;", true)
  | 9 => ("ColumnsLevelled", "laid", "Z", false)
  | _ => ("ColumnsLevelled", "poured", "Z", false)
def qr_Flat : String := "ColumnsLevelledLaw$Flat"
def qt_Flat : u_T := fun k => match k with
  | 0 => ("ColumnsLevelledLaw$Flat", "r", "LColumnsLevelledLaw$Run;", true)
  | 1 => ("ColumnsLevelledLaw$Flat", "block", "[I", true)
  | 2 => ("ColumnsLevelledLaw$Flat", "number", "[I", true)
  | 3 => ("ColumnsLevelledLaw$Flat", "high", "[I", true)
  | 4 => ("ColumnsLevelledLaw$Flat", "space", "[I", true)
  | 5 => ("ColumnsLevelledLaw$Flat", "note", "[I", true)
  | 6 => ("ColumnsLevelledLaw$Flat", "section", "[I", true)
  | 7 => ("ColumnsLevelledLaw$Flat", "first", "[I", true)
  | 8 => ("ColumnsLevelledLaw$Flat", "span", "[I", true)
  | 9 => ("ColumnsLevelledLaw$Flat", "pieces", "I", false)
  | _ => ("ColumnsLevelledLaw$Flat", "sections", "I", false)
def qr_LRun : String := "ColumnsLevelledLaw$Run"
def qt_LRun : u_T := fun k => match k with
  | 0 => ("ColumnsLevelledLaw$Run", "set", "[I", true)
  | 1 => ("ColumnsLevelledLaw$Run", "many", "I", false)
  | 2 => ("ColumnsLevelledLaw$Run", "block", "[[I", true)
  | _ => ("ColumnsLevelledLaw$Run", "mark", "[[I", true)
def qr_SB : String := "java/lang/StringBuilder"
def qt_SB : u_T := fun k => match k with
  | 0 => ("java/lang/AbstractStringBuilder", "value", "[B", false)
  | 1 => ("java/lang/AbstractStringBuilder", "coder", "B", false)
  | 2 => ("java/lang/AbstractStringBuilder", "maybeLatin1", "Z", false)
  | _ => ("java/lang/AbstractStringBuilder", "count", "I", false)
def qr_String : String := "java/lang/String"
def qt_String : u_T := fun k => match k with
  | 0 => ("java/lang/String", "value", "[B", true)
  | 1 => ("java/lang/String", "coder", "B", true)
  | 2 => ("java/lang/String", "hash", "I", false)
  | _ => ("java/lang/String", "hashIsZero", "Z", false)
abbrev qm_cl : List vw_C := [(qr_Fitter, qt_Fitter, 10), (qr_Flow, qt_Flow, 20), (qr_Past, qt_Past, 3), (qr_Press, qt_Press, 13), (qr_Run, qt_Run, 3), (qr_Tape, qt_Tape, 2), (qr_Teller, qt_Teller, 8), (qr_Walker, qt_Walker, 4), (qr_Top, qt_Top, 11), (qr_Flat, qt_Flat, 11), (qr_LRun, qt_LRun, 4), (qr_SB, qt_SB, 4), (qr_String, qt_String, 4)]
def qm_ftl : List (List Bool) := [[true, true, false, false, true, false, false, false, true, false], [false, false, false, true, true, true, true, true, true, true, true, true, true, true, true, true, true, true, true, true], [true, false, false], [true, true, true, true, false, false, false, false, false, false, false, true, true], [false, true, true], [true, false], [true, true, true, true, true, false, false, false], [true, true, true, true], [true, true, true, true, true, false, true, true, true, false, false], [true, true, true, true, true, true, true, true, true, false, false], [true, false, true, true], [true, false, false, false], [true, false, false, false]]
def qm_N : Nat := 367
def qm_runs : List (Nat × Nat × Nat) := [(1, 18, 0), (1, 14, 0), (1, 1, 8), (1, 1, 256), (1, 15, 0), (1, 1, 400), (1, 16, 0), (1, 14, 0), (1, 1, 8), (1, 1, 256), (3, 1, 401), (1, 12, 0), (1, 5, 10), (1, 14, 0), (1, 1, 8), (1, 1, 256), (1, 14, 0), (1, 1, 8), (1, 1, 256), (1, 14, 0), (1, 1, 8), (1, 1, 256), (1, 14, 0), (1, 1, 8), (1, 1, 256), (1, 14, 0), (1, 1, 8), (1, 1, 256), (1, 14, 0), (1, 1, 8), (1, 1, 256), (1, 14, 0), (1, 1, 8), (1, 1, 256), (1, 14, 0), (1, 1, 8), (1, 1, 256), (1, 14, 0), (1, 1, 8), (1, 1, 256), (1, 14, 0), (1, 1, 8), (1, 1, 256), (1, 5, 2), (1, 14, 0), (1, 1, 8), (1, 1, 256), (1, 14, 0), (1, 1, 8), (1, 1, 256), (1, 13, 0), (1, 11, 0), (1, 1, 16), (10, 1, 91), (1, 2, 91), (3, 1, 17), (1, 1, 64), (1, 10, 0), (1, 4, 6), (6, 1, 91), (1, 1, 1820), (1, 4, 240), (240, 1, 12), (2, 1, 16), (1, 13, 0), (1, 14, 0), (1, 1, 8), (1, 1, 256), (1, 11, 0), (1, 1, 16), (10, 1, 91), (1, 2, 91), (3, 1, 17), (1, 1, 64), (1, 10, 0), (1, 4, 6), (6, 1, 91), (1, 1, 1820), (1, 4, 5), (5, 1, 12), (2, 1, 16), (1, 17, 0), (1, 4, 2), (2, 1, 91), (1, 4, 2), (2, 1, 1820), (38, 0, 0), (3, 1, 8), (1, 6, 0)]
def qm_kl : List (Nat × Nat × Nat) → Nat → Nat × Nat
  | [], _ => (0, 0)
  | (c, t, n) :: r, i => if i < c then (t, n) else qm_kl r (i - c)
def qm_kd (i : Nat) : Nat × Nat := qm_kl qm_runs i
def qm_rft : List (Nat × List Nat) := [(0, [1, 4, 6, 13, 45, 0, 52, 322, 360, 0, 0]), (1, [0, 2, 3]), (4, [5, 0]), (6, [4, 7, 10, 11, 12, 0, 0, 0]), (7, [0, 8, 9]), (13, [14, 0, 0]), (15, [0, 16, 17]), (18, [0, 19, 20]), (21, [0, 22, 23]), (24, [0, 25, 26]), (27, [0, 28, 29]), (30, [0, 31, 32]), (33, [0, 34, 35]), (36, [0, 37, 38]), (39, [0, 40, 41]), (42, [0, 43, 44]), (46, [0, 47, 48]), (49, [0, 50, 51]), (52, [1, 53, 70, 79, 0, 0, 0, 0, 0, 0, 0, 320, 321]), (53, [0, 0, 0, 1, 54, 55, 56, 57, 58, 59, 60, 61, 62, 63, 64, 65, 66, 67, 68, 69]), (70, [1, 53, 0, 0, 71, 0, 0, 0, 78, 0]), (322, [323, 326, 343, 352, 0, 0, 0, 0, 0, 0, 0, 358, 359]), (323, [0, 324, 325]), (326, [0, 0, 0, 323, 327, 328, 329, 330, 331, 332, 333, 334, 335, 336, 337, 338, 339, 340, 341, 342]), (343, [323, 326, 0, 0, 344, 0, 0, 0, 351, 0]), (360, [53, 70, 361, 364])]
def qm_look : List (Nat × List Nat) → Nat → Option (List Nat)
  | [], _ => none
  | q :: r, i => if i = q.1 then some q.2 else qm_look r i
def qm_rf (i k : Nat) : Nat := match qm_look qm_rft i with
  | some l => l.getD k 0
  | none => if (qm_kd i).1 = 4 then i + 1 + k else if (qm_kd i).1 = 5 then i + 1 + 3 * k else 0
def qs_byt : List (List Int32) := [[32, 99, 111, 108, 117, 109, 110, 115, 32, 104, 101, 105, 103, 104, 116, 32, 111, 114, 112, 104, 97, 110, 115, 32, 119, 105, 100, 111, 119, 115, 32, 102, 111, 108, 108, 111, 119, 32, 110, 111, 116, 101, 32, 114, 117, 108, 101, 32, 114, 111, 111, 109, 32, 108, 105, 110, 101, 115, 32, 115, 111, 108, 105, 100, 32, 104, 101, 97, 100, 32, 116, 97, 98, 108, 101, 32, 115, 112, 97, 110, 32, 116, 105, 101, 100, 32, 119, 104, 111, 108, 101, 32, 115, 112, 97, 99, 101, 32, 109, 97, 114, 107, 32],
  [99, 111, 108, 117, 109, 110, 115],
  [104, 101, 105, 103, 104, 116],
  [111, 114, 112, 104, 97, 110, 115],
  [119, 105, 100, 111, 119, 115],
  [102, 111, 108, 108, 111, 119],
  [110, 111, 116, 101],
  [114, 117, 108, 101],
  [114, 111, 111, 109],
  [108, 105, 110, 101, 115],
  [115, 111, 108, 105, 100],
  [104, 101, 97, 100],
  [116, 97, 98, 108, 101],
  [115, 112, 97, 110],
  [116, 105, 101, 100],
  [115, 112, 97, 99, 101],
  [119, 104, 111, 108, 101],
  [109, 97, 114, 107]]
def qs_len : List Nat := [103, 7, 6, 7, 6, 6, 4, 4, 4, 5, 5, 4, 5, 4, 4, 5, 5, 4]
def qs_all : List (String × Nat × String × Nat) := [(qr_Teller, 94, " columns height orphans widows follow note rule room lines solid head table span tied whole space mark ", 408)]
end
section
def qm_tb : List Cond := lw_tbl.filter goodWord
abbrev qm_Mem : Type := Nat → Nat → Int32
def qm_M (α : Type) : Type := qm_Mem → Option (α × qm_Mem)
def mP {α : Type} (a : α) : qm_M α := fun σ => some (a, σ)
def mF {α : Type} : qm_M α := fun _ => none
def mB {α β : Type} (m : qm_M α) (f : α → qm_M β) : qm_M β := fun σ => match m σ with
  | none => none
  | some r => f r.1 r.2
def qm_u (σ : qm_Mem) (a k : Nat) (x : Int32) : qm_Mem := fun b j => if b = a ∧ j = k then x else σ b j
/-- an index within a row -/
def qm_in (a : Nat) (i : Int32) : Bool := decide (0 ≤ i) && decide (i.toNatClampNeg < (qm_kd a).2)
def qm_ow (a : Nat) : Bool := decide (a < qm_N)
def mGt (a k : Nat) : qm_M Int32 := fun σ => some (σ a k, σ)
def mPt (a k : Nat) (x : Int32) : qm_M Unit := fun σ => some ((), qm_u σ a k x)
def mPz (a k : Nat) (x : Int32) : qm_M Unit := fun σ => if x = 0 ∨ x = 1 then some ((), qm_u σ a k x) else none
def mLd (a : Nat) (i : Int32) : qm_M Int32 := fun σ => if qm_in a i = true then some (σ a i.toNatClampNeg, σ) else none
def mLr (a : Nat) (i : Int32) : qm_M Nat := fun σ => if qm_in a i = true then some (qm_rf a i.toNatClampNeg, σ) else none
def mSt (a : Nat) (i x : Int32) : qm_M Unit := fun σ => if qm_in a i = true ∧ qm_ow a = true then some ((), qm_u σ a i.toNatClampNeg x) else none
def mSz (a : Nat) (i x : Int32) : qm_M Unit := fun σ => if (qm_in a i = true ∧ qm_ow a = true) ∧ (x = 0 ∨ x = 1) then some ((), qm_u σ a i.toNatClampNeg x) else none
def mSb (a : Nat) (i x : Int32) : qm_M Unit := fun σ => if qm_in a i = true ∧ qm_ow a = true then some ((), qm_u σ a i.toNatClampNeg x.toInt8.toInt32) else none
def mDv (x y : Int32) : qm_M Int32 := fun σ => if y = 0 then none else some (x / y, σ)
def mRm (x y : Int32) : qm_M Int32 := fun σ => if y = 0 then none else some (x - x / y * y, σ)
def mZ (x : Int32) : qm_M Int32 := fun σ => if x = 0 ∨ x = 1 then some (x, σ) else none
def mK (t : Nat) (m : qm_M Nat) : qm_M Nat := fun σ => match m σ with
  | none => none
  | some r => if (qm_kd r.1).1 = t then some r else none
def mL {S α : Type} (step : S → qm_M (S ⊕ α)) : Nat → S → qm_M α
  | 0, _ => mF
  | n + 1, s => mB (step s) (fun r => Sum.elim (fun s' => mL step n s') (fun a => mP a) r)
noncomputable def mW {S α : Type} (step : S → qm_M (S ⊕ α)) (s : S) : qm_M α := fun σ => @dite _ (∃ (n : Nat) (r : α × qm_Mem), mL step n s σ = some r) (Classical.propDecidable _) (fun h => some (Classical.choose (Classical.choose_spec h))) (fun _ => none)
theorem mB_some {α β : Type} {m : qm_M α} {f : α → qm_M β} {σ : qm_Mem} {r : β × qm_Mem} (h : mB m f σ = some r) : ∃ a σ1, m σ = some (a, σ1) ∧ f a σ1 = some r := by
  unfold mB at h
  cases hm : m σ with
  | none => rw [hm] at h; cases h
  | some q => rw [hm] at h; exact ⟨q.1, q.2, rfl, h⟩
theorem mB_of {α β : Type} {m : qm_M α} {f : α → qm_M β} {σ σ1 : qm_Mem} {a : α} (h : m σ = some (a, σ1)) : mB m f σ = f a σ1 := by
  unfold mB
  rw [h]
theorem mL_mono {S α : Type} {step : S → qm_M (S ⊕ α)} : ∀ (n : Nat) (s : S) (σ : qm_Mem) (r : α × qm_Mem), mL step n s σ = some r → mL step (n + 1) s σ = some r
  | 0, _, _, _, h => by cases h
  | n + 1, s, σ, r, h => by
    obtain ⟨q, σ1, h1, h2⟩ := mB_some h
    show mB (step s) _ σ = some r
    rw [mB_of h1]
    cases q with
    | inl s' => exact mL_mono n s' σ1 r h2
    | inr a => exact h2
theorem mL_le {S α : Type} {step : S → qm_M (S ⊕ α)} {n k : Nat} {s : S} {σ : qm_Mem} {r : α × qm_Mem} (h : mL step n s σ = some r) : mL step (n + k) s σ = some r := by
  induction k with
  | zero => exact h
  | succ k ih => exact mL_mono _ _ _ _ ih
theorem mL_det {S α : Type} {step : S → qm_M (S ⊕ α)} {n k : Nat} {s : S} {σ : qm_Mem} {r q : α × qm_Mem} (h : mL step n s σ = some r) (h' : mL step k s σ = some q) : r = q := by
  have h1 := mL_le (k := k) h
  have h2 := mL_le (k := n) h'
  rw [Nat.add_comm] at h2
  exact Option.some.inj (h1.symm.trans h2)
theorem mW_iff {S α : Type} {step : S → qm_M (S ⊕ α)} {s : S} {σ : qm_Mem} {r : α × qm_Mem} : mW step s σ = some r ↔ ∃ n, mL step n s σ = some r := by
  constructor
  · intro h
    unfold mW at h
    by_cases hn : ∃ (n : Nat) (r : α × qm_Mem), mL step n s σ = some r
    · rw [dif_pos hn] at h
      rw [← Option.some.inj h]
      exact ⟨_, Classical.choose_spec (Classical.choose_spec hn)⟩
    · rw [dif_neg hn] at h
      cases h
  · intro ⟨n, hn⟩
    have hx : ∃ (n : Nat) (r : α × qm_Mem), mL step n s σ = some r := ⟨n, r, hn⟩
    unfold mW
    rw [dif_pos hx]
    exact congrArg some (mL_det (Classical.choose_spec (Classical.choose_spec hx)) hn)
/-! the machine's side -/
abbrev qm_G : Type := (Nat → Nat) × va_G × (Nat → ClassId)
abbrev qm_X : Type := Program × Launch × Env × Room × State × MethodId × Array Value × List Frame × Method × Code × qm_G × (Nat → Prop) × Nat × Nat × (State → Prop)
abbrev qx_p (X : qm_X) : Program := X.1
abbrev qx_l (X : qm_X) : Launch := X.2.1
abbrev qx_e (X : qm_X) : Env := X.2.2.1
abbrev qx_R (X : qm_X) : Room := X.2.2.2.1
abbrev qx_s (X : qm_X) : State := X.2.2.2.2.1
abbrev qx_m (X : qm_X) : MethodId := X.2.2.2.2.2.1
abbrev qx_args (X : qm_X) : Array Value := X.2.2.2.2.2.2.1
abbrev qx_below (X : qm_X) : List Frame := X.2.2.2.2.2.2.2.1
abbrev qx_meth (X : qm_X) : Method := X.2.2.2.2.2.2.2.2.1
abbrev qx_c (X : qm_X) : Code := X.2.2.2.2.2.2.2.2.2.1
abbrev qx_G (X : qm_X) : qm_G := X.2.2.2.2.2.2.2.2.2.2.1
abbrev qx_A (X : qm_X) : Nat → Prop := X.2.2.2.2.2.2.2.2.2.2.2.1
abbrev qx_cells (X : qm_X) : Nat := X.2.2.2.2.2.2.2.2.2.2.2.2.1
abbrev qx_slots (X : qm_X) : Nat := X.2.2.2.2.2.2.2.2.2.2.2.2.2.1
abbrev qx_Q (X : qm_X) : State → Prop := X.2.2.2.2.2.2.2.2.2.2.2.2.2.2
abbrev qx_W (X : qm_X) (H : Heap) (locs : List Loc) (g : JFrame) : Prop := W (qx_p X) (qx_l X) (qx_e X) (qx_R X) (qx_s X) (qx_m X) (qx_args X) (qx_below X) (qx_meth X) (qx_c X) H locs (qx_cells X) (qx_slots X) (qx_Q X) g
abbrev qx_ad (X : qm_X) (i : Nat) : Nat := (qx_G X).1 i
def qm_nf (t : Nat) : Nat := match qm_cl[t]? with
  | some r => r.2.2
  | none => 0
def qm_ft (t k : Nat) : Bool := match qm_ftl[t]? with
  | some r => r.getD k false
  | none => false
def qm_vl (G : qm_G) (t i : Nat) (σ : qm_Mem) (k : Nat) : Value := if qm_ft t k = true then .ref (G.1 (qm_rf i k)) else .int (σ i k)
def qm_fs (G : qm_G) (t i : Nat) (σ : qm_Mem) : List Value := (List.range (qm_nf t)).map (qm_vl G t i σ)
def qm_E (G : qm_G) (σ : qm_Mem) (i : Nat) : Option va_E :=
  if ((qm_kd i).1 = 1 ∨ (qm_kd i).1 = 2 ∨ (qm_kd i).1 = 3) ∧ i < qm_N then some (.inl (G.2.2 (qm_kd i).1, (qm_kd i).2, .inl (σ i)))
  else if (qm_kd i).1 = 4 ∨ (qm_kd i).1 = 5 then some (.inl (G.2.2 (qm_kd i).1, (qm_kd i).2, .inr (.inr (.inr (.inr (fun j => some (G.1 (qm_rf i j))))))))
  else if 10 ≤ (qm_kd i).1 then some (.inr ((qm_kd i).1 - 10, qm_fs G ((qm_kd i).1 - 10) i σ))
  else none
/-- the class's own rows of numbers: SETTING_FIRST, SETTING_LEAST, SETTING_MOST -/
def qm_sv (i j : Nat) : Int32 := (([[2, 60, 2, 2, 2, 1, 1, 0], [1, 10, 1, 1, 0, 1, 0, 0], [5, 400, 9, 9, 9, 3, 9, 60]] : List (List Int32)).getD (i - 405) []).getD j 0
def qm_H (G : qm_G) (σ : qm_Mem) (H : Heap) : Prop := (∀ (i : Nat) (e : va_E), qm_E G σ i = some e → va_at G.2.1 qm_cl (G.1 i, e) H) ∧ ∀ i, 405 ≤ i → i < 408 → ∀ j, j < 8 → σ i j = qm_sv i j
def qm_tys (G : qm_G) : List (ClassId × FieldType) := [(G.2.2 1, .int), (G.2.2 2, .boolean), (G.2.2 3, .byte), (G.2.2 4, .array .int), (G.2.2 5, .object "ColumnsLevelled$Run"), (G.2.2 7, .object "java/lang/String")]
def qm_nw : List Cond := [.fieldLinkNest "ColumnsLevelled$Run" 31 "ColumnsLevelled" "SETTING_FIRST" "[I" "ColumnsLevelled",
  .fieldLinkNest "ColumnsLevelled$Teller" 120 "ColumnsLevelled" "SETTING_LEAST" "[I" "ColumnsLevelled",
  .fieldLinkNest "ColumnsLevelled$Teller" 123 "ColumnsLevelled" "SETTING_MOST" "[I" "ColumnsLevelled",
  .fieldLinkNest "ColumnsLevelled$Run" 21 "ColumnsLevelled" "SETTING_LEAST" "[I" "ColumnsLevelled",
  .fieldLinkNest "ColumnsLevelled$Run" 24 "ColumnsLevelled" "SETTING_MOST" "[I" "ColumnsLevelled",
  .fieldLinkNest "ColumnsLevelledLaw$Flat" 56 "ColumnsLevelledLaw$Run" "set" "[I" "ColumnsLevelledLaw",
  .fieldLinkNest "ColumnsLevelledLaw" 48 "ColumnsLevelledLaw$Run" "set" "[I" "ColumnsLevelledLaw",
  .fieldLinkNest "ColumnsLevelledLaw$Flat" 38 "ColumnsLevelledLaw$Run" "many" "I" "ColumnsLevelledLaw",
  .fieldLinkNest "ColumnsLevelledLaw" 36 "ColumnsLevelledLaw$Run" "many" "I" "ColumnsLevelledLaw",
  .fieldLinkNest "ColumnsLevelledLaw$Flat" 47 "ColumnsLevelledLaw$Run" "block" "[[I" "ColumnsLevelledLaw",
  .fieldLinkNest "ColumnsLevelledLaw" 52 "ColumnsLevelledLaw$Run" "block" "[[I" "ColumnsLevelledLaw",
  .fieldLinkNest "ColumnsLevelledLaw$Flat" 53 "ColumnsLevelledLaw$Run" "mark" "[[I" "ColumnsLevelledLaw",
  .fieldLinkNest "ColumnsLevelledLaw" 59 "ColumnsLevelledLaw$Run" "mark" "[[I" "ColumnsLevelledLaw",
  .fieldLinkNest "ColumnsLevelledLaw" 68 "ColumnsLevelledLaw$Flat" "block" "[I" "ColumnsLevelledLaw",
  .fieldLinkNest "ColumnsLevelledLaw" 70 "ColumnsLevelledLaw$Flat" "number" "[I" "ColumnsLevelledLaw",
  .fieldLinkNest "ColumnsLevelledLaw" 73 "ColumnsLevelledLaw$Flat" "high" "[I" "ColumnsLevelledLaw",
  .fieldLinkNest "ColumnsLevelledLaw" 76 "ColumnsLevelledLaw$Flat" "space" "[I" "ColumnsLevelledLaw",
  .fieldLinkNest "ColumnsLevelledLaw" 62 "ColumnsLevelledLaw$Flat" "note" "[I" "ColumnsLevelledLaw",
  .fieldLinkNest "ColumnsLevelledLaw" 79 "ColumnsLevelledLaw$Flat" "section" "[I" "ColumnsLevelledLaw",
  .fieldLinkNest "ColumnsLevelledLaw" 86 "ColumnsLevelledLaw$Flat" "first" "[I" "ColumnsLevelledLaw",
  .fieldLinkNest "ColumnsLevelledLaw" 91 "ColumnsLevelledLaw$Flat" "span" "[I" "ColumnsLevelledLaw",
  .fieldLinkNest "ColumnsLevelledLaw" 42 "ColumnsLevelledLaw$Flat" "pieces" "I" "ColumnsLevelledLaw",
  .fieldLinkNest "ColumnsLevelledLaw" 45 "ColumnsLevelledLaw$Flat" "sections" "I" "ColumnsLevelledLaw",
  .methodLinkNest "ColumnsLevelled$Teller" 73 ⟨"ColumnsLevelled", "at", "([II)I"⟩ "ColumnsLevelled",
  .methodLinkNest "ColumnsLevelled$Press" 88 ⟨"ColumnsLevelled", "at", "([II)I"⟩ "ColumnsLevelled",
  .methodLinkNest "ColumnsLevelled$Fitter" 78 ⟨"ColumnsLevelled", "at", "([II)I"⟩ "ColumnsLevelled",
  .methodLinkNest "ColumnsLevelledLaw" 100 ⟨"ColumnsLevelledLaw$Run", "<init>", "()V"⟩ "ColumnsLevelledLaw",
  .methodLinkNest "ColumnsLevelledLaw$Run" 95 ⟨"ColumnsLevelledLaw", "cell", "([II)I"⟩ "ColumnsLevelledLaw"]
def qm_sts : List (String × String × String × Nat) := [("ColumnsLevelled", "SETTING_FIRST", "[I", 405), ("ColumnsLevelled", "SETTING_LEAST", "[I", 406), ("ColumnsLevelled", "SETTING_MOST", "[I", 407)]
def qm_K (G : qm_G) (U : State) : Prop := va_K G.2.1 qm_cl (qm_tys G) U ∧ ∀ w ∈ qm_nw, va_Nw w U
/-- the text of the class: its place 408, its bytes at 426 -/
def qm_S (G : qm_G) (A : Nat → Prop) (U : State) (H : Heap) : Prop :=
  vk_S 1 qs_len qs_byt (fun i => G.1 (408 + i)) (fun i => G.1 (426 + i)) A U H ∧ (∀ r ∈ qs_all, vk_R r.1 r.2.1 r.2.2.1 (G.1 r.2.2.2) U) ∧ va_Z "java/lang/String" "COMPACT_STRINGS" "Z" (.int 1) A U H ∧ va_Zq "jdk/internal/util/Preconditions" "SIOOBE_FORMATTER" "Ljava/util/function/BiFunction;" A U H ∧ ∀ i, 405 ≤ i → i < 408 → va_T .int (G.1 i) 8 (fun j => .int (qm_sv i j)) A U H
def qm_Z (G : qm_G) (A : Nat → Prop) (U : State) (H : Heap) : Prop := (∀ q ∈ qm_sts, va_Z q.1 q.2.1 q.2.2.1 (.ref (G.1 q.2.2.2)) A U H) ∧ qm_S G A U H
def qm_A (G : qm_G) (sz : Nat) : Nat → Prop := fun q => (∃ i, i < qm_N ∧ q = G.1 i) ∨ sz ≤ q
/-- the addresses of what is written are apart from all others -/
def qm_GI (G : qm_G) : Prop := ∀ i a : Nat, (qm_kd i).1 ≠ 0 → a < qm_N → G.1 i = G.1 a → i = a
abbrev qm_I : Type := Nat × Instr × Nat × Nat
def qm_nth : List qm_I → Nat → Option qm_I
  | [], _ => none
  | a :: _, 0 => some a
  | _ :: l, k + 1 => qm_nth l k
def qm_D (b : ByteArray) (l : List qm_I) : Prop := ∀ (k : Nat) (q : qm_I), qm_nth l k = some q → decode b q.1 = .ok (q.2.1, q.2.2.1) ∧ q.1 + q.2.2.1 = q.2.2.2
def qm_Db (b : ByteArray) (l : List qm_I) : Bool := l.all (fun q => decide (decode b q.1 = .ok (q.2.1, q.2.2.1)) && decide (q.1 + q.2.2.1 = q.2.2.2))
theorem qm_D_of : ∀ {b : ByteArray} {l : List qm_I}, qm_Db b l = true → qm_D b l
  | _, [], _ => fun k q h => by cases k <;> cases h
  | b, a :: l, h => by
    unfold qm_Db at h
    rw [List.all_cons, Bool.and_eq_true, Bool.and_eq_true] at h
    intro k q hq
    cases k with
    | zero =>
      have e : a = q := Option.some.inj hq
      subst e
      exact ⟨of_decide_eq_true h.1.1, of_decide_eq_true h.1.2⟩
    | succ k => exact qm_D_of (b := b) (l := l) h.2 k q hq
/-- what holds in a method -/
def qm_ok (X : qm_X) (own : String) (cc : ByteArray) (nL f lo : Nat) (l : List qm_I) : Prop :=
  ((qx_p X).tables.exec = Jvm.exec ∧ (qx_c X).code = cc ∧ (qx_c X).maxLocals = nL ∧ (qx_s X).vm.findClass own = some (qx_m X).cls ∧ ∀ w ∈ qm_tb, w.before (qx_args X) (qx_s X) = true) ∧
  qm_D cc l ∧ (qx_meth X).locks = false ∧ qm_K (qx_G X) (qx_s X) ∧ qm_Z (qx_G X) (qx_A X) (qx_s X) (qx_s X).heap ∧ qm_GI (qx_G X) ∧
  ((∀ i, i < qm_N → qx_A X (qx_ad X i)) ∧ ∀ q, (qx_s X).heap.size ≤ q → qx_A X q) ∧ (qx_R X).frames = f ∧ (qx_R X).locals = lo ∧ qx_cells X ≤ (qx_R X).cells ∧ qx_slots X ≤ (qx_R X).slots
/-- the places of a method's frame -/
def qm_L (ls : Array Slot) (n : Nat) (ρ : List (Option Value)) : Prop := ls.size = n ∧ lv_wf ls ∧ ∀ (i : Nat) (v : Value), ρ[i]? = some (some v) → ls[i]? = some (.val v) ∧ v.category = 1
def qm_J (X : qm_X) (pc : Nat) (ρ : List (Option Value)) (st : List Value) (σ : qm_Mem) : Prop :=
  ∀ (H : Heap) (locs : List Loc) (ls : Array Slot), qm_H (qx_G X) σ H → va_S (qx_A X) (qx_s X).heap H locs → qm_L ls (qx_c X).maxLocals ρ → qx_W X H locs (F0 (qx_m X) pc ls st)
def qm_B {α : Type} (X : qm_X) (m : qm_M α) (pc : Nat) (ρ : List (Option Value)) (st : List Value) (κ : α → qm_Mem → Prop) : Prop :=
  ∀ (σ : qm_Mem) (a : α) (σ' : qm_Mem), m σ = some (a, σ') → κ a σ' → qm_J X pc ρ st σ
/-- fewer places known -/
def qm_wk : List (Option Value) → List (Option Value) → Prop
  | _, [] => True
  | [], _ :: _ => False
  | a :: as, b :: bs => (b = none ∨ a = b) ∧ qm_wk as bs
theorem qm_wk_at : ∀ {as bs : List (Option Value)}, qm_wk as bs → ∀ (i : Nat) (v : Value), bs[i]? = some (some v) → as[i]? = some (some v)
  | _, [], _, i, v, h => by simp at h
  | [], _ :: _, h, _, _, _ => by cases h
  | a :: as, b :: bs, h, i, v, hv => by
    cases i with
    | zero =>
      simp only [List.getElem?_cons_zero] at hv ⊢
      rcases h.1 with e | e
      · rw [e] at hv; cases hv
      · rw [e]; exact hv
    | succ i =>
      simp only [List.getElem?_cons_succ] at hv ⊢
      exact qm_wk_at h.2 i v hv
theorem qm_L.wk {ls : Array Slot} {n : Nat} {as bs : List (Option Value)} (h : qm_L ls n as) (hw : qm_wk as bs) : qm_L ls n bs := ⟨h.1, h.2.1, fun i v hv => h.2.2 i v (qm_wk_at hw i v hv)⟩
theorem qm_L.at {ls : Array Slot} {n : Nat} {ρ : List (Option Value)} (h : qm_L ls n ρ) {i : Nat} {v : Value} (hv : ρ[i]? = some (some v)) : ls[i]? = some (.val v) := (h.2.2 i v hv).1
theorem qm_L.has {ls : Array Slot} {n : Nat} {ρ : List (Option Value)} (h : qm_L ls n ρ) : lv_has ls n [] := ⟨h.1, h.2.1, fun q hq => by cases hq⟩
theorem qm_L.has1 {ls : Array Slot} {n : Nat} {ρ : List (Option Value)} (h : qm_L ls n ρ) {i : Nat} {v : Value} (hv : ρ[i]? = some (some v)) : lv_has ls n [(i, v)] := ⟨h.1, h.2.1, fun q hq => by
  rw [List.mem_singleton.mp hq]
  exact (h.2.2 i v hv).1⟩
/-- storing keeps the rest -/
theorem qm_L.put {ls : Array Slot} {n : Nat} {ρ : List (Option Value)} (h : qm_L ls n ρ) {i : Nat} {v : Value} (hi : i < n) (hc : v.category = 1) : ∃ ls', storeLocals ls i v = some ls' ∧ qm_L ls' n (ρ.set i (some v)) := by
  obtain ⟨ls', h1, h2⟩ := lv_store1 h.has hi hc
  refine ⟨ls', h1, h2.1, h2.2.1, fun j w hw => ?_⟩
  by_cases e : j = i
  · subst e
    have hl : j < ρ.length := by
      rcases Nat.lt_or_ge j ρ.length with q | q
      · exact q
      · rw [List.getElem?_eq_none (by simpa using q)] at hw; cases hw
    rw [List.getElem?_set_self hl] at hw
    cases hw
    exact ⟨h2.2.2 (j, v) List.mem_cons_self, hc⟩
  · rw [List.getElem?_set_ne (fun q => e q.symm)] at hw
    obtain ⟨-, hcw⟩ := h.2.2 j w hw
    obtain ⟨l2, g1, g2⟩ := lv_store1 (h.has1 hw) hi hc
    have el : l2 = ls' := Option.some.inj (g1.symm.trans h1)
    subst el
    refine ⟨g2.2.2 (j, w) (List.mem_cons_of_mem _ (List.mem_filter.mpr ⟨List.mem_singleton.mpr rfl, ?_⟩)), hcw⟩
    simp [e, hcw]
end
section
section QB
variable {X : qm_X} {own : String} {cc : ByteArray} {nL f lo : Nat} {il : List qm_I}
theorem qk_ex (hX : qm_ok X own cc nL f lo il) : (qx_p X).tables.exec = Jvm.exec := hX.1.1
theorem qk_by (hX : qm_ok X own cc nL f lo il) : (qx_c X).code = cc := hX.1.2.1
theorem qk_ml (hX : qm_ok X own cc nL f lo il) : (qx_c X).maxLocals = nL := hX.1.2.2.1
theorem qk_ow (hX : qm_ok X own cc nL f lo il) : (qx_s X).vm.findClass own = some (qx_m X).cls := hX.1.2.2.2.1
theorem qk_ts (hX : qm_ok X own cc nL f lo il) : ∀ w ∈ qm_tb, w.before (qx_args X) (qx_s X) = true := hX.1.2.2.2.2
theorem qk_d (hX : qm_ok X own cc nL f lo il) {k pc n pc' : Nat} {i : Instr} (h : qm_nth il k = some (pc, i, n, pc')) : decode cc pc = .ok (i, n) := (hX.2.1 k _ h).1
theorem qk_n (hX : qm_ok X own cc nL f lo il) {k pc pc' n : Nat} {i : Instr} (h : qm_nth il k = some (pc, i, n, pc')) : pc' = pc + n := (hX.2.1 k _ h).2.symm
variable {α : Type} {m : qm_M α} {pc pc' : Nat} {ρ : List (Option Value)} {st : List Value} {κ : α → qm_Mem → Prop}
/-- a step that neither reads nor writes the cells -/
theorem qb_0 {ρ' : List (Option Value)} {st' : List Value} (hw : ∀ (H : Heap) (locs : List Loc) (ls : Array Slot), qm_L ls (qx_c X).maxLocals ρ → (∀ ls', qm_L ls' (qx_c X).maxLocals ρ' → qx_W X H locs (F0 (qx_m X) pc' ls' st')) → qx_W X H locs (F0 (qx_m X) pc ls st)) (h : qm_B X m pc' ρ' st' κ) : qm_B X m pc ρ st κ :=
  fun σ a σ' h1 h2 H locs ls hH hS hL => hw H locs ls hL (fun ls' hL' => h σ a σ' h1 h2 H locs ls' hH hS hL')
theorem qb_wk {ρ' : List (Option Value)} (hw : qm_wk ρ ρ') (h : qm_B X m pc ρ' st κ) : qm_B X m pc ρ st κ :=
  fun σ a σ' h1 h2 H locs ls hH hS hL => h σ a σ' h1 h2 H locs ls hH hS (hL.wk hw)
theorem qj_wk {ρ' : List (Option Value)} {σ : qm_Mem} (hw : qm_wk ρ ρ') (h : qm_J X pc ρ' st σ) : qm_J X pc ρ st σ :=
  fun H locs ls hH hS hL => h H locs ls hH hS (hL.wk hw)
/-- the way's end -/
theorem qb_exit {a : α} (h : ∀ σ, κ a σ → qm_J X pc ρ st σ) : qm_B X (mP a) pc ρ st κ := by
  intro σ b σ' h1 h2
  cases h1
  exact h σ h2
theorem qj_goto (hX : qm_ok X own cc nL f lo il) (k : Nat) {off : Int} {n tgt : Nat} {σ : qm_Mem} (hd : qm_nth il k = some (pc, .goto off, 3, n)) (ht : (pc : Int) + off = (tgt : Int)) (h : qm_J X tgt ρ st σ) : qm_J X pc ρ st σ :=
  fun H locs ls hH hS hL => lv_goto (qk_ex hX) (qk_by hX) (qk_d hX hd) ht (h H locs ls hH hS hL)
theorem qb_goto (hX : qm_ok X own cc nL f lo il) (k : Nat) {off : Int} {n tgt : Nat} (hd : qm_nth il k = some (pc, .goto off, 3, n)) (ht : (pc : Int) + off = (tgt : Int)) (h : qm_B X m tgt ρ st κ) : qm_B X m pc ρ st κ :=
  qb_0 (fun H locs ls hL hh => lv_goto (qk_ex hX) (qk_by hX) (qk_d hX hd) ht (hh ls hL)) h
/-- a branching computation, then what follows where its ways meet -/
theorem qb_join {S : Type} {m : qm_M S} {g : S → qm_M α} (lp : Nat) (ρ' : S → List (Option Value)) (st' : S → List Value) (h1 : qm_B X m pc ρ st (fun s σ1 => qm_J X lp (ρ' s) (st' s) σ1)) (h2 : ∀ s, qm_B X (g s) lp (ρ' s) (st' s) κ) : qm_B X (mB m g) pc ρ st κ := by
  intro σ a σ' h hk
  obtain ⟨s, σ1, e1, e2⟩ := mB_some h
  exact h1 σ s σ1 e1 (h2 s σ1 a σ' e2 hk)
theorem qb_join2 {S : Type} {m : qm_M (S ⊕ α)} {g : S → qm_M α} (lp : Nat) (ρ' : S → List (Option Value)) (st' : S → List Value) (h1 : qm_B X m pc ρ st (fun r σ1 => Sum.elim (fun s => qm_J X lp (ρ' s) (st' s) σ1) (fun o => κ o σ1) r)) (h2 : ∀ s, qm_B X (g s) lp (ρ' s) (st' s) κ) : qm_B X (mB m (Sum.elim g mP)) pc ρ st κ := by
  intro σ a σ' h hk
  obtain ⟨s, σ1, e1, e2⟩ := mB_some h
  refine h1 σ s σ1 e1 ?_
  cases s with
  | inl s => exact h2 s σ1 a σ' e2 hk
  | inr o =>
    cases e2
    exact hk
theorem qb_loop {S : Type} {step : S → qm_M (S ⊕ α)} (s0 : S) (ρ' : S → List (Option Value)) (h : ∀ s, qm_B X (step s) pc (ρ' s) st (fun r σ1 => Sum.elim (fun s' => qm_J X pc (ρ' s') st σ1) (fun o => κ o σ1) r)) : qm_B X (mW step s0) pc (ρ' s0) st κ := by
  intro σ a σ' hm hk
  obtain ⟨n, hn⟩ := mW_iff.mp hm
  clear hm
  induction n generalizing s0 σ with
  | zero => cases hn
  | succ n ih =>
    obtain ⟨r, σ1, e1, e2⟩ := mB_some hn
    refine h s0 σ r σ1 e1 ?_
    cases r with
    | inl s' => exact ih s' σ1 e2
    | inr o =>
      cases e2
      exact hk
/-- a value gets a name -/
theorem qb_let {x : Int32} {g : Int32 → qm_M α} {P : Int32 → Prop} (hp : P x) (h : ∀ y, P y → qm_B X (g y) pc ρ st κ) : qm_B X (mB (mP x) g) pc ρ st κ := h x hp
theorem qb_iconst (hX : qm_ok X own cc nL f lo il) (k : Nat) {n : Int} (v : Int32) (hd : qm_nth il k = some (pc, .iconst n, 1, pc')) (hv : Int32.ofInt n = v) (h : qm_B X m pc' ρ (.int v :: st) κ) : qm_B X m pc ρ st κ := by
  cases qk_n hX hd
  exact qb_0 (fun H locs ls hL hh => lv_iconst (qk_ex hX) (qk_by hX) (qk_d hX hd) hv (hh ls hL)) h
theorem qb_bipush (hX : qm_ok X own cc nL f lo il) (k : Nat) {n : Int} (v : Int32) (hd : qm_nth il k = some (pc, .bipush n, 2, pc')) (hv : (Int8.ofInt n).toInt32 = v) (h : qm_B X m pc' ρ (.int v :: st) κ) : qm_B X m pc ρ st κ := by
  cases qk_n hX hd
  exact qb_0 (fun H locs ls hL hh => lv_bipush (qk_ex hX) (qk_by hX) (qk_d hX hd) hv (hh ls hL)) h
theorem qb_sipush (hX : qm_ok X own cc nL f lo il) (k : Nat) {n : Int} (v : Int32) (hd : qm_nth il k = some (pc, .sipush n, 3, pc')) (hv : (Int16.ofInt n).toInt32 = v) (h : qm_B X m pc' ρ (.int v :: st) κ) : qm_B X m pc ρ st κ := by
  cases qk_n hX hd
  exact qb_0 (fun H locs ls hL hh => lv_sipush (qk_ex hX) (qk_by hX) (qk_d hX hd) hv (hh ls hL)) h
theorem qb_ldc (hX : qm_ok X own cc nL f lo il) (k : Nat) {n : Nat} (v : Int32) (hd : qm_nth il k = some (pc, .ldc n, 2, pc')) (hw : Cond.constant own n v ∈ qm_tb) (h : qm_B X m pc' ρ (.int v :: st) κ) : qm_B X m pc ρ st κ := by
  cases qk_n hX hd
  exact qb_0 (fun H locs ls hL hh => lv_ldc (qk_ex hX) (qk_by hX) (qk_ow hX) (qk_ts hX _ hw) (qk_d hX hd) (hh ls hL)) h
theorem qb_ldcw (hX : qm_ok X own cc nL f lo il) (k : Nat) {n : Nat} (v : Int32) (hd : qm_nth il k = some (pc, .ldc_w n, 3, pc')) (hw : Cond.constant own n v ∈ qm_tb) (h : qm_B X m pc' ρ (.int v :: st) κ) : qm_B X m pc ρ st κ := by
  cases qk_n hX hd
  exact qb_0 (fun H locs ls hL hh => lv_ldcw (qk_ex hX) (qk_by hX) (qk_ow hX) (qk_ts hX _ hw) (qk_d hX hd) (hh ls hL)) h
theorem qb_iload_n (hX : qm_ok X own cc nL f lo il) (k : Nat) {i : Fin 4} {x : Int32} (hd : qm_nth il k = some (pc, .iload_n i, 1, pc')) (hr : ρ[(i : Nat)]? = some (some (.int x))) (h : qm_B X m pc' ρ (.int x :: st) κ) : qm_B X m pc ρ st κ := by
  cases qk_n hX hd
  exact qb_0 (fun H locs ls hL hh => lv_iload_n (qk_ex hX) (qk_by hX) (qk_d hX hd) rfl (hL.at hr) (hh ls hL)) h
theorem qb_iload (hX : qm_ok X own cc nL f lo il) (k : Nat) {i : Nat} {x : Int32} (hd : qm_nth il k = some (pc, .iload i, 2, pc')) (hr : ρ[i]? = some (some (.int x))) (h : qm_B X m pc' ρ (.int x :: st) κ) : qm_B X m pc ρ st κ := by
  cases qk_n hX hd
  exact qb_0 (fun H locs ls hL hh => lv_iload (qk_ex hX) (qk_by hX) (qk_d hX hd) (hL.at hr) (hh ls hL)) h
theorem qb_aload_n (hX : qm_ok X own cc nL f lo il) (k : Nat) {i : Fin 4} {x : Nat} (hd : qm_nth il k = some (pc, .aload_n i, 1, pc')) (hr : ρ[(i : Nat)]? = some (some (.ref x))) (h : qm_B X m pc' ρ (.ref x :: st) κ) : qm_B X m pc ρ st κ := by
  cases qk_n hX hd
  exact qb_0 (fun H locs ls hL hh => lv_aload_n (qk_ex hX) (qk_by hX) (qk_d hX hd) rfl (hL.at hr) (hh ls hL)) h
theorem qb_aload (hX : qm_ok X own cc nL f lo il) (k : Nat) {i : Nat} {x : Nat} (hd : qm_nth il k = some (pc, .aload i, 2, pc')) (hr : ρ[i]? = some (some (.ref x))) (h : qm_B X m pc' ρ (.ref x :: st) κ) : qm_B X m pc ρ st κ := by
  cases qk_n hX hd
  exact qb_0 (fun H locs ls hL hh => lv_aload (qk_ex hX) (qk_by hX) (qk_d hX hd) (hL.at hr) (hh ls hL)) h
/-- any store into a place of the frame -/
theorem qb_st {i : Nat} {v : Value} (hX : qm_ok X own cc nL f lo il) (hi : i < nL) (hc : v.category = 1) (hw : ∀ (H : Heap) (locs : List Loc) (ls ls' : Array Slot), storeLocals ls i v = some ls' → qx_W X H locs (F0 (qx_m X) pc' ls' st) → qx_W X H locs (F0 (qx_m X) pc ls (v :: st))) (h : qm_B X m pc' (ρ.set i (some v)) st κ) : qm_B X m pc ρ (v :: st) κ :=
  qb_0 (fun H locs ls hL hh => by
    obtain ⟨ls', e1, e2⟩ := hL.put (by rw [qk_ml hX]; exact hi) hc
    exact hw H locs ls ls' e1 (hh ls' e2)) h
theorem qb_istore_n (hX : qm_ok X own cc nL f lo il) (k : Nat) {i : Fin 4} {x : Int32} (ρ' : List (Option Value)) (hd : qm_nth il k = some (pc, .istore_n i, 1, pc')) (hi : (i : Nat) < nL) (hr : ρ.set (i : Nat) (some (.int x)) = ρ') (h : qm_B X m pc' ρ' st κ) : qm_B X m pc ρ (.int x :: st) κ := by
  cases qk_n hX hd
  subst hr
  refine qb_st hX hi rfl (fun H locs ls ls' e h => ?_) h
  intro T hT Y
  obtain ⟨t, a, b⟩ := h T hT Y
  refine ⟨t, ?_, b⟩
  have hd' := qk_d hX hd
  jvm_step Y.here [Y.here.top, ↓top_set Y.here.top, qk_ex hX, qk_by hX, hd', e]
  exact a
theorem qb_istore (hX : qm_ok X own cc nL f lo il) (k : Nat) {i : Nat} {x : Int32} (ρ' : List (Option Value)) (hd : qm_nth il k = some (pc, .istore i, 2, pc')) (hi : i < nL) (hr : ρ.set i (some (.int x)) = ρ') (h : qm_B X m pc' ρ' st κ) : qm_B X m pc ρ (.int x :: st) κ := by
  cases qk_n hX hd
  subst hr
  refine qb_st hX hi rfl (fun H locs ls ls' e h => ?_) h
  intro T hT Y
  obtain ⟨t, a, b⟩ := h T hT Y
  refine ⟨t, ?_, b⟩
  have hd' := qk_d hX hd
  jvm_step Y.here [Y.here.top, ↓top_set Y.here.top, qk_ex hX, qk_by hX, hd', e]
  exact a
theorem qb_astore_n (hX : qm_ok X own cc nL f lo il) (k : Nat) {i : Fin 4} {x : Nat} (ρ' : List (Option Value)) (hd : qm_nth il k = some (pc, .astore_n i, 1, pc')) (hi : (i : Nat) < nL) (hr : ρ.set (i : Nat) (some (.ref x)) = ρ') (h : qm_B X m pc' ρ' st κ) : qm_B X m pc ρ (.ref x :: st) κ := by
  cases qk_n hX hd
  subst hr
  refine qb_st hX hi rfl (fun H locs ls ls' e h => ?_) h
  intro T hT Y
  obtain ⟨t, a, b⟩ := h T hT Y
  refine ⟨t, ?_, b⟩
  have hd' := qk_d hX hd
  jvm_step Y.here [Y.here.top, ↓top_set Y.here.top, qk_ex hX, qk_by hX, hd', e]
  exact ⟨rfl, a⟩
theorem qb_astore (hX : qm_ok X own cc nL f lo il) (k : Nat) {i : Nat} {x : Nat} (ρ' : List (Option Value)) (hd : qm_nth il k = some (pc, .astore i, 2, pc')) (hi : i < nL) (hr : ρ.set i (some (.ref x)) = ρ') (h : qm_B X m pc' ρ' st κ) : qm_B X m pc ρ (.ref x :: st) κ := by
  cases qk_n hX hd
  subst hr
  refine qb_st hX hi rfl (fun H locs ls ls' e h => ?_) h
  intro T hT Y
  obtain ⟨t, a, b⟩ := h T hT Y
  refine ⟨t, ?_, b⟩
  have hd' := qk_d hX hd
  jvm_step Y.here [Y.here.top, ↓top_set Y.here.top, qk_ex hX, qk_by hX, hd', e]
  exact ⟨rfl, a⟩
theorem qb_iinc (hX : qm_ok X own cc nL f lo il) (k : Nat) {i : Nat} {n : Int} {x : Int32} {g : Int32 → qm_M α} (d : Int32) (ρ' : Int32 → List (Option Value)) (hd : qm_nth il k = some (pc, .iinc i n, 3, pc')) (hn : Int32.ofInt n = d) (hi : i < nL) (hx : ρ[i]? = some (some (.int x))) (hr : ∀ y, ρ.set i (some (.int y)) = ρ' y) (h : ∀ y, qm_B X (g y) pc' (ρ' y) st κ) : qm_B X (mB (mP (x + d)) g) pc ρ st κ := by
  cases qk_n hX hd
  have h := h (x + d)
  rw [← hr] at h
  show qm_B X (g (x + d)) pc ρ st κ
  refine qb_0 (fun H locs ls hL hh => ?_) h
  obtain ⟨ls', e1, e2⟩ := hL.put (by rw [qk_ml hX]; exact hi) (v := .int (x + d)) rfl
  have hd' := qk_d hX hd
  have hg := hL.at hx
  intro T hT Y
  obtain ⟨t, a, b⟩ := hh ls' e2 T hT Y
  refine ⟨t, ?_, b⟩
  jvm_step Y.here [Y.here.top, ↓top_set Y.here.top, qk_ex hX, qk_by hX, hd', hg, hn, e1]
  exact a
end QB
end
section
section QB
variable {X : qm_X} {own : String} {cc : ByteArray} {nL f lo : Nat} {il : List qm_I}
variable {α : Type} {m : qm_M α} {pc pc' : Nat} {ρ : List (Option Value)} {st : List Value} {κ : α → qm_Mem → Prop}
theorem qb_iadd (hX : qm_ok X own cc nL f lo il) (k : Nat) {x y : Int32} (hd : qm_nth il k = some (pc, .iadd, 1, pc')) (h : qm_B X m pc' ρ (.int (x + y) :: st) κ) : qm_B X m pc ρ (.int y :: .int x :: st) κ := by
  cases qk_n hX hd
  exact qb_0 (fun H locs ls hL hh => lv_iadd (qk_ex hX) (qk_by hX) (qk_d hX hd) (hh ls hL)) h
theorem qb_isub (hX : qm_ok X own cc nL f lo il) (k : Nat) {x y : Int32} (hd : qm_nth il k = some (pc, .isub, 1, pc')) (h : qm_B X m pc' ρ (.int (x - y) :: st) κ) : qm_B X m pc ρ (.int y :: .int x :: st) κ := by
  cases qk_n hX hd
  exact qb_0 (fun H locs ls hL hh => lv_isub (qk_ex hX) (qk_by hX) (qk_d hX hd) (hh ls hL)) h
theorem qb_imul (hX : qm_ok X own cc nL f lo il) (k : Nat) {x y : Int32} (hd : qm_nth il k = some (pc, .imul, 1, pc')) (h : qm_B X m pc' ρ (.int (x * y) :: st) κ) : qm_B X m pc ρ (.int y :: .int x :: st) κ := by
  cases qk_n hX hd
  exact qb_0 (fun H locs ls hL hh => lv_imul (qk_ex hX) (qk_by hX) (qk_d hX hd) (hh ls hL)) h
theorem qb_iand (hX : qm_ok X own cc nL f lo il) (k : Nat) {x y : Int32} (hd : qm_nth il k = some (pc, .iand, 1, pc')) (h : qm_B X m pc' ρ (.int (x &&& y) :: st) κ) : qm_B X m pc ρ (.int y :: .int x :: st) κ := by
  cases qk_n hX hd
  exact qb_0 (fun H locs ls hL hh => lv_iand (qk_ex hX) (qk_by hX) (qk_d hX hd) (hh ls hL)) h
theorem qb_ior (hX : qm_ok X own cc nL f lo il) (k : Nat) {x y : Int32} (hd : qm_nth il k = some (pc, .ior, 1, pc')) (h : qm_B X m pc' ρ (.int (x ||| y) :: st) κ) : qm_B X m pc ρ (.int y :: .int x :: st) κ := by
  cases qk_n hX hd
  exact qb_0 (fun H locs ls hL hh => lv_ior (qk_ex hX) (qk_by hX) (qk_d hX hd) (hh ls hL)) h
theorem qb_ishl (hX : qm_ok X own cc nL f lo il) (k : Nat) {x y : Int32} (hd : qm_nth il k = some (pc, .ishl, 1, pc')) (h : qm_B X m pc' ρ (.int (x <<< (y &&& 31)) :: st) κ) : qm_B X m pc ρ (.int y :: .int x :: st) κ := by
  cases qk_n hX hd
  exact qb_0 (fun H locs ls hL hh => lv_ishl (qk_ex hX) (qk_by hX) (qk_d hX hd) (hh ls hL)) h
theorem qb_ishr (hX : qm_ok X own cc nL f lo il) (k : Nat) {x y : Int32} (hd : qm_nth il k = some (pc, .ishr, 1, pc')) (h : qm_B X m pc' ρ (.int (x >>> (y &&& 31)) :: st) κ) : qm_B X m pc ρ (.int y :: .int x :: st) κ := by
  cases qk_n hX hd
  exact qb_0 (fun H locs ls hL hh => lv_ishr (qk_ex hX) (qk_by hX) (qk_d hX hd) (hh ls hL)) h
theorem qb_iushr (hX : qm_ok X own cc nL f lo il) (k : Nat) {x y : Int32} (hd : qm_nth il k = some (pc, .iushr, 1, pc')) (h : qm_B X m pc' ρ (.int ((x.toUInt32 >>> (y.toUInt32 &&& Int32.toUInt32 31)).toInt32) :: st) κ) : qm_B X m pc ρ (.int y :: .int x :: st) κ := by
  cases qk_n hX hd
  exact qb_0 (fun H locs ls hL hh => lv_iushr (qk_ex hX) (qk_by hX) (qk_d hX hd) rfl (hh ls hL)) h
theorem qb_i2b (hX : qm_ok X own cc nL f lo il) (k : Nat) {x : Int32} (hd : qm_nth il k = some (pc, .i2b, 1, pc')) (h : qm_B X m pc' ρ (.int x.toInt8.toInt32 :: st) κ) : qm_B X m pc ρ (.int x :: st) κ := by
  cases qk_n hX hd
  exact qb_0 (fun H locs ls hL hh => lv_i2b (qk_ex hX) (qk_by hX) (qk_d hX hd) rfl (hh ls hL)) h
theorem qb_dup (hX : qm_ok X own cc nL f lo il) (k : Nat) {v : Value} (hd : qm_nth il k = some (pc, .dup, 1, pc')) (hv : v.category = 1) (h : qm_B X m pc' ρ (v :: v :: st) κ) : qm_B X m pc ρ (v :: st) κ := by
  cases qk_n hX hd
  exact qb_0 (fun H locs ls hL hh => lv_dup (qk_ex hX) (qk_by hX) (qk_d hX hd) hv (hh ls hL)) h
theorem qb_dup2 (hX : qm_ok X own cc nL f lo il) (k : Nat) {v w : Value} (hd : qm_nth il k = some (pc, .dup2, 1, pc')) (hv : v.category = 1) (hw : w.category = 1) (h : qm_B X m pc' ρ (v :: w :: v :: w :: st) κ) : qm_B X m pc ρ (v :: w :: st) κ := by
  cases qk_n hX hd
  exact qb_0 (fun H locs ls hL hh => lv_dup2_11 (qk_ex hX) (qk_by hX) (qk_d hX hd) hv hw (hh ls hL)) h
theorem qb_pop (hX : qm_ok X own cc nL f lo il) (k : Nat) {v : Value} (hd : qm_nth il k = some (pc, .pop, 1, pc')) (hv : v.category = 1) (h : qm_B X m pc' ρ st κ) : qm_B X m pc ρ (v :: st) κ := by
  cases qk_n hX hd
  exact qb_0 (fun H locs ls hL hh => lv_pop (qk_ex hX) (qk_by hX) (qk_d hX hd) hv (hh ls hL)) h
/-- divisions -/
theorem qb_idiv (hX : qm_ok X own cc nL f lo il) (k : Nat) {x y : Int32} {g : Int32 → qm_M α} (hd : qm_nth il k = some (pc, .idiv, 1, pc')) (h : ∀ z, qm_B X (g z) pc' ρ (.int z :: st) κ) : qm_B X (mB (mDv x y) g) pc ρ (.int y :: .int x :: st) κ := by
  cases qk_n hX hd
  intro σ a σ' h1 h2 H locs ls hH hS hL
  obtain ⟨z, σ1, e1, e2⟩ := mB_some h1
  unfold mDv at e1
  split at e1
  · cases e1
  · rename_i hy
    cases e1
    exact lv_idiv (qk_ex hX) (qk_by hX) (qk_d hX hd) hy (h _ σ a σ' e2 h2 H locs ls hH hS hL)
theorem qb_irem (hX : qm_ok X own cc nL f lo il) (k : Nat) {x y : Int32} {g : Int32 → qm_M α} (hd : qm_nth il k = some (pc, .irem, 1, pc')) (h : ∀ z, qm_B X (g z) pc' ρ (.int z :: st) κ) : qm_B X (mB (mRm x y) g) pc ρ (.int y :: .int x :: st) κ := by
  cases qk_n hX hd
  intro σ a σ' h1 h2 H locs ls hH hS hL
  obtain ⟨z, σ1, e1, e2⟩ := mB_some h1
  unfold mRm at e1
  split at e1
  · cases e1
  · rename_i hy
    cases e1
    exact lv_irem (qk_ex hX) (qk_by hX) (qk_d hX hd) hy (h _ σ a σ' e2 h2 H locs ls hH hS hL)
theorem qb_ite {c : Prop} {hc : Decidable c} {m1 m2 : qm_M α} (h1 : c → qm_B X m1 pc ρ st κ) (h2 : ¬ c → qm_B X m2 pc ρ st κ) : qm_B X (@ite _ c hc m1 m2) pc ρ st κ := by
  split
  · exact h1 (by assumption)
  · exact h2 (by assumption)
theorem qb_ifeq (hX : qm_ok X own cc nL f lo il) (k : Nat) {x : Int32} {m1 m2 : qm_M α} {off : Int} (tgt : Nat) (hd : qm_nth il k = some (pc, .ifCond .eq off, 3, pc')) (ht : (pc : Int) + off = (tgt : Int)) (h1 : qm_B X m1 tgt ρ st κ) (h2 : qm_B X m2 pc' ρ st κ) : qm_B X (if x = 0 then m1 else m2) pc ρ (.int x :: st) κ := by
  cases qk_n hX hd
  refine qb_ite (fun c => ?_) (fun c => ?_)
  · exact qb_0 (fun H locs ls hL hh => lv_if_eq (qk_ex hX) (qk_by hX) (qk_d hX hd) ht (fun _ => hh ls hL) (fun q => by first | exact absurd c q | exact absurd q c | (simp at c q; exact absurd c (by first | exact Int32.not_le.mpr q | exact Int32.not_lt.mpr q)))) h1
  · exact qb_0 (fun H locs ls hL hh => lv_if_eq (qk_ex hX) (qk_by hX) (qk_d hX hd) ht (fun q => by first | exact absurd q c | exact absurd c q | (simp at c q; exact absurd q (by first | exact Int32.not_le.mpr c | exact Int32.not_lt.mpr c))) (fun _ => hh ls hL)) h2
theorem qb_ifne (hX : qm_ok X own cc nL f lo il) (k : Nat) {x : Int32} {m1 m2 : qm_M α} {off : Int} (tgt : Nat) (hd : qm_nth il k = some (pc, .ifCond .ne off, 3, pc')) (ht : (pc : Int) + off = (tgt : Int)) (h1 : qm_B X m1 tgt ρ st κ) (h2 : qm_B X m2 pc' ρ st κ) : qm_B X (if ¬ x = 0 then m1 else m2) pc ρ (.int x :: st) κ := by
  cases qk_n hX hd
  refine qb_ite (fun c => ?_) (fun c => ?_)
  · exact qb_0 (fun H locs ls hL hh => lv_if_ne (qk_ex hX) (qk_by hX) (qk_d hX hd) ht (fun _ => hh ls hL) (fun q => by first | exact absurd c q | exact absurd q c | (simp at c q; exact absurd c (by first | exact Int32.not_le.mpr q | exact Int32.not_lt.mpr q)))) h1
  · exact qb_0 (fun H locs ls hL hh => lv_if_ne (qk_ex hX) (qk_by hX) (qk_d hX hd) ht (fun q => by first | exact absurd q c | exact absurd c q | (simp at c q; exact absurd q (by first | exact Int32.not_le.mpr c | exact Int32.not_lt.mpr c))) (fun _ => hh ls hL)) h2
theorem qb_iflt (hX : qm_ok X own cc nL f lo il) (k : Nat) {x : Int32} {m1 m2 : qm_M α} {off : Int} (tgt : Nat) (hd : qm_nth il k = some (pc, .ifCond .lt off, 3, pc')) (ht : (pc : Int) + off = (tgt : Int)) (h1 : qm_B X m1 tgt ρ st κ) (h2 : qm_B X m2 pc' ρ st κ) : qm_B X (if x < 0 then m1 else m2) pc ρ (.int x :: st) κ := by
  cases qk_n hX hd
  refine qb_ite (fun c => ?_) (fun c => ?_)
  · exact qb_0 (fun H locs ls hL hh => lv_if_lt (qk_ex hX) (qk_by hX) (qk_d hX hd) ht (fun _ => hh ls hL) (fun q => by first | exact absurd c q | exact absurd q c | (simp at c q; exact absurd c (by first | exact Int32.not_le.mpr q | exact Int32.not_lt.mpr q)))) h1
  · exact qb_0 (fun H locs ls hL hh => lv_if_lt (qk_ex hX) (qk_by hX) (qk_d hX hd) ht (fun q => by first | exact absurd q c | exact absurd c q | (simp at c q; exact absurd q (by first | exact Int32.not_le.mpr c | exact Int32.not_lt.mpr c))) (fun _ => hh ls hL)) h2
theorem qb_ifge (hX : qm_ok X own cc nL f lo il) (k : Nat) {x : Int32} {m1 m2 : qm_M α} {off : Int} (tgt : Nat) (hd : qm_nth il k = some (pc, .ifCond .ge off, 3, pc')) (ht : (pc : Int) + off = (tgt : Int)) (h1 : qm_B X m1 tgt ρ st κ) (h2 : qm_B X m2 pc' ρ st κ) : qm_B X (if 0 ≤ x then m1 else m2) pc ρ (.int x :: st) κ := by
  cases qk_n hX hd
  refine qb_ite (fun c => ?_) (fun c => ?_)
  · exact qb_0 (fun H locs ls hL hh => lv_if_ge (qk_ex hX) (qk_by hX) (qk_d hX hd) ht (fun _ => hh ls hL) (fun q => by first | exact absurd c q | exact absurd q c | (simp at c q; exact absurd c (by first | exact Int32.not_le.mpr q | exact Int32.not_lt.mpr q)))) h1
  · exact qb_0 (fun H locs ls hL hh => lv_if_ge (qk_ex hX) (qk_by hX) (qk_d hX hd) ht (fun q => by first | exact absurd q c | exact absurd c q | (simp at c q; exact absurd q (by first | exact Int32.not_le.mpr c | exact Int32.not_lt.mpr c))) (fun _ => hh ls hL)) h2
theorem qb_ifgt (hX : qm_ok X own cc nL f lo il) (k : Nat) {x : Int32} {m1 m2 : qm_M α} {off : Int} (tgt : Nat) (hd : qm_nth il k = some (pc, .ifCond .gt off, 3, pc')) (ht : (pc : Int) + off = (tgt : Int)) (h1 : qm_B X m1 tgt ρ st κ) (h2 : qm_B X m2 pc' ρ st κ) : qm_B X (if 0 < x then m1 else m2) pc ρ (.int x :: st) κ := by
  cases qk_n hX hd
  refine qb_ite (fun c => ?_) (fun c => ?_)
  · exact qb_0 (fun H locs ls hL hh => lv_if_gt (qk_ex hX) (qk_by hX) (qk_d hX hd) ht (fun _ => hh ls hL) (fun q => by first | exact absurd c q | exact absurd q c | (simp at c q; exact absurd c (by first | exact Int32.not_le.mpr q | exact Int32.not_lt.mpr q)))) h1
  · exact qb_0 (fun H locs ls hL hh => lv_if_gt (qk_ex hX) (qk_by hX) (qk_d hX hd) ht (fun q => by first | exact absurd q c | exact absurd c q | (simp at c q; exact absurd q (by first | exact Int32.not_le.mpr c | exact Int32.not_lt.mpr c))) (fun _ => hh ls hL)) h2
theorem qb_ifle (hX : qm_ok X own cc nL f lo il) (k : Nat) {x : Int32} {m1 m2 : qm_M α} {off : Int} (tgt : Nat) (hd : qm_nth il k = some (pc, .ifCond .le off, 3, pc')) (ht : (pc : Int) + off = (tgt : Int)) (h1 : qm_B X m1 tgt ρ st κ) (h2 : qm_B X m2 pc' ρ st κ) : qm_B X (if x ≤ 0 then m1 else m2) pc ρ (.int x :: st) κ := by
  cases qk_n hX hd
  refine qb_ite (fun c => ?_) (fun c => ?_)
  · exact qb_0 (fun H locs ls hL hh => lv_if_le (qk_ex hX) (qk_by hX) (qk_d hX hd) ht (fun _ => hh ls hL) (fun q => by first | exact absurd c q | exact absurd q c | (simp at c q; exact absurd c (by first | exact Int32.not_le.mpr q | exact Int32.not_lt.mpr q)))) h1
  · exact qb_0 (fun H locs ls hL hh => lv_if_le (qk_ex hX) (qk_by hX) (qk_d hX hd) ht (fun q => by first | exact absurd q c | exact absurd c q | (simp at c q; exact absurd q (by first | exact Int32.not_le.mpr c | exact Int32.not_lt.mpr c))) (fun _ => hh ls hL)) h2
theorem qb_iceq (hX : qm_ok X own cc nL f lo il) (k : Nat) {x y : Int32} {m1 m2 : qm_M α} {off : Int} (tgt : Nat) (hd : qm_nth il k = some (pc, .if_icmp .eq off, 3, pc')) (ht : (pc : Int) + off = (tgt : Int)) (h1 : qm_B X m1 tgt ρ st κ) (h2 : qm_B X m2 pc' ρ st κ) : qm_B X (if x = y then m1 else m2) pc ρ (.int y :: .int x :: st) κ := by
  cases qk_n hX hd
  refine qb_ite (fun c => ?_) (fun c => ?_)
  · exact qb_0 (fun H locs ls hL hh => lv_icmp_eq (qk_ex hX) (qk_by hX) (qk_d hX hd) ht (fun _ => hh ls hL) (fun q => by first | exact absurd c q | exact absurd q c | (simp at c q; exact absurd c (by first | exact Int32.not_le.mpr q | exact Int32.not_lt.mpr q)))) h1
  · exact qb_0 (fun H locs ls hL hh => lv_icmp_eq (qk_ex hX) (qk_by hX) (qk_d hX hd) ht (fun q => by first | exact absurd q c | exact absurd c q | (simp at c q; exact absurd q (by first | exact Int32.not_le.mpr c | exact Int32.not_lt.mpr c))) (fun _ => hh ls hL)) h2
theorem qb_icne (hX : qm_ok X own cc nL f lo il) (k : Nat) {x y : Int32} {m1 m2 : qm_M α} {off : Int} (tgt : Nat) (hd : qm_nth il k = some (pc, .if_icmp .ne off, 3, pc')) (ht : (pc : Int) + off = (tgt : Int)) (h1 : qm_B X m1 tgt ρ st κ) (h2 : qm_B X m2 pc' ρ st κ) : qm_B X (if ¬ x = y then m1 else m2) pc ρ (.int y :: .int x :: st) κ := by
  cases qk_n hX hd
  refine qb_ite (fun c => ?_) (fun c => ?_)
  · exact qb_0 (fun H locs ls hL hh => lv_icmp_ne (qk_ex hX) (qk_by hX) (qk_d hX hd) ht (fun _ => hh ls hL) (fun q => by first | exact absurd c q | exact absurd q c | (simp at c q; exact absurd c (by first | exact Int32.not_le.mpr q | exact Int32.not_lt.mpr q)))) h1
  · exact qb_0 (fun H locs ls hL hh => lv_icmp_ne (qk_ex hX) (qk_by hX) (qk_d hX hd) ht (fun q => by first | exact absurd q c | exact absurd c q | (simp at c q; exact absurd q (by first | exact Int32.not_le.mpr c | exact Int32.not_lt.mpr c))) (fun _ => hh ls hL)) h2
theorem qb_iclt (hX : qm_ok X own cc nL f lo il) (k : Nat) {x y : Int32} {m1 m2 : qm_M α} {off : Int} (tgt : Nat) (hd : qm_nth il k = some (pc, .if_icmp .lt off, 3, pc')) (ht : (pc : Int) + off = (tgt : Int)) (h1 : qm_B X m1 tgt ρ st κ) (h2 : qm_B X m2 pc' ρ st κ) : qm_B X (if x < y then m1 else m2) pc ρ (.int y :: .int x :: st) κ := by
  cases qk_n hX hd
  refine qb_ite (fun c => ?_) (fun c => ?_)
  · exact qb_0 (fun H locs ls hL hh => lv_icmp_lt (qk_ex hX) (qk_by hX) (qk_d hX hd) ht (fun _ => hh ls hL) (fun q => by first | exact absurd c q | exact absurd q c | (simp at c q; exact absurd c (by first | exact Int32.not_le.mpr q | exact Int32.not_lt.mpr q)))) h1
  · exact qb_0 (fun H locs ls hL hh => lv_icmp_lt (qk_ex hX) (qk_by hX) (qk_d hX hd) ht (fun q => by first | exact absurd q c | exact absurd c q | (simp at c q; exact absurd q (by first | exact Int32.not_le.mpr c | exact Int32.not_lt.mpr c))) (fun _ => hh ls hL)) h2
theorem qb_icge (hX : qm_ok X own cc nL f lo il) (k : Nat) {x y : Int32} {m1 m2 : qm_M α} {off : Int} (tgt : Nat) (hd : qm_nth il k = some (pc, .if_icmp .ge off, 3, pc')) (ht : (pc : Int) + off = (tgt : Int)) (h1 : qm_B X m1 tgt ρ st κ) (h2 : qm_B X m2 pc' ρ st κ) : qm_B X (if y ≤ x then m1 else m2) pc ρ (.int y :: .int x :: st) κ := by
  cases qk_n hX hd
  refine qb_ite (fun c => ?_) (fun c => ?_)
  · exact qb_0 (fun H locs ls hL hh => lv_icmp_ge (qk_ex hX) (qk_by hX) (qk_d hX hd) ht (fun _ => hh ls hL) (fun q => by first | exact absurd c q | exact absurd q c | (simp at c q; exact absurd c (by first | exact Int32.not_le.mpr q | exact Int32.not_lt.mpr q)))) h1
  · exact qb_0 (fun H locs ls hL hh => lv_icmp_ge (qk_ex hX) (qk_by hX) (qk_d hX hd) ht (fun q => by first | exact absurd q c | exact absurd c q | (simp at c q; exact absurd q (by first | exact Int32.not_le.mpr c | exact Int32.not_lt.mpr c))) (fun _ => hh ls hL)) h2
theorem qb_icgt (hX : qm_ok X own cc nL f lo il) (k : Nat) {x y : Int32} {m1 m2 : qm_M α} {off : Int} (tgt : Nat) (hd : qm_nth il k = some (pc, .if_icmp .gt off, 3, pc')) (ht : (pc : Int) + off = (tgt : Int)) (h1 : qm_B X m1 tgt ρ st κ) (h2 : qm_B X m2 pc' ρ st κ) : qm_B X (if y < x then m1 else m2) pc ρ (.int y :: .int x :: st) κ := by
  cases qk_n hX hd
  refine qb_ite (fun c => ?_) (fun c => ?_)
  · exact qb_0 (fun H locs ls hL hh => lv_icmp_gt (qk_ex hX) (qk_by hX) (qk_d hX hd) ht (fun _ => hh ls hL) (fun q => by first | exact absurd c q | exact absurd q c | (simp at c q; exact absurd c (by first | exact Int32.not_le.mpr q | exact Int32.not_lt.mpr q)))) h1
  · exact qb_0 (fun H locs ls hL hh => lv_icmp_gt (qk_ex hX) (qk_by hX) (qk_d hX hd) ht (fun q => by first | exact absurd q c | exact absurd c q | (simp at c q; exact absurd q (by first | exact Int32.not_le.mpr c | exact Int32.not_lt.mpr c))) (fun _ => hh ls hL)) h2
theorem qb_icle (hX : qm_ok X own cc nL f lo il) (k : Nat) {x y : Int32} {m1 m2 : qm_M α} {off : Int} (tgt : Nat) (hd : qm_nth il k = some (pc, .if_icmp .le off, 3, pc')) (ht : (pc : Int) + off = (tgt : Int)) (h1 : qm_B X m1 tgt ρ st κ) (h2 : qm_B X m2 pc' ρ st κ) : qm_B X (if x ≤ y then m1 else m2) pc ρ (.int y :: .int x :: st) κ := by
  cases qk_n hX hd
  refine qb_ite (fun c => ?_) (fun c => ?_)
  · exact qb_0 (fun H locs ls hL hh => lv_icmp_le (qk_ex hX) (qk_by hX) (qk_d hX hd) ht (fun _ => hh ls hL) (fun q => by first | exact absurd c q | exact absurd q c | (simp at c q; exact absurd c (by first | exact Int32.not_le.mpr q | exact Int32.not_lt.mpr q)))) h1
  · exact qb_0 (fun H locs ls hL hh => lv_icmp_le (qk_ex hX) (qk_by hX) (qk_d hX hd) ht (fun q => by first | exact absurd q c | exact absurd c q | (simp at c q; exact absurd q (by first | exact Int32.not_le.mpr c | exact Int32.not_lt.mpr c))) (fun _ => hh ls hL)) h2
/-- a switch: the cases one by one -/
theorem qb_swc {x : Int32} {m1 m2 : qm_M α} (c : Int32) (h1 : qm_B X m1 pc ρ (.int c :: st) κ) (h2 : ¬ x = c → qm_B X m2 pc ρ (.int x :: st) κ) : qm_B X (if x = c then m1 else m2) pc ρ (.int x :: st) κ := by
  refine qb_ite (fun e => ?_) h2
  rw [e]
  exact h1
theorem qb_tin (hX : qm_ok X own cc nL f lo il) (k : Nat) {x : Int32} {dflt a b : Int} {offs : Array Int} {len : Nat} {off : Int} (tgt : Nat) (hd : qm_nth il k = some (pc, .tableswitch dflt a b offs, len, pc')) (h1 : ¬ x.toInt < a) (h2 : ¬ b < x.toInt) (ho : offs[(x.toInt - a).toNat]? = some off) (ht : (pc : Int) + off = (tgt : Int)) (h : qm_B X m tgt ρ st κ) : qm_B X m pc ρ (.int x :: st) κ :=
  qb_0 (fun H locs ls hL hh => lv_tableIn (qk_ex hX) (qk_by hX) (qk_d hX hd) h1 h2 ho ht (hh ls hL)) h
theorem qb_tout (hX : qm_ok X own cc nL f lo il) (k : Nat) {x : Int32} {dflt a b : Int} {offs : Array Int} {len : Nat} (tgt : Nat) (hd : qm_nth il k = some (pc, .tableswitch dflt a b offs, len, pc')) (h1 : x.toInt < a ∨ b < x.toInt) (ht : (pc : Int) + dflt = (tgt : Int)) (h : qm_B X m tgt ρ st κ) : qm_B X m pc ρ (.int x :: st) κ :=
  qb_0 (fun H locs ls hL hh => lv_tableOut (qk_ex hX) (qk_by hX) (qk_d hX hd) h1 ht (hh ls hL)) h
theorem qb_lsw (hX : qm_ok X own cc nL f lo il) (k : Nat) {x : Int32} {dflt : Int} {ps : Array (Int × Int)} {len : Nat} {off : Int} (tgt : Nat) (hd : qm_nth il k = some (pc, .lookupswitch dflt ps, len, pc')) (hp : (ps.toList.zip (ps.toList.drop 1)).all (fun (a, next) => a.1 < next.1) = true) (ho : Op.lookupswitch.offset ps.toList dflt x.toInt = off) (ht : (pc : Int) + off = (tgt : Int)) (h : qm_B X m tgt ρ st κ) : qm_B X m pc ρ (.int x :: st) κ :=
  qb_0 (fun H locs ls hL hh => lv_lookup (qk_ex hX) (qk_by hX) (qk_d hX hd) hp ho ht (hh ls hL)) h
end QB
end
section
theorem qm_far : ∀ a : Nat, 500 ≤ a → qm_kd a = (0, 0) := by
  have hf : ∀ (l : List (Nat × Nat × Nat)) (z : Nat), l.foldl (fun s r => s + r.1) z = z + l.foldl (fun s r => s + r.1) 0 := by
    intro l
    induction l with
    | nil => intro z; rfl
    | cons q l ih => intro z; rw [List.foldl_cons, List.foldl_cons, ih, ih (0 + q.1)]; omega
  have hz : ∀ (l : List (Nat × Nat × Nat)) (n a : Nat), l.foldl (fun s r => s + r.1) 0 ≤ n → n ≤ a → qm_kl l a = (0, 0) := by
    intro l
    induction l with
    | nil => intro n a _ _; rfl
    | cons r l ih =>
      intro n a h1 h2
      rw [List.foldl_cons, hf] at h1
      obtain ⟨c, t, n2⟩ := r
      unfold qm_kl
      rw [if_neg (by simp at h1; omega)]
      exact ih (n - c) (a - c) (by simp at h1; omega) (by simp at h1; omega)
  exact fun a h => hz qm_runs 500 a (by decide +kernel) h
theorem qm_near {a t : Nat} (ht : t ≠ 0) (h : (qm_kd a).1 = t) : a < 500 := by
  rcases Nat.lt_or_ge a 500 with q | q
  · exact q
  · rw [qm_far a q] at h
    exact absurd h.symm ht
theorem qm_low {a : Nat} (h : (qm_kd a).1 = 2 ∨ (qm_kd a).1 = 3) : a < qm_N := by
  have h1 : ∀ a, a < 500 → ((qm_kd a).1 = 2 ∨ (qm_kd a).1 = 3) → a < qm_N := by decide +kernel
  refine h1 a ?_ h
  rcases h with h | h
  · exact qm_near (by decide) h
  · exact qm_near (by decide) h
theorem qm_sta {a : Nat} (h : (qm_kd a).1 = 1) (hn : ¬ a < qm_N) : 405 ≤ a ∧ a < 408 ∧ (qm_kd a).2 = 8 := by
  have h1 : ∀ a, a < 500 → (qm_kd a).1 = 1 → ¬ a < qm_N → 405 ≤ a ∧ a < 408 ∧ (qm_kd a).2 = 8 := by decide +kernel
  exact h1 a (qm_near (by decide) h) h hn
section QC
variable {X : qm_X} {own : String} {cc : ByteArray} {nL f lo : Nat} {il : List qm_I}
variable {α : Type} {m : qm_M α} {pc pc' : Nat} {ρ : List (Option Value)} {st : List Value} {κ : α → qm_Mem → Prop}
theorem qk_K (hX : qm_ok X own cc nL f lo il) : va_K (qx_G X).2.1 qm_cl (qm_tys (qx_G X)) (qx_s X) := hX.2.2.2.1.1
theorem qk_nw (hX : qm_ok X own cc nL f lo il) : ∀ w ∈ qm_nw, va_Nw w (qx_s X) := hX.2.2.2.1.2
theorem qk_Z (hX : qm_ok X own cc nL f lo il) : qm_Z (qx_G X) (qx_A X) (qx_s X) (qx_s X).heap := hX.2.2.2.2.1
theorem qk_GI (hX : qm_ok X own cc nL f lo il) : qm_GI (qx_G X) := hX.2.2.2.2.2.1
theorem qk_A (hX : qm_ok X own cc nL f lo il) : (∀ i, i < qm_N → qx_A X (qx_ad X i)) ∧ ∀ q, (qx_s X).heap.size ≤ q → qx_A X q := hX.2.2.2.2.2.2.1
theorem qk_R (hX : qm_ok X own cc nL f lo il) : (qx_R X).frames = f ∧ (qx_R X).locals = lo ∧ qx_cells X ≤ (qx_R X).cells ∧ qx_slots X ≤ (qx_R X).slots := hX.2.2.2.2.2.2.2
/-- a row of ints, booleans, bytes -/
theorem qm_H.arr {G : qm_G} {σ : qm_Mem} {H : Heap} (h : qm_H G σ H) {a : Nat} (ha : (qm_kd a).1 = 1 ∨ (qm_kd a).1 = 2 ∨ (qm_kd a).1 = 3) (hN : a < qm_N) : H[G.1 a]? = some (vp_cell (G.2.2 (qm_kd a).1) ((qm_kd a).2, .inl (σ a))) :=
  h.1 a (.inl (G.2.2 (qm_kd a).1, (qm_kd a).2, .inl (σ a))) (by unfold qm_E; rw [if_pos ⟨ha, hN⟩])
theorem qm_H.arrR {G : qm_G} {σ : qm_Mem} {H : Heap} (h : qm_H G σ H) {a : Nat} (ha : (qm_kd a).1 = 4 ∨ (qm_kd a).1 = 5) : H[G.1 a]? = some (vp_cell (G.2.2 (qm_kd a).1) ((qm_kd a).2, .inr (.inr (.inr (.inr (fun j => some (G.1 (qm_rf a j)))))))) :=
  h.1 a (.inl (G.2.2 (qm_kd a).1, (qm_kd a).2, .inr (.inr (.inr (.inr (fun j => some (G.1 (qm_rf a j)))))))) (by unfold qm_E; rw [if_neg (by omega), if_pos ha])
theorem qm_H.obj {G : qm_G} {σ : qm_Mem} {H : Heap} (h : qm_H G σ H) {a t : Nat} (ha : (qm_kd a).1 = 10 + t) : va_P G.2.1 qm_cl [(G.1 a, .inr (t, qm_fs G t a σ))] H := by
  intro k q hk
  cases k with
  | succ k => simp at hk
  | zero =>
    cases hk
    refine h.1 a (.inr (t, qm_fs G t a σ)) ?_
    unfold qm_E
    rw [if_neg (by omega), if_neg (by omega), if_pos (by omega), ha, Nat.add_sub_cancel_left]
theorem qm_u_other {σ : qm_Mem} {a k : Nat} {x : Int32} {i : Nat} (h : i ≠ a) : qm_u σ a k x i = σ i := by
  funext j
  unfold qm_u
  rw [if_neg (fun q => h q.1)]
theorem qm_u_self {σ : qm_Mem} {a k : Nat} {x : Int32} : qm_u σ a k x a = upd (σ a) k x := by
  funext j
  unfold qm_u upd
  by_cases h : j = k
  · rw [if_pos ⟨rfl, h⟩, if_pos h]
  · rw [if_neg (fun q => h q.2), if_neg h]
theorem qm_fs_other {G : qm_G} {t i a k : Nat} {x : Int32} {σ : qm_Mem} (h : i ≠ a) : qm_fs G t i (qm_u σ a k x) = qm_fs G t i σ := by
  unfold qm_fs
  congr 1
  funext j
  unfold qm_vl
  rw [qm_u_other h]
theorem qm_E_other {G : qm_G} {σ : qm_Mem} {i a k : Nat} {x : Int32} (h : i ≠ a) : qm_E G (qm_u σ a k x) i = qm_E G σ i := by
  unfold qm_E
  rw [qm_u_other h, qm_fs_other h]
theorem qm_live {G : qm_G} {σ : qm_Mem} {i : Nat} {e : va_E} (h : qm_E G σ i = some e) : (qm_kd i).1 ≠ 0 := by
  intro h0
  unfold qm_E at h
  rw [if_neg (by omega), if_neg (by omega), if_neg (by omega)] at h
  cases h
/-- a cell is written: the others stay -/
theorem qm_H.put {G : qm_G} {σ : qm_Mem} {H H1 : Heap} {a k : Nat} {x : Int32} (hG : qm_GI G) (h : qm_H G σ H) (ha : a < qm_N) (hs : ∀ e, qm_E G (qm_u σ a k x) a = some e → va_at G.2.1 qm_cl (G.1 a, e) H1) (ho : ∀ q : Nat, q ≠ G.1 a → H1[q]? = H[q]?) : qm_H G (qm_u σ a k x) H1 := by
  have hst : ∀ i, 405 ≤ i → i < 408 → ∀ j, j < 8 → qm_u σ a k x i j = qm_sv i j := fun i h1 h2 j hj => by
    have hN : qm_N = 367 := rfl
    rw [qm_u_other (by omega)]
    exact h.2 i h1 h2 j hj
  refine ⟨fun i e he => ?_, hst⟩
  by_cases hi : i = a
  · subst hi
    exact hs e he
  · have he2 := he
    rw [qm_E_other hi] at he
    refine (h.1 i e he).kept (ho _ (fun q => hi (hG i a (qm_live he) ha q)))
theorem qm_in_iff {a : Nat} {i : Int32} (h : qm_in a i = true) : vp_in i (qm_kd a).2 := by
  unfold qm_in at h
  rw [Bool.and_eq_true, decide_eq_true_iff, decide_eq_true_iff] at h
  intro q
  rcases q with q | q
  · exact absurd h.1 (by simpa using q)
  · omega
theorem qm_ow_iff {a : Nat} (h : qm_ow a = true) : a < qm_N := of_decide_eq_true h
theorem qb_iald (hX : qm_ok X own cc nL f lo il) (k : Nat) {a : Nat} {i : Int32} {g : Int32 → qm_M α} (hd : qm_nth il k = some (pc, .iaload, 1, pc')) (ha : (qm_kd a).1 = 1) (h : ∀ x, qm_B X (g x) pc' ρ (.int x :: st) κ) : qm_B X (mB (mLd a i) g) pc ρ (.int i :: .ref (qx_ad X a) :: st) κ := by
  cases qk_n hX hd
  intro σ r σ' h1 h2 H locs ls hH hS hL
  obtain ⟨x, σ1, e1, e2⟩ := mB_some h1
  unfold mLd at e1
  split at e1
  · rename_i hi
    cases e1
    by_cases hN : a < qm_N
    · have hc := hH.arr (Or.inl ha) hN
      rw [ha] at hc
      exact va_iald (tys := qm_tys (qx_G X)) (D := (qx_G X).2.1) (cl := qm_cl) (ws := [(qx_ad X a, .inl ((qx_G X).2.2 1, (qm_kd a).2, .inl (σ a)))]) (qk_ex hX) (qk_by hX) (qk_K hX) (fun k q hk => by
        cases k with
        | succ k => simp at hk
        | zero => cases hk; exact hc) 0 0 rfl rfl (qm_in_iff hi) (qk_d hX hd) (h _ σ r σ' e2 h2 H locs ls hH hS hL)
    · obtain ⟨s1, s2, s3⟩ := qm_sta ha hN
      have hv := qm_in_iff hi
      rw [s3] at hv
      have hlt : i.toNatClampNeg < 8 := Nat.not_le.mp fun q => hv (Or.inr q)
      have kk := h _ σ r σ' e2 h2 H locs ls hH hS hL
      rw [hH.2 a s1 s2 _ hlt] at kk
      exact va_ti (qk_ex hX) (qk_by hX) ((qk_Z hX).2.2.2.2.2 a s1 s2) hS hv rfl (qk_d hX hd) kk
  · cases e1
theorem qb_zald (hX : qm_ok X own cc nL f lo il) (k : Nat) {a : Nat} {i : Int32} {g : Int32 → qm_M α} (hd : qm_nth il k = some (pc, .baload, 1, pc')) (ha : (qm_kd a).1 = 2) (h : ∀ x, qm_B X (g x) pc' ρ (.int x :: st) κ) : qm_B X (mB (mLd a i) g) pc ρ (.int i :: .ref (qx_ad X a) :: st) κ := by
  cases qk_n hX hd
  intro σ r σ' h1 h2 H locs ls hH hS hL
  obtain ⟨x, σ1, e1, e2⟩ := mB_some h1
  unfold mLd at e1
  split at e1
  · rename_i hi
    cases e1
    have hc := hH.arr (Or.inr (Or.inl ha)) (qm_low (Or.inl ha))
    rw [ha] at hc
    exact va_zald (tys := qm_tys (qx_G X)) (D := (qx_G X).2.1) (cl := qm_cl) (ws := [(qx_ad X a, .inl ((qx_G X).2.2 2, (qm_kd a).2, .inl (σ a)))]) (qk_ex hX) (qk_by hX) (qk_K hX) (fun k q hk => by
      cases k with
      | succ k => simp at hk
      | zero => cases hk; exact hc) 0 1 rfl rfl (qm_in_iff hi) (qk_d hX hd) (h _ σ r σ' e2 h2 H locs ls hH hS hL)
  · cases e1
theorem qb_bald (hX : qm_ok X own cc nL f lo il) (k : Nat) {a : Nat} {i : Int32} {g : Int32 → qm_M α} (hd : qm_nth il k = some (pc, .baload, 1, pc')) (ha : (qm_kd a).1 = 3) (h : ∀ x, qm_B X (g x) pc' ρ (.int x :: st) κ) : qm_B X (mB (mLd a i) g) pc ρ (.int i :: .ref (qx_ad X a) :: st) κ := by
  cases qk_n hX hd
  intro σ r σ' h1 h2 H locs ls hH hS hL
  obtain ⟨x, σ1, e1, e2⟩ := mB_some h1
  unfold mLd at e1
  split at e1
  · rename_i hi
    cases e1
    have hc := hH.arr (Or.inr (Or.inr ha)) (qm_low (Or.inr ha))
    rw [ha] at hc
    exact va_bald (tys := qm_tys (qx_G X)) (D := (qx_G X).2.1) (cl := qm_cl) (ws := [(qx_ad X a, .inl ((qx_G X).2.2 3, (qm_kd a).2, .inl (σ a)))]) (qk_ex hX) (qk_by hX) (qk_K hX) (fun k q hk => by
      cases k with
      | succ k => simp at hk
      | zero => cases hk; exact hc) 0 2 rfl rfl (qm_in_iff hi) (qk_d hX hd) (h _ σ r σ' e2 h2 H locs ls hH hS hL)
  · cases e1
theorem qb_aald (hX : qm_ok X own cc nL f lo il) (k : Nat) {a t : Nat} {i : Int32} {g : Nat → qm_M α} (hd : qm_nth il k = some (pc, .aaload, 1, pc')) (ha : (qm_kd a).1 = 4 ∨ (qm_kd a).1 = 5) (ht : ∀ j, j < (qm_kd a).2 → (qm_kd (qm_rf a j)).1 = t) (h : ∀ x, (qm_kd x).1 = t → qm_B X (g x) pc' ρ (.ref (qx_ad X x) :: st) κ) : qm_B X (mB (mLr a i) g) pc ρ (.int i :: .ref (qx_ad X a) :: st) κ := by
  cases qk_n hX hd
  intro σ r σ' h1 h2 H locs ls hH hS hL
  obtain ⟨x, σ1, e1, e2⟩ := mB_some h1
  unfold mLr at e1
  split at e1
  · rename_i hi
    cases e1
    have hc := hH.arrR ha
    have hin := qm_in_iff hi
    have hlt : i.toNatClampNeg < (qm_kd a).2 := Nat.not_le.mp fun q => hin (Or.inr q)
    have kk := h _ (ht _ hlt) σ r σ' e2 h2 H locs ls hH hS hL
    have hK := qk_K hX
    rcases ha with ha | ha
    · rw [ha] at hc
      exact W.aald (v := va_rf (some (qx_ad X (qm_rf a i.toNatClampNeg)))) (ty := .array .int) (qk_ex hX) (qk_by hX) hc ((hK.2 3 _ rfl).1 _ (fun j => va_rf (some ((qx_G X).1 (qm_rf a j))))) rfl (fun q => by cases q) (by show ¬ (i < 0 ∨ (arrV _ _ _).slots.size ≤ _); rw [arrV_size]; exact hin) (by show (arrV _ _ _).slots[_]? = _; rw [arrV_read _ _ hlt]) rfl rfl (qk_d hX hd) kk
    · rw [ha] at hc
      exact W.aald (v := va_rf (some (qx_ad X (qm_rf a i.toNatClampNeg)))) (ty := .object "ColumnsLevelled$Run") (qk_ex hX) (qk_by hX) hc ((hK.2 4 _ rfl).1 _ (fun j => va_rf (some ((qx_G X).1 (qm_rf a j))))) rfl (fun q => by cases q) (by show ¬ (i < 0 ∨ (arrV _ _ _).slots.size ≤ _); rw [arrV_size]; exact hin) (by show (arrV _ _ _).slots[_]? = _; rw [arrV_read _ _ hlt]) rfl rfl (qk_d hX hd) kk
  · cases e1
theorem qm_H.putA {G : qm_G} {σ : qm_Mem} {H H1 : Heap} {a k t : Nat} {x : Int32} (hG : qm_GI G) (h : qm_H G σ H) (ha : a < qm_N) (hk : (qm_kd a).1 = t) (ht : t = 1 ∨ t = 2 ∨ t = 3) (e : H1[G.1 a]? = some ((arrV (G.2.2 t) (qm_kd a).2 (fun j => .int (σ a j))).setSlot k (.int x))) (ho : ∀ q : Nat, q ≠ G.1 a → H1[q]? = H[q]?) : qm_H G (qm_u σ a k x) H1 := by
  refine h.put hG ha (fun e1 h1 => ?_) ho
  unfold qm_E at h1
  rw [if_pos ⟨by rw [hk]; exact ht, ha⟩] at h1
  cases h1
  show H1[G.1 a]? = some (vp_cell _ _)
  rw [e, hk, vp_cell_i, arrV_store, qm_u_self]
  congr 2
  funext q
  by_cases hq : q = k
  · subst hq
    simp [updV, upd]
  · simp [updV, upd, hq]
theorem qb_iast (hX : qm_ok X own cc nL f lo il) (k : Nat) {a : Nat} {i x : Int32} {g : Unit → qm_M α} (hd : qm_nth il k = some (pc, .iastore, 1, pc')) (ha : (qm_kd a).1 = 1) (h : qm_B X (g ()) pc' ρ st κ) : qm_B X (mB (mSt a i x) g) pc ρ (.int x :: .int i :: .ref (qx_ad X a) :: st) κ := by
  cases qk_n hX hd
  intro σ r σ' h1 h2 H locs ls hH hS hL
  obtain ⟨u, σ1, e1, e2⟩ := mB_some h1
  unfold mSt at e1
  split at e1
  · rename_i hi
    cases e1
    have hw := qm_ow_iff hi.2
    have hc := hH.arr (Or.inl ha) hw
    rw [ha] at hc
    refine W.iast (qk_ex hX) (qk_by hX) hc ((((qk_K hX).2 0 _ rfl).1 (qm_kd a).2 (fun j => .int (σ a j)))) (fun q => by cases q) (by show ¬ (i < 0 ∨ (arrV _ _ _).slots.size ≤ _); rw [arrV_size]; exact qm_in_iff hi.1) rfl rfl (qk_d hX hd) fun H1 e z oq => ?_
    exact h _ r σ' e2 h2 H1 _ ls (hH.putA (qk_GI hX) hw ha (Or.inl rfl) e oq) (hS.put z oq ((qk_A hX).1 a hw)) hL
  · cases e1
theorem qb_zast (hX : qm_ok X own cc nL f lo il) (k : Nat) {a : Nat} {i x : Int32} {g : Unit → qm_M α} (hd : qm_nth il k = some (pc, .bastore, 1, pc')) (ha : (qm_kd a).1 = 2) (h : qm_B X (g ()) pc' ρ st κ) : qm_B X (mB (mSz a i x) g) pc ρ (.int x :: .int i :: .ref (qx_ad X a) :: st) κ := by
  cases qk_n hX hd
  intro σ r σ' h1 h2 H locs ls hH hS hL
  obtain ⟨u, σ1, e1, e2⟩ := mB_some h1
  unfold mSz at e1
  split at e1
  · rename_i hi
    cases e1
    have hc := hH.arr (Or.inr (Or.inl ha)) (qm_low (Or.inl ha))
    rw [ha] at hc
    have hw := qm_ow_iff hi.1.2
    refine W.zast (qk_ex hX) (qk_by hX) hc ((((qk_K hX).2 1 _ rfl).1 (qm_kd a).2 (fun j => .int (σ a j)))) (fun q => by cases q) (by show ¬ (i < 0 ∨ (arrV _ _ _).slots.size ≤ _); rw [arrV_size]; exact qm_in_iff hi.1.1) rfl rfl (qk_d hX hd) fun H1 e z oq => ?_
    have hn : narrow .boolean (.int x) = .int x := by
      rcases hi.2 with q | q
      · rw [q]; rfl
      · rw [q]; rfl
    rw [hn] at e
    exact h _ r σ' e2 h2 H1 _ ls (hH.putA (qk_GI hX) hw ha (Or.inr (Or.inl rfl)) e oq) (hS.put z oq ((qk_A hX).1 a hw)) hL
  · cases e1
theorem qb_bast (hX : qm_ok X own cc nL f lo il) (k : Nat) {a : Nat} {i x : Int32} {g : Unit → qm_M α} (hd : qm_nth il k = some (pc, .bastore, 1, pc')) (ha : (qm_kd a).1 = 3) (h : qm_B X (g ()) pc' ρ st κ) : qm_B X (mB (mSb a i x) g) pc ρ (.int x :: .int i :: .ref (qx_ad X a) :: st) κ := by
  cases qk_n hX hd
  intro σ r σ' h1 h2 H locs ls hH hS hL
  obtain ⟨u, σ1, e1, e2⟩ := mB_some h1
  unfold mSb at e1
  split at e1
  · rename_i hi
    cases e1
    have hc := hH.arr (Or.inr (Or.inr ha)) (qm_low (Or.inr ha))
    rw [ha] at hc
    have hw := qm_ow_iff hi.2
    refine W.bast (qk_ex hX) (qk_by hX) hc ((((qk_K hX).2 2 _ rfl).1 (qm_kd a).2 (fun j => .int (σ a j)))) (fun q => by cases q) (by show ¬ (i < 0 ∨ (arrV _ _ _).slots.size ≤ _); rw [arrV_size]; exact qm_in_iff hi.1) rfl rfl (qk_d hX hd) fun H1 e z oq => ?_
    have hn : narrow .byte (.int x) = .int x.toInt8.toInt32 := rfl
    rw [hn] at e
    exact h _ r σ' e2 h2 H1 _ ls (hH.putA (qk_GI hX) hw ha (Or.inr (Or.inr rfl)) e oq) (hS.put z oq ((qk_A hX).1 a hw)) hL
  · cases e1
end QC
end
section
/-- a class's fields are told by the tables -/
def qm_cls (ci : Nat) (C : String) (T : u_T) (N : Nat) : Prop := qm_cl[ci]? = some (C, T, N) ∧ ∀ w ∈ u_ws C T N, w ∈ qm_tb
/-- an instruction's field: own class, place in its pool, class, field -/
def qm_FL (own : String) (idx ci j : Nat) : Prop := ∃ C T N, qm_cls ci C T N ∧ j < N ∧ Cond.fieldLink own idx (T j).1 (T j).2.1 (T j).2.2.1 ∈ qm_tb
def qm_tyk (ty : FieldType) : Prop := ty = .int ∨ ty = .boolean
/-- such a field may be written outside of a constructor -/
def qm_FP (own : String) (idx ci j : Nat) (ty : FieldType) : Prop := ∃ (C : String) (T : u_T) (N : Nat) (tys : Nat → FieldType), qm_cls ci C T N ∧ j < N ∧ Cond.fieldLink own idx (T j).1 (T j).2.1 (T j).2.2.1 ∈ qm_tb ∧ (∀ k, k < N → parseFieldDescriptor (T k).2.2.1 = some (tys k)) ∧ (∀ a, a < N → ∀ b, b < N → a ≠ b → (T a).2.1 ≠ (T b).2.1) ∧ (T j).2.2.2 = false ∧ parseFieldDescriptor (T j).2.2.1 = some ty ∧ qm_ft ci j = false ∧ N = qm_nf ci
theorem qm_fs_at {G : qm_G} {t i k : Nat} {σ : qm_Mem} (h : k < qm_nf t) : (qm_fs G t i σ)[k]? = some (qm_vl G t i σ k) := by
  unfold qm_fs
  rw [List.getElem?_map, List.getElem?_range h]
  rfl
theorem qm_fs_len {G : qm_G} {t i : Nat} {σ : qm_Mem} : (qm_fs G t i σ).length = qm_nf t := by
  unfold qm_fs
  rw [List.length_map, List.length_range]
theorem qm_cls_nf {ci N : Nat} {C : String} {T : u_T} (h : qm_cl[ci]? = some (C, T, N)) : qm_nf ci = N := by
  unfold qm_nf
  rw [h]
theorem qm_own : ∀ a : Nat, 10 ≤ (qm_kd a).1 → a < qm_N := by
  intro a h
  rcases Nat.lt_or_ge a qm_N with q | q
  · exact q
  · rcases Nat.lt_or_ge a 500 with z | z
    · exact absurd h ((by decide +kernel : ∀ a, a < 500 → qm_N ≤ a → ¬ 10 ≤ (qm_kd a).1) a z q)
    · have : qm_kd a = (0, 0) := by
        have hz : ∀ (l : List (Nat × Nat × Nat)) (n a : Nat), l.foldl (fun s r => s + r.1) 0 ≤ n → n ≤ a → qm_kl l a = (0, 0) := by
          intro l
          induction l with
          | nil => intro n a _ _; rfl
          | cons r l ih =>
            intro n a h1 h2
            have hf : ∀ (l : List (Nat × Nat × Nat)) (z : Nat), l.foldl (fun s r => s + r.1) z = z + l.foldl (fun s r => s + r.1) 0 := by
              intro l
              induction l with
              | nil => intro z; rfl
              | cons q l ih => intro z; rw [List.foldl_cons, List.foldl_cons, ih, ih (0 + q.1)]; omega
            rw [List.foldl_cons, hf] at h1
            obtain ⟨c, t, n2⟩ := r
            unfold qm_kl
            rw [if_neg (by simp at h1; omega)]
            exact ih (n - c) (a - c) (by simp at h1; omega) (by simp at h1; omega)
        exact hz qm_runs 500 a (by decide +kernel) z
      rw [this] at h
      exact absurd h (by decide)
section QC
variable {X : qm_X} {own : String} {cc : ByteArray} {nL f lo : Nat} {il : List qm_I}
variable {α : Type} {m : qm_M α} {pc pc' : Nat} {ρ : List (Option Value)} {st : List Value} {κ : α → qm_Mem → Prop}
theorem qj_get (hX : qm_ok X own cc nL f lo il) {k idx ci j a : Nat} {σ : qm_Mem} (hd : qm_nth il k = some (pc, .getfield idx, 3, pc')) (hf : qm_FL own idx ci j) (ha : (qm_kd a).1 = 10 + ci) (h : qm_J X pc' ρ (qm_vl (qx_G X) ci a σ j :: st) σ) : qm_J X pc ρ (.ref (qx_ad X a) :: st) σ := by
  cases qk_n hX hd
  intro H locs ls hH hS hL
  obtain ⟨C, T, N, ⟨hc, hw⟩, hj, hl⟩ := hf
  exact va_get (D := (qx_G X).2.1) (ci := ci) (Ts := qm_tb) (qk_ex hX) (qk_by hX) (qk_ts hX) hw (qk_ow hX) (qk_K hX) (hH.obj ha) 0 rfl hc j hj (qk_ts hX _ hl) (fun x h => h) (qm_fs_at (by rw [qm_cls_nf hc]; exact hj)) (qk_d hX hd) (h H locs ls hH hS hL)
theorem qb_get (hX : qm_ok X own cc nL f lo il) (k : Nat) {idx ci j a : Nat} {g : Int32 → qm_M α} (hd : qm_nth il k = some (pc, .getfield idx, 3, pc')) (hf : qm_FL own idx ci j) (ha : (qm_kd a).1 = 10 + ci) (hr : qm_ft ci j = false) (h : ∀ x, qm_B X (g x) pc' ρ (.int x :: st) κ) : qm_B X (mB (mGt a j) g) pc ρ (.ref (qx_ad X a) :: st) κ := by
  intro σ r σ' h1 h2
  refine qj_get hX hd hf ha ?_
  unfold qm_vl
  rw [if_neg (by rw [hr]; exact Bool.noConfusion)]
  exact h (σ a j) σ r σ' h1 h2
theorem qb_getR (hX : qm_ok X own cc nL f lo il) (k : Nat) {idx ci j a : Nat} (hd : qm_nth il k = some (pc, .getfield idx, 3, pc')) (hf : qm_FL own idx ci j) (ha : (qm_kd a).1 = 10 + ci) (hr : qm_ft ci j = true) (h : qm_B X m pc' ρ (.ref (qx_ad X (qm_rf a j)) :: st) κ) : qm_B X m pc ρ (.ref (qx_ad X a) :: st) κ := by
  intro σ r σ' h1 h2
  refine qj_get hX hd hf ha ?_
  unfold qm_vl
  rw [if_pos hr]
  exact h σ r σ' h1 h2
theorem qj_put (hX : qm_ok X own cc nL f lo il) {k idx ci j a : Nat} {x : Int32} {ty : FieldType} {σ : qm_Mem} (hd : qm_nth il k = some (pc, .putfield idx, 3, pc')) (hf : qm_FP own idx ci j ty) (ha : (qm_kd a).1 = 10 + ci) (hn : narrow ty (.int x) = .int x) (hfit : fits ty (.int x) = true) (h : qm_J X pc' ρ st (qm_u σ a j x)) : qm_J X pc ρ (.int x :: .ref (qx_ad X a) :: st) σ := by
  cases qk_n hX hd
  intro H locs ls hH hS hL
  obtain ⟨C, T, N, tys, ⟨hc, hin⟩, hj, hl, hty, hnm, hfin, hpd, hft, hN⟩ := hf
  have hK := qk_K hX
  have hts := qk_ts hX
  have hap := va_apart (own := own) hts hin tys hty hnm hK hc
  have hP := hH.obj ha
  obtain ⟨r, h1, cell, q1, q2, q3, q4⟩ := hP 0 _ rfl
  have hr : r = (C, T, N) := Option.some.inj (h1.symm.trans hc)
  subst hr
  obtain ⟨hS9, hfc, kC, hkC, hkind⟩ := hK.1 ci _ hc
  obtain ⟨cf, kf, fi, f9, hi, hsl⟩ := hS9 j hj
  have hlay := hts _ (hin _ (u_in_lay hj))
  unfold u_lay at hlay
  rw [if_neg (by rw [hfin]; decide)] at hlay
  have hst := (u_facts hfc hkC (u_lays hts hin hj) hi).1
  have h6 := u_store hfc hkC hkind hlay hi hpd hn hfit
  refine W.putK (qk_ex hX) (qk_by hX) (f := f9) ⟨qk_ow hX, hts _ hl, ⟨_, _, _, hi⟩, hst⟩ (by rw [q2]; exact h6) q1 q3 (by rw [hsl]; exact k2_hasslot (q4 j hj)) rfl rfl (qk_d hX hd) fun H' e1 e2 e3 => ?_
  rw [hsl] at e1
  have hw := qm_own a (by omega)
  refine h H' _ ls (hH.put (qk_GI hX) hw (fun e he => ?_) e3) (hS.put e2 e3 ((qk_A hX).1 a hw)) hL
  have he2 : e = .inr (ci, qm_fs (qx_G X) ci a (qm_u σ a j x)) := by
    unfold qm_E at he
    rw [if_neg (by omega), if_neg (by omega), if_pos (by omega), ha, Nat.add_sub_cancel_left] at he
    exact (Option.some.inj he).symm
  subst he2
  refine ⟨_, hc, t_OB.to (V := updV (vp_V (qm_fs (qx_G X) ci a σ)) j (.int x)) ⟨_, e1, q2, q3, t_set q4 hap hj (.int x)⟩ (fun i hi9 => ?_)⟩
  have hi8 : i < qm_nf ci := by rw [← hN]; exact hi9
  show updV (vp_V (qm_fs (qx_G X) ci a σ)) j (.int x) i = vp_V (qm_fs (qx_G X) ci a (qm_u σ a j x)) i
  unfold vp_V
  rw [List.getD_eq_getElem?_getD, qm_fs_at hi8]
  unfold updV
  by_cases hij : i = j
  · subst hij
    rw [if_pos rfl]
    unfold qm_vl
    rw [if_neg (by rw [hft]; exact Bool.noConfusion), qm_u_self]
    unfold upd
    rw [if_pos rfl]
    rfl
  · rw [if_neg hij]
    show (qm_fs (qx_G X) ci a σ).getD i Value.null = _
    rw [List.getD_eq_getElem?_getD, qm_fs_at hi8]
    show qm_vl (qx_G X) ci a σ i = qm_vl (qx_G X) ci a (qm_u σ a j x) i
    unfold qm_vl
    rw [qm_u_self]
    unfold upd
    rw [if_neg hij]
theorem qb_put (hX : qm_ok X own cc nL f lo il) (k : Nat) {idx ci j a : Nat} {x : Int32} {g : Unit → qm_M α} (hd : qm_nth il k = some (pc, .putfield idx, 3, pc')) (hf : qm_FP own idx ci j .int) (ha : (qm_kd a).1 = 10 + ci) (h : qm_B X (g ()) pc' ρ st κ) : qm_B X (mB (mPt a j x) g) pc ρ (.int x :: .ref (qx_ad X a) :: st) κ := by
  intro σ r σ' h1 h2
  exact qj_put hX hd hf ha rfl rfl (h _ r σ' h1 h2)
theorem qb_putZ (hX : qm_ok X own cc nL f lo il) (k : Nat) {idx ci j a : Nat} {x : Int32} {g : Unit → qm_M α} (hd : qm_nth il k = some (pc, .putfield idx, 3, pc')) (hf : qm_FP own idx ci j .boolean) (ha : (qm_kd a).1 = 10 + ci) (h : qm_B X (g ()) pc' ρ st κ) : qm_B X (mB (mPz a j x) g) pc ρ (.int x :: .ref (qx_ad X a) :: st) κ := by
  intro σ r σ' h1 h2
  obtain ⟨u, σ1, e1, e2⟩ := mB_some h1
  unfold mPz at e1
  split at e1
  · rename_i hz
    cases e1
    refine qj_put hX hd hf ha ?_ ?_ (h _ r σ' e2 h2)
    · rcases hz with q | q
      · rw [q]; rfl
      · rw [q]; rfl
    · rcases hz with q | q
      · rw [q]; rfl
      · rw [q]; rfl
  · cases e1
theorem qb_alen (hX : qm_ok X own cc nL f lo il) (k : Nat) {a : Nat} (v : Int32) (hd : qm_nth il k = some (pc, .arraylength, 1, pc')) (ha : (qm_kd a).1 = 1 ∨ (qm_kd a).1 = 2 ∨ (qm_kd a).1 = 3) (hv : Int32.ofNat (qm_kd a).2 = v) (h : qm_B X m pc' ρ (.int v :: st) κ) : qm_B X m pc ρ (.ref (qx_ad X a) :: st) κ := by
  cases qk_n hX hd
  intro σ r σ' h1 h2 H locs ls hH hS hL
  have kk := h σ r σ' h1 h2 H locs ls hH hS hL
  by_cases hN : a < qm_N
  · have hc := hH.arr ha hN
    have hP : va_P (qx_G X).2.1 qm_cl [(qx_ad X a, .inl ((qx_G X).2.2 (qm_kd a).1, (qm_kd a).2, .inl (σ a)))] H := (fun k q hk => by
        cases k with
        | succ k => simp at hk
        | zero => cases hk; exact hc)
    rcases ha with e | e | e
    · rw [e] at hP; exact va_alen (tys := qm_tys (qx_G X)) (qk_ex hX) (qk_by hX) (qk_K hX) hP 0 0 rfl rfl hv (qk_d hX hd) kk
    · rw [e] at hP; exact va_alen (tys := qm_tys (qx_G X)) (qk_ex hX) (qk_by hX) (qk_K hX) hP 0 1 rfl rfl hv (qk_d hX hd) kk
    · rw [e] at hP; exact va_alen (tys := qm_tys (qx_G X)) (qk_ex hX) (qk_by hX) (qk_K hX) hP 0 2 rfl rfl hv (qk_d hX hd) kk
  · rcases ha with e | e
    · obtain ⟨s1, s2, s3⟩ := qm_sta e hN
      rw [s3] at hv
      exact va_tlen (qk_ex hX) (qk_by hX) ((qk_Z hX).2.2.2.2.2 a s1 s2) hS hv (qk_d hX hd) kk
    · exact absurd (qm_low e) hN
theorem qb_alenR (hX : qm_ok X own cc nL f lo il) (k : Nat) {a : Nat} (v : Int32) (hd : qm_nth il k = some (pc, .arraylength, 1, pc')) (ha : (qm_kd a).1 = 4 ∨ (qm_kd a).1 = 5) (hv : Int32.ofNat (qm_kd a).2 = v) (h : qm_B X m pc' ρ (.int v :: st) κ) : qm_B X m pc ρ (.ref (qx_ad X a) :: st) κ := by
  cases qk_n hX hd
  intro σ r σ' h1 h2 H locs ls hH hS hL
  have hc := hH.arrR ha
  have kk := h σ r σ' h1 h2 H locs ls hH hS hL
  have hP : va_P (qx_G X).2.1 qm_cl [(qx_ad X a, .inl ((qx_G X).2.2 (qm_kd a).1, (qm_kd a).2, .inr (.inr (.inr (.inr (fun j => some ((qx_G X).1 (qm_rf a j))))))))] H := (fun k q hk => by
      cases k with
      | succ k => simp at hk
      | zero => cases hk; exact hc)
  rcases ha with e | e
  · rw [e] at hP; exact va_alen (tys := qm_tys (qx_G X)) (qk_ex hX) (qk_by hX) (qk_K hX) hP 0 3 rfl rfl hv (qk_d hX hd) kk
  · rw [e] at hP; exact va_alen (tys := qm_tys (qx_G X)) (qk_ex hX) (qk_by hX) (qk_K hX) hP 0 4 rfl rfl hv (qk_d hX hd) kk
theorem qb_gets (hX : qm_ok X own cc nL f lo il) (k : Nat) {idx : Nat} {n : String} (i : Nat) (hd : qm_nth il k = some (pc, .getstatic idx, 3, pc')) (hq : ("ColumnsLevelled", n, "[I", i) ∈ qm_sts) (hw : Cond.fieldLink own idx "ColumnsLevelled" n "[I" ∈ qm_tb) (h : qm_B X m pc' ρ (.ref (qx_ad X i) :: st) κ) : qm_B X m pc ρ st κ := by
  cases qk_n hX hd
  intro σ r σ' h1 h2 H locs ls hH hS hL
  exact va_gets (qk_ex hX) (qk_by hX) ((qk_Z hX).1 _ hq) hS (qk_ow hX) (qk_ts hX _ hw) (fun x h => h) (qk_d hX hd) (h σ r σ' h1 h2 H locs ls hH hS hL)
theorem qb_getsN (hX : qm_ok X own cc nL f lo il) (k : Nat) {idx : Nat} {n : String} (i : Nat) (hd : qm_nth il k = some (pc, .getstatic idx, 3, pc')) (hq : ("ColumnsLevelled", n, "[I", i) ∈ qm_sts) (hw : Cond.fieldLinkNest own idx "ColumnsLevelled" n "[I" "ColumnsLevelled" ∈ qm_nw) (h : qm_B X m pc' ρ (.ref (qx_ad X i) :: st) κ) : qm_B X m pc ρ st κ := by
  cases qk_n hX hd
  intro σ r σ' h1 h2 H locs ls hH hS hL
  exact va_getsN (qk_ex hX) (qk_by hX) ((qk_Z hX).1 _ hq) hS (qk_ow hX) (va_Nw.use rfl (qk_nw hX _ hw)) (fun x h => h) (qk_d hX hd) (h σ r σ' h1 h2 H locs ls hH hS hL)
end QC
end
section
def qm_rm (f lo : Nat) : Room := { frames := f, cells := 0, slots := 0, locals := lo }
def qm_w (y : MethodName) (b : ByteArray) (nL : Nat) (ret : Option FieldType) : List Cond := Cond.code y b nL ret :: qm_tb
/-- a method's start: the cells hold σ, the heap is of that size -/
def qm_Pc (G : qm_G) (av : List Value) (σ : qm_Mem) (sz : Nat) : Array Value → State → Prop := va_Pc av (fun U => U.heap.size = sz ∧ qm_H G σ U.heap ∧ qm_K G U ∧ qm_Z G (qm_A G sz) U U.heap)
def qm_at (G : qm_G) (σ : qm_Mem) (_ : Unit) (t : State) : Prop := qm_H G σ t.heap
def qm_Qi (G : qm_G) (r : Int32) (σ : qm_Mem) (sz : Nat) : Array Value → State → Outcome → State → Prop := va_Qi (fun r' (_ : Unit) => r' = r) (qm_at G σ) (qm_A G sz)
def qm_Qv (G : qm_G) (σ : qm_Mem) (sz : Nat) : Array Value → State → Outcome → State → Prop := va_Qv (fun (_ : Unit) => True) (qm_at G σ) (qm_A G sz)
def qm_Qr (G : qm_G) (r : Nat) (σ : qm_Mem) (sz : Nat) : Array Value → State → Outcome → State → Prop := va_Qr (fun (_ : Unit) => True) (fun u a t => a = G.1 r ∧ qm_at G σ u t) (qm_A G sz)
/-- what a method does, as a computation over the cells -/
def qm_MI (l : Launch) (G : qm_G) (y : MethodName) (b : ByteArray) (nL : Nat) (ret : Option FieldType) (f lo : Nat) (av : List Value) (m : qm_M Int32) : Prop :=
  ∀ σ r σ', m σ = some (r, σ') → ∀ sz, Met l y (qm_w y b nL ret) (qm_rm f lo) (qm_Pc G av σ sz) (qm_Qi G r σ' sz) 0 0 (qm_A G sz)
def qm_MV (l : Launch) (G : qm_G) (y : MethodName) (b : ByteArray) (nL : Nat) (f lo : Nat) (av : List Value) (m : qm_M Unit) : Prop :=
  ∀ σ r σ', m σ = some (r, σ') → ∀ sz, Met l y (qm_w y b nL none) (qm_rm f lo) (qm_Pc G av σ sz) (qm_Qv G σ' sz) 0 0 (qm_A G sz)
def qm_MR (l : Launch) (G : qm_G) (y : MethodName) (b : ByteArray) (nL : Nat) (ret : Option FieldType) (f lo : Nat) (av : List Value) (m : qm_M Nat) : Prop :=
  ∀ σ r σ', m σ = some (r, σ') → ∀ sz, Met l y (qm_w y b nL ret) (qm_rm f lo) (qm_Pc G av σ sz) (qm_Qr G r σ' sz) 0 0 (qm_A G sz)
theorem qm_Pc_blind {G : qm_G} {av : List Value} {σ : qm_Mem} {sz : Nat} : FrameBlind (qm_Pc G av σ sz) := by
  intro a U g mk h
  obtain ⟨h1, h2, h3, ⟨h4, h5⟩, h6⟩ := h
  refine ⟨h1, h2, h3, ⟨va_K.moved (u := U) (U := U.calling g mk a) (Vm.Alike.refl U.vm) h4, fun w hw => ?_⟩, ⟨fun q hq => (h6.1 q hq).moved (U := U.calling g mk a) (Vm.Alike.refl U.vm), h6.2.1.moved (U := U.calling g mk a) (Vm.Alike.refl U.vm), fun r hr => vk_R.same (u := U) rfl (h6.2.2.1 r hr), h6.2.2.2.1.moved (U := U.calling g mk a) (Vm.Alike.refl U.vm), h6.2.2.2.2.1.moved (U := U.calling g mk a) (Vm.Alike.refl U.vm), fun i h1 h2 => (h6.2.2.2.2.2 i h1 h2).moved (U := U.calling g mk a) (Vm.Alike.refl U.vm)⟩⟩
  have hon : ∀ w ∈ qm_nw, w.onTables = true := by decide +kernel
  exact va_Nw.same (hon w hw) (u := U) (U := U.calling g mk a) rfl (h5 w hw)
theorem qm_good {w : Cond} (h : w ∈ lw_tbl) (hg : goodWord w = true) : w ∈ qm_tb := List.mem_filter.mpr ⟨h, hg⟩
theorem qm_goodIn {y : MethodName} {b : ByteArray} {nL : Nat} {ret : Option FieldType} (h : Cond.code y b nL ret ∈ qm_tb) : GoodIn qm_tb (qm_w y b nL ret) := by
  intro w hw
  rcases List.mem_cons.mp hw with rfl | hw
  · exact ⟨h, good_of_word rfl⟩
  · obtain ⟨h1, h2⟩ := List.mem_filter.mp hw
    exact ⟨hw, good_of_word h2⟩
/-- a call's words: virtual, of another's private static, static -/
def qm_CV (own : String) (idx : Nat) (y : MethodName) (b : ByteArray) (nL : Nat) (ret : Option FieldType) (n : Nat) : Prop :=
  Cond.methodLink own idx y ∈ qm_tb ∧ Cond.instanceMethod y ∈ qm_tb ∧ Cond.selects y.cls y y ∈ qm_tb ∧ Cond.initialized y.cls ∈ qm_tb ∧ Cond.code y b nL ret ∈ qm_tb ∧
  (y.cls ≠ "java/lang/invoke/MethodHandle" ∧ y.cls ≠ "java/lang/invoke/VarHandle" ∧ (parseMethodDescriptor y.desc).map (fun d => d.parameters.length) = some n)
def qm_CS (own : String) (idx : Nat) (y : MethodName) (b : ByteArray) (nL : Nat) (ret : Option FieldType) (n : Nat) : Prop :=
  Cond.methodLink own idx y ∈ qm_tb ∧ Cond.static y ∈ qm_tb ∧ Cond.initialized y.cls ∈ qm_tb ∧ Cond.code y b nL ret ∈ qm_tb ∧
  (y.cls ≠ "java/lang/invoke/MethodHandle" ∧ y.cls ≠ "java/lang/invoke/VarHandle" ∧ (parseMethodDescriptor y.desc).map (fun d => d.parameters.length) = some n)
def qm_CN (own : String) (idx : Nat) (y : MethodName) (host : String) (b : ByteArray) (nL : Nat) (ret : Option FieldType) (n : Nat) : Prop :=
  Cond.methodLinkNest own idx y host ∈ qm_nw ∧ Cond.static y ∈ qm_tb ∧ Cond.initialized y.cls ∈ qm_tb ∧ Cond.code y b nL ret ∈ qm_tb ∧
  (y.cls ≠ "java/lang/invoke/MethodHandle" ∧ y.cls ≠ "java/lang/invoke/VarHandle" ∧ (parseMethodDescriptor y.desc).map (fun d => d.parameters.length) = some n)
section QD
variable {X : qm_X} {own : String} {cc : ByteArray} {nL f lo : Nat} {il : List qm_I}
variable {α : Type} {pc pc' : Nat} {ρ : List (Option Value)} {st : List Value} {κ : α → qm_Mem → Prop}
theorem qk_sub (hX : qm_ok X own cc nL f lo il) {H : Heap} (h : (qx_s X).heap.size ≤ H.size) : ∀ q, qm_A (qx_G X) H.size q → qx_A X q := by
  intro q hq
  rcases hq with ⟨i, hi, e⟩ | hq
  · subst e
    exact (qk_A hX).1 i hi
  · exact (qk_A hX).2 q (Nat.le_trans h hq)
/-- the callee's start -/
theorem qk_pre (hX : qm_ok X own cc nL f lo il) {σ : qm_Mem} {H : Heap} {locs : List Loc} (hH : qm_H (qx_G X) σ H) (hS : va_S (qx_A X) (qx_s X).heap H locs) (av : List Value) : ∀ U : State, U.heap = H → (qx_s X).WarmedH U.vm → qm_Pc (qx_G X) av σ H.size av.toArray U := by
  intro U hU hW
  refine ⟨rfl, by rw [hU], by rw [hU]; exact hH, ⟨va_K.moved hW.alike (qk_K hX), fun w hw => ?_⟩, fun q hq => ?_, ?_, fun r hr => ?_, ?_, ?_, fun i h1 h2 => ?_⟩
  · have h := qk_nw hX w hw
    unfold qm_nw at hw
    simp only [List.mem_cons, List.not_mem_nil, or_false] at hw
    rcases hw with rfl | rfl | rfl | rfl | rfl | rfl | rfl | rfl | rfl | rfl | rfl | rfl | rfl | rfl | rfl | rfl | rfl | rfl | rfl | rfl | rfl | rfl | rfl | rfl | rfl | rfl | rfl | rfl
    · exact va_Nw.warmF hW h
    · exact va_Nw.warmF hW h
    · exact va_Nw.warmF hW h
    · exact va_Nw.warmF hW h
    · exact va_Nw.warmF hW h
    · exact va_Nw.warmF hW h
    · exact va_Nw.warmF hW h
    · exact va_Nw.warmF hW h
    · exact va_Nw.warmF hW h
    · exact va_Nw.warmF hW h
    · exact va_Nw.warmF hW h
    · exact va_Nw.warmF hW h
    · exact va_Nw.warmF hW h
    · exact va_Nw.warmF hW h
    · exact va_Nw.warmF hW h
    · exact va_Nw.warmF hW h
    · exact va_Nw.warmF hW h
    · exact va_Nw.warmF hW h
    · exact va_Nw.warmF hW h
    · exact va_Nw.warmF hW h
    · exact va_Nw.warmF hW h
    · exact va_Nw.warmF hW h
    · exact va_Nw.warmF hW h
    · exact va_Nw.warmM hW h
    · exact va_Nw.warmM hW h
    · exact va_Nw.warmM hW h
    · exact va_Nw.warmM hW h
    · exact va_Nw.warmM hW h
  · rw [hU]
    exact ((((qk_Z hX).1 q hq).kept (H1 := H) hS.2.1).narrow (qk_sub hX hS.1)).moved hW.alike
  · rw [hU]
    exact (((qk_Z hX).2.1.kept (H1 := H) hS.2.1).narrow (qk_sub hX hS.1)).moved hW.alike
  · exact vk_R.warm hW ((qk_Z hX).2.2.1 r hr)
  · rw [hU]
    exact (((qk_Z hX).2.2.2.1.kept (H1 := H) hS.2.1).narrow (qk_sub hX hS.1)).moved hW.alike
  · rw [hU]
    exact (((qk_Z hX).2.2.2.2.1.kept (H1 := H) hS.2.1).narrow (qk_sub hX hS.1)).moved hW.alike
  · rw [hU]
    exact ((((qk_Z hX).2.2.2.2.2 i h1 h2).kept (H1 := H) hS.2.1).narrow (qk_sub hX hS.1)).moved hW.alike
theorem qk_cw (hX : qm_ok X own cc nL f lo il) {idx nL' n f' lo' : Nat} {y : MethodName} {b : ByteArray} {ret : Option FieldType} (hc : qm_CV own idx y b nL' ret n) (hr : f' + 1 ≤ f ∧ 8 + (nL' + 11) + lo' ≤ lo) : CallW (qx_R X) (qx_s X) (qx_args X) own y.cls idx y b nL' ret (qm_w y b nL' ret) (qm_rm f' lo') 0 0 n := by
  obtain ⟨h1, h2, h3, h4, h5, h6⟩ := hc
  have ht := qk_ts hX
  obtain ⟨r1, r2, -⟩ := qk_R hX
  exact ⟨callB_of n ht (qm_goodIn h5) rfl rfl rfl (ht _ h4) (ht _ h1) h6 ⟨by rw [r1]; exact hr.1, by rw [r2]; exact hr.2⟩, ht _ h2, ht _ h3⟩
theorem qk_cs (hX : qm_ok X own cc nL f lo il) {idx nL' n f' lo' : Nat} {y : MethodName} {b : ByteArray} {ret : Option FieldType} (hc : qm_CS own idx y b nL' ret n) (hr : f' + 1 ≤ f ∧ 8 + (nL' + 11) + lo' ≤ lo) : CallB (qx_R X) (qx_s X) (qx_args X) own idx y b nL' ret (qm_w y b nL' ret) (qm_rm f' lo') 0 0 n ∧ (Cond.static y).before (qx_args X) (qx_s X) = true := by
  obtain ⟨h1, h2, h4, h5, h6⟩ := hc
  have ht := qk_ts hX
  obtain ⟨r1, r2, -⟩ := qk_R hX
  exact ⟨callB_of n ht (qm_goodIn h5) rfl rfl rfl (ht _ h4) (ht _ h1) h6 ⟨by rw [r1]; exact hr.1, by rw [r2]; exact hr.2⟩, ht _ h2⟩
theorem qk_cn (hX : qm_ok X own cc nL f lo il) {idx nL' n f' lo' : Nat} {y : MethodName} {host : String} {b : ByteArray} {ret : Option FieldType} (hc : qm_CN own idx y host b nL' ret n) (hr : f' + 1 ≤ f ∧ 8 + (nL' + 11) + lo' ≤ lo) : va_CN (qx_R X) (qx_s X) (qx_args X) own idx y host b nL' ret (qm_w y b nL' ret) (qm_rm f' lo') 0 0 n ∧ (Cond.static y).before (qx_args X) (qx_s X) = true ∧ True := by
  obtain ⟨h1, h2, h4, h5, h6⟩ := hc
  have ht := qk_ts hX
  obtain ⟨r1, r2, -⟩ := qk_R hX
  exact ⟨va_cnB n ht (qm_goodIn h5) rfl rfl rfl (qk_nw hX _ h1) (ht _ h4) h6 ⟨by rw [r1]; exact hr.1, by rw [r2]; exact hr.2⟩, ht _ h2, trivial⟩
/-- the receiver is of its class -/
theorem qk_recv (hX : qm_ok X own cc nL f lo il) {σ : qm_Mem} {H : Heap} (hH : qm_H (qx_G X) σ H) {a ci : Nat} (ha : (qm_kd a).1 = 10 + ci) {r : vw_C} (hc : qm_cl[ci]? = some r) : ∃ cell : Cell, H[qx_ad X a]? = some cell ∧ cell.vm.isStatics = false ∧ (qx_s X).vm.findClass r.1 = some cell.cls :=
  va_recv (qk_K hX) (hH.obj ha) hc (q0 := 0) rfl
theorem qk_room {st : List Value} {pc : Nat} {ls : Array Slot} {st0 : List Value} {m : MethodId} (h : (st.map fun v => v.category).sum ≤ 8) : 2 * (F0 m pc ls st0).monitorRoom + (st.map fun v => v.category).sum ≤ 8 := lv_room h
theorem qk_cells (hX : qm_ok X own cc nL f lo il) : qx_cells X + 0 ≤ (qx_R X).cells ∧ qx_slots X + 0 ≤ (qx_R X).slots := ⟨(qk_R hX).2.2.1, (qk_R hX).2.2.2⟩
theorem qb_callI {m : qm_M Int32} {g : Int32 → qm_M α} (hX : qm_ok X own cc nL f lo il) (k : Nat) {idx nL' n f' lo' a ci : Nat} {y : MethodName} {b : ByteArray} {ret : Option FieldType} {As st0 : List Value} {r : vw_C} (hd : qm_nth il k = some (pc, .invokevirtual idx, 3, pc')) (hc : qm_CV own idx y b nL' ret n) (hM : qm_MI (qx_l X) (qx_G X) y b nL' ret f' lo' (.ref (qx_ad X a) :: As) m) (ha : (qm_kd a).1 = 10 + ci) (hr : qm_cl[ci]? = some r ∧ r.1 = y.cls ∧ As.length = n ∧ f' + 1 ≤ f ∧ 8 + (nL' + 11) + lo' ≤ lo) (hst : st0 = As.reverse ++ .ref (qx_ad X a) :: st) (h8 : (st.map fun v => v.category).sum ≤ 8) (h : ∀ x, qm_B X (g x) pc' ρ (.int x :: st) κ) : qm_B X (mB m g) pc ρ st0 κ := by
  cases qk_n hX hd
  intro σ z σ' h1 h2 H locs ls hH hS hL
  obtain ⟨x, σ1, e1, e2⟩ := mB_some h1
  have hrec := qk_recv hX hH ha hr.1
  rw [hr.2.1] at hrec
  exact va_calli (va_runV (As := As) (rest := st) hX.1 (hM σ x σ1 e1 H.size) (qk_cw hX hc ⟨hr.2.2.2.1, hr.2.2.2.2⟩) ⟨qm_Pc_blind, hrec, qk_pre hX hH hS (.ref (qx_ad X a) :: As)⟩ rfl hr.2.2.1 (hL.1.trans (qk_ml hX)) hst (qk_room h8) (qk_d hX hd) (qk_cells hX)) hS (fun q _ hq => qk_sub hX hS.1 q hq) (qk_sub hX hS.1) (fun r' u t H1 locs1 ht hvm hp hB hz hk hS1 => by
    have hp : r' = x := hp
    subst hp
    subst ht
    exact h r' σ1 z σ' e2 h2 t.heap locs1 ls hB hS1 hL)
theorem qb_callV {m : qm_M Unit} {g : Unit → qm_M α} (hX : qm_ok X own cc nL f lo il) (k : Nat) {idx nL' n f' lo' a ci : Nat} {y : MethodName} {b : ByteArray} {As st0 : List Value} {r : vw_C} (hd : qm_nth il k = some (pc, .invokevirtual idx, 3, pc')) (hc : qm_CV own idx y b nL' none n) (hM : qm_MV (qx_l X) (qx_G X) y b nL' f' lo' (.ref (qx_ad X a) :: As) m) (ha : (qm_kd a).1 = 10 + ci) (hr : qm_cl[ci]? = some r ∧ r.1 = y.cls ∧ As.length = n ∧ f' + 1 ≤ f ∧ 8 + (nL' + 11) + lo' ≤ lo) (hst : st0 = As.reverse ++ .ref (qx_ad X a) :: st) (h8 : (st.map fun v => v.category).sum ≤ 8) (h : qm_B X (g ()) pc' ρ st κ) : qm_B X (mB m g) pc ρ st0 κ := by
  cases qk_n hX hd
  intro σ z σ' h1 h2 H locs ls hH hS hL
  obtain ⟨x, σ1, e1, e2⟩ := mB_some h1
  have hrec := qk_recv hX hH ha hr.1
  rw [hr.2.1] at hrec
  exact va_callv (va_runV (As := As) (rest := st) hX.1 (hM σ x σ1 e1 H.size) (qk_cw hX hc ⟨hr.2.2.2.1, hr.2.2.2.2⟩) ⟨qm_Pc_blind, hrec, qk_pre hX hH hS (.ref (qx_ad X a) :: As)⟩ rfl hr.2.2.1 (hL.1.trans (qk_ml hX)) hst (qk_room h8) (qk_d hX hd) (qk_cells hX)) hS (fun q _ hq => qk_sub hX hS.1 q hq) (qk_sub hX hS.1) (fun u t H1 locs1 ht hvm hp hB hz hk hS1 => by
    subst ht
    exact h σ1 z σ' e2 h2 t.heap locs1 ls hB hS1 hL)
theorem qb_callR {m : qm_M Nat} {g : Nat → qm_M α} (hX : qm_ok X own cc nL f lo il) (k : Nat) {idx nL' n f' lo' a ci tt : Nat} {y : MethodName} {b : ByteArray} {ret : Option FieldType} {As st0 : List Value} {r : vw_C} (hd : qm_nth il k = some (pc, .invokevirtual idx, 3, pc')) (hc : qm_CV own idx y b nL' ret n) (hM : qm_MR (qx_l X) (qx_G X) y b nL' ret f' lo' (.ref (qx_ad X a) :: As) m) (ha : (qm_kd a).1 = 10 + ci) (hr : qm_cl[ci]? = some r ∧ r.1 = y.cls ∧ As.length = n ∧ f' + 1 ≤ f ∧ 8 + (nL' + 11) + lo' ≤ lo) (hst : st0 = As.reverse ++ .ref (qx_ad X a) :: st) (h8 : (st.map fun v => v.category).sum ≤ 8) (h : ∀ x, (qm_kd x).1 = tt → qm_B X (g x) pc' ρ (.ref (qx_ad X x) :: st) κ) : qm_B X (mB (mK tt m) g) pc ρ st0 κ := by
  cases qk_n hX hd
  intro σ z σ' h1 h2 H locs ls hH hS hL
  obtain ⟨x, σ1, e1, e2⟩ := mB_some h1
  have hrec := qk_recv hX hH ha hr.1
  rw [hr.2.1] at hrec
  unfold mK at e1
  split at e1
  · cases e1
  · rename_i q hq
    split at e1
    · rename_i ht9
      cases e1
      exact va_callr (va_runV (As := As) (rest := st) hX.1 (hM σ x σ1 hq H.size) (qk_cw hX hc ⟨hr.2.2.2.1, hr.2.2.2.2⟩) ⟨qm_Pc_blind, hrec, qk_pre hX hH hS (.ref (qx_ad X a) :: As)⟩ rfl hr.2.2.1 (hL.1.trans (qk_ml hX)) hst (qk_room h8) (qk_d hX hd) (qk_cells hX)) hS (fun q _ hq => qk_sub hX hS.1 q hq) (qk_sub hX hS.1) (fun u ra t H1 locs1 ht hvm hp hB hz hk hS1 => by
        obtain ⟨hra, hB⟩ := hB
        subst hra
        subst ht
        exact h x ht9 σ1 z σ' e2 h2 t.heap locs1 ls hB hS1 hL)
    · cases e1
theorem qb_calSI {m : qm_M Int32} {g : Int32 → qm_M α} (hX : qm_ok X own cc nL f lo il) (k : Nat) {idx nL' n f' lo' : Nat} {y : MethodName} {b : ByteArray} {ret : Option FieldType} {As st0 : List Value} (hd : qm_nth il k = some (pc, .invokestatic idx, 3, pc')) (hc : qm_CS own idx y b nL' ret n) (hM : qm_MI (qx_l X) (qx_G X) y b nL' ret f' lo' As m) (hr : As.length = n ∧ f' + 1 ≤ f ∧ 8 + (nL' + 11) + lo' ≤ lo) (hst : st0 = As.reverse ++ st) (h8 : (st.map fun v => v.category).sum ≤ 8) (h : ∀ x, qm_B X (g x) pc' ρ (.int x :: st) κ) : qm_B X (mB m g) pc ρ st0 κ := by
  cases qk_n hX hd
  intro σ z σ' h1 h2 H locs ls hH hS hL
  obtain ⟨x, σ1, e1, e2⟩ := mB_some h1
  exact va_calli (va_runS (As := As) (rest := st) hX.1 (hM σ x σ1 e1 H.size) (qk_cs hX hc ⟨hr.2.1, hr.2.2⟩) ⟨qm_Pc_blind, qk_pre hX hH hS As⟩ rfl hr.1 (hL.1.trans (qk_ml hX)) hst (qk_room h8) (qk_d hX hd) (qk_cells hX)) hS (fun q _ hq => qk_sub hX hS.1 q hq) (qk_sub hX hS.1) (fun r' u t H1 locs1 ht hvm hp hB hz hk hS1 => by
    have hp : r' = x := hp
    subst hp
    subst ht
    exact h r' σ1 z σ' e2 h2 t.heap locs1 ls hB hS1 hL)
theorem qb_calSV {m : qm_M Unit} {g : Unit → qm_M α} (hX : qm_ok X own cc nL f lo il) (k : Nat) {idx nL' n f' lo' : Nat} {y : MethodName} {b : ByteArray} {As st0 : List Value} (hd : qm_nth il k = some (pc, .invokestatic idx, 3, pc')) (hc : qm_CS own idx y b nL' none n) (hM : qm_MV (qx_l X) (qx_G X) y b nL' f' lo' As m) (hr : As.length = n ∧ f' + 1 ≤ f ∧ 8 + (nL' + 11) + lo' ≤ lo) (hst : st0 = As.reverse ++ st) (h8 : (st.map fun v => v.category).sum ≤ 8) (h : qm_B X (g ()) pc' ρ st κ) : qm_B X (mB m g) pc ρ st0 κ := by
  cases qk_n hX hd
  intro σ z σ' h1 h2 H locs ls hH hS hL
  obtain ⟨x, σ1, e1, e2⟩ := mB_some h1
  exact va_callv (va_runS (As := As) (rest := st) hX.1 (hM σ x σ1 e1 H.size) (qk_cs hX hc ⟨hr.2.1, hr.2.2⟩) ⟨qm_Pc_blind, qk_pre hX hH hS As⟩ rfl hr.1 (hL.1.trans (qk_ml hX)) hst (qk_room h8) (qk_d hX hd) (qk_cells hX)) hS (fun q _ hq => qk_sub hX hS.1 q hq) (qk_sub hX hS.1) (fun u t H1 locs1 ht hvm hp hB hz hk hS1 => by
    subst ht
    exact h σ1 z σ' e2 h2 t.heap locs1 ls hB hS1 hL)
theorem qb_calNI {m : qm_M Int32} {g : Int32 → qm_M α} (hX : qm_ok X own cc nL f lo il) (k : Nat) {idx nL' n f' lo' : Nat} {y : MethodName} {host : String} {b : ByteArray} {ret : Option FieldType} {As st0 : List Value} (hd : qm_nth il k = some (pc, .invokestatic idx, 3, pc')) (hc : qm_CN own idx y host b nL' ret n) (hM : qm_MI (qx_l X) (qx_G X) y b nL' ret f' lo' As m) (hr : As.length = n ∧ f' + 1 ≤ f ∧ 8 + (nL' + 11) + lo' ≤ lo) (hst : st0 = As.reverse ++ st) (h8 : (st.map fun v => v.category).sum ≤ 8) (h : ∀ x, qm_B X (g x) pc' ρ (.int x :: st) κ) : qm_B X (mB m g) pc ρ st0 κ := by
  cases qk_n hX hd
  intro σ z σ' h1 h2 H locs ls hH hS hL
  obtain ⟨x, σ1, e1, e2⟩ := mB_some h1
  exact va_calli (va_runSN (As := As) (rest := st) hX.1 (hM σ x σ1 e1 H.size) (qk_cn hX hc ⟨hr.2.1, hr.2.2⟩) ⟨qm_Pc_blind, qk_pre hX hH hS As⟩ rfl hr.1 (hL.1.trans (qk_ml hX)) hst (qk_room h8) (qk_d hX hd) (qk_cells hX)) hS (fun q _ hq => qk_sub hX hS.1 q hq) (qk_sub hX hS.1) (fun r' u t H1 locs1 ht hvm hp hB hz hk hS1 => by
    have hp : r' = x := hp
    subst hp
    subst ht
    exact h r' σ1 z σ' e2 h2 t.heap locs1 ls hB hS1 hL)
end QD
end
section
theorem qm_args_in : ∀ (vs : List Value) (k i : Nat) (v : Value), (∀ v ∈ vs, v.category = 1) → vs[i]? = some v → (k + i, v) ∈ lv_args k vs
  | [], _, _, _, _, h => by simp at h
  | w :: vs, k, 0, v, hc, h => by
    simp at h
    subst h
    unfold lv_args
    exact List.mem_cons_self
  | w :: vs, k, i + 1, v, hc, h => by
    simp at h
    have h1 := qm_args_in vs (k + 1) i v (fun v hv => hc v (List.mem_cons_of_mem _ hv)) h
    unfold lv_args
    have hw := hc w List.mem_cons_self
    rw [if_neg (by omega), show k + (i + 1) = k + 1 + i by omega]
    exact List.mem_cons_of_mem _ h1
theorem qm_sl_len : ∀ (vs : List Value), (∀ v ∈ vs, v.category = 1) → (lg_sl vs).length = vs.length
  | [], _ => rfl
  | w :: vs, hc => by
    have hw := hc w List.mem_cons_self
    have ih := qm_sl_len vs (fun v hv => hc v (List.mem_cons_of_mem _ hv))
    unfold lg_sl at ih ⊢
    rw [List.flatMap_cons, List.length_append, ih, if_neg (by omega), List.length_cons, List.length_cons, List.length_nil]
    omega
theorem qm_entry (vs : List Value) (n : Nat) (hc : ∀ v ∈ vs, v.category = 1) (hn : vs.length ≤ n) : qm_L ((lg_sl vs ++ List.replicate (n - (lg_sl vs).length) Slot.unset).toArray) n (vs.map some ++ List.replicate (n - vs.length) none) := by
  obtain ⟨h1, h2, h3⟩ := lv_entry vs (n := n) (by rw [qm_sl_len vs hc]; exact hn)
  refine ⟨h1, h2, fun i v hv => ?_⟩
  have hi : vs[i]? = some v := by
    rcases Nat.lt_or_ge i vs.length with q | q
    · rw [List.getElem?_append_left (by simpa using q), List.getElem?_map] at hv
      cases hz : vs[i]? with
      | none => rw [hz] at hv; cases hv
      | some w => rw [hz] at hv; cases hv; rfl
    · rw [List.getElem?_append_right (by simpa using q), List.getElem?_replicate] at hv
      split at hv <;> cases hv
  have hm := qm_args_in vs 0 i v hc hi
  rw [Nat.zero_add] at hm
  exact ⟨h3 _ hm, hc v (List.mem_of_getElem? hi)⟩
def qm_RI (X : qm_X) (r0 : Int32) (σ0 : qm_Mem) (ty : FieldType) : Prop :=
  qx_Q X = MQ (qx_below X) (qm_Qi (qx_G X) r0 σ0 (qx_s X).heap.size) (qx_args X) (qx_s X) (qx_cells X) (qx_slots X) (qm_A (qx_G X) (qx_s X).heap.size) ∧ (qx_meth X).sig.returnType = some ty ∧ qx_A X = qm_A (qx_G X) (qx_s X).heap.size
def qm_RV (X : qm_X) (σ0 : qm_Mem) : Prop :=
  qx_Q X = MQ (qx_below X) (qm_Qv (qx_G X) σ0 (qx_s X).heap.size) (qx_args X) (qx_s X) (qx_cells X) (qx_slots X) (qm_A (qx_G X) (qx_s X).heap.size) ∧ (qx_meth X).sig.returnType = none ∧ qx_A X = qm_A (qx_G X) (qx_s X).heap.size
def qm_RR (X : qm_X) (r0 : Nat) (σ0 : qm_Mem) (ty : FieldType) : Prop :=
  qx_Q X = MQ (qx_below X) (qm_Qr (qx_G X) r0 σ0 (qx_s X).heap.size) (qx_args X) (qx_s X) (qx_cells X) (qx_slots X) (qm_A (qx_G X) (qx_s X).heap.size) ∧ (qx_meth X).sig.returnType = some ty ∧ ((∃ n, ty = .object n) ∨ ∃ t, ty = .array t) ∧ qx_A X = qm_A (qx_G X) (qx_s X).heap.size
section QR
variable {X : qm_X} {own : String} {cc : ByteArray} {nL f lo : Nat} {il : List qm_I}
variable {α : Type} {pc pc' : Nat} {ρ : List (Option Value)} {st : List Value} {κ : α → qm_Mem → Prop}
theorem qj_ret (hX : qm_ok X own cc nL f lo il) {k : Nat} {x r0 : Int32} {σ σ0 : qm_Mem} {ty : FieldType} (hd : qm_nth il k = some (pc, .ireturn, 1, pc')) (hR : qm_RI X r0 σ0 ty) (hn : narrow ty (.int x) = .int x) (h : x = r0 ∧ σ = σ0) : qm_J X pc ρ [.int x] σ := by
  intro H locs ls hH hS hL
  obtain ⟨e1, e2⟩ := h
  subst e1
  subst e2
  obtain ⟨hQ, hr, hA⟩ := hR
  show W _ _ _ _ _ _ _ _ _ _ _ _ _ _ (qx_Q X) _
  rw [hQ]
  rw [hA] at hS
  exact W.zret (qk_ex hX) (qk_by hX) hr hn (fun t ht hW => ⟨⟨x, (), rfl, rfl, by show qm_H _ _ t.heap; rw [ht]; exact hH⟩, hS.F ht⟩) hS.2.2 (qk_d hX hd) hX.2.2.1
theorem qb_iret (hX : qm_ok X own cc nL f lo il) (k : Nat) {x r0 : Int32} {σ0 : qm_Mem} {a : α} (hd : qm_nth il k = some (pc, .ireturn, 1, pc')) (hR : qm_RI X r0 σ0 .int) (h : ∀ σ, κ a σ → x = r0 ∧ σ = σ0) : qm_B X (mP a) pc ρ [.int x] κ := by
  intro σ b σ' h1 h2
  cases h1
  exact qj_ret hX hd hR rfl (h _ h2)
theorem qb_zret (hX : qm_ok X own cc nL f lo il) (k : Nat) {x r0 : Int32} {σ0 : qm_Mem} {a : Int32 → α} (hd : qm_nth il k = some (pc, .ireturn, 1, pc')) (hR : qm_RI X r0 σ0 .boolean) (h : ∀ σ, κ (a x) σ → x = r0 ∧ σ = σ0) : qm_B X (mB (mZ x) (fun y => mP (a y))) pc ρ [.int x] κ := by
  intro σ b σ' h1 h2
  obtain ⟨y, σ1, e1, e2⟩ := mB_some h1
  unfold mZ at e1
  split at e1
  · rename_i hz
    cases e1
    cases e2
    refine qj_ret hX hd hR ?_ (h _ h2)
    rcases hz with q | q
    · rw [q]; rfl
    · rw [q]; rfl
  · cases e1
theorem qb_vret (hX : qm_ok X own cc nL f lo il) (k : Nat) {σ0 : qm_Mem} {a : α} (hd : qm_nth il k = some (pc, .return_, 1, pc')) (hR : qm_RV X σ0) (h : ∀ σ, κ a σ → σ = σ0) : qm_B X (mP a) pc ρ [] κ := by
  intro σ b σ' h1 h2
  cases h1
  have e2 := h _ h2
  intro H locs ls hH hS hL
  subst e2
  obtain ⟨hQ, hr, hA⟩ := hR
  show W _ _ _ _ _ _ _ _ _ _ _ _ _ _ (qx_Q X) _
  rw [hQ]
  rw [hA] at hS
  exact W.vret (qk_ex hX) (qk_by hX) hr (fun t ht hW => ⟨⟨(), rfl, trivial, by show qm_H _ _ t.heap; rw [ht]; exact hH⟩, hS.F ht⟩) hS.2.2 (qk_d hX hd) hX.2.2.1
theorem qb_aret (hX : qm_ok X own cc nL f lo il) (k : Nat) {x r0 : Nat} {σ0 : qm_Mem} {ty : FieldType} {a : α} (hd : qm_nth il k = some (pc, .areturn, 1, pc')) (hR : qm_RR X r0 σ0 ty) (h : ∀ σ, κ a σ → x = r0 ∧ σ = σ0) : qm_B X (mP a) pc ρ [.ref (qx_ad X x)] κ := by
  intro σ b σ' h1 h2
  cases h1
  obtain ⟨e1, e2⟩ := h _ h2
  intro H locs ls hH hS hL
  subst e1
  subst e2
  obtain ⟨hQ, hr, hrt, hA⟩ := hR
  show W _ _ _ _ _ _ _ _ _ _ _ _ _ _ (qx_Q X) _
  rw [hQ]
  rw [hA] at hS
  exact W.aret (qk_ex hX) (qk_by hX) hr hrt (Or.inr ⟨_, rfl⟩) (fun t ht hW => ⟨⟨(), _, rfl, trivial, rfl, by show qm_H _ _ t.heap; rw [ht]; exact hH⟩, hS.F ht⟩) hS.2.2 (qk_d hX hd) hX.2.2.1
end QR
theorem qm_metI {l : Launch} {G : qm_G} {y : MethodName} {b : ByteArray} {nL : Nat} {ret : Option FieldType} {f lo : Nat} {av : List Value} {m : qm_M Int32} {il : List qm_I} {ty : FieldType} (hy : plainName y.cls = true) (hil : qm_D b il) (hc : ∀ v ∈ av, v.category = 1) (hn : av.length ≤ nL) (hG : qm_GI G) (hret : ret = some ty)
    (body : ∀ X, qx_l X = l → qx_G X = G → qm_ok X y.cls b nL f lo il → ∀ r0 σ0, qm_RI X r0 σ0 ty → qm_B X m 0 (av.map some ++ List.replicate (nL - av.length) none) [] (fun r σ1 => r = r0 ∧ σ1 = σ0)) : qm_MI l G y b nL ret f lo av m := by
  intro σ r σ' hm sz
  refine Met.ofW (cc := b) (maxL := nL) (ret := ret) hy rfl ?_
  intro p e s mi args below meth c s₁ B hml hv
  obtain ⟨rfl, hsz, hH, hK, hZ⟩ := hv
  subst hsz
  have hts := atoms_spec (ws := qm_w y b nL ret) B.pre
  have hok : qm_ok (p, l, e, qm_rm f lo, s, mi, av.toArray, below, meth, c, G, qm_A G s.heap.size, 0, 0, MQ below (qm_Qi G r σ' s.heap.size) av.toArray s 0 0 (qm_A G s.heap.size)) y.cls b nL f lo il :=
    ⟨⟨B.exec, B.bytes, hml, findClass_of_methodNamed B.named, fun w hw => hts w (List.mem_cons_of_mem _ hw)⟩, hil, B.notSynchronized, hK, hZ, hG, ⟨fun i hi => Or.inl ⟨i, hi, rfl⟩, fun q hq => Or.inr hq⟩, rfl, rfl, Nat.le_refl _, Nat.le_refl _⟩
  have hb := body _ rfl rfl hok r σ' ⟨rfl, B.returns.trans hret, rfl⟩ σ r σ' hm ⟨rfl, rfl⟩
  rw [lg_entry_eq]
  exact hb s.heap [] _ hH va_S.rf (by show qm_L _ c.maxLocals _; rw [hml]; exact qm_entry av nL hc hn)
theorem qm_metV {l : Launch} {G : qm_G} {y : MethodName} {b : ByteArray} {nL : Nat} {f lo : Nat} {av : List Value} {m : qm_M Unit} {il : List qm_I} (hy : plainName y.cls = true) (hil : qm_D b il) (hc : ∀ v ∈ av, v.category = 1) (hn : av.length ≤ nL) (hG : qm_GI G)
    (body : ∀ X, qx_l X = l → qx_G X = G → qm_ok X y.cls b nL f lo il → ∀ σ0, qm_RV X σ0 → qm_B X m 0 (av.map some ++ List.replicate (nL - av.length) none) [] (fun _ σ1 => σ1 = σ0)) : qm_MV l G y b nL f lo av m := by
  intro σ r σ' hm sz
  refine Met.ofW (cc := b) (maxL := nL) (ret := none) hy rfl ?_
  intro p e s mi args below meth c s₁ B hml hv
  obtain ⟨rfl, hsz, hH, hK, hZ⟩ := hv
  subst hsz
  have hts := atoms_spec (ws := qm_w y b nL none) B.pre
  have hok : qm_ok (p, l, e, qm_rm f lo, s, mi, av.toArray, below, meth, c, G, qm_A G s.heap.size, 0, 0, MQ below (qm_Qv G σ' s.heap.size) av.toArray s 0 0 (qm_A G s.heap.size)) y.cls b nL f lo il :=
    ⟨⟨B.exec, B.bytes, hml, findClass_of_methodNamed B.named, fun w hw => hts w (List.mem_cons_of_mem _ hw)⟩, hil, B.notSynchronized, hK, hZ, hG, ⟨fun i hi => Or.inl ⟨i, hi, rfl⟩, fun q hq => Or.inr hq⟩, rfl, rfl, Nat.le_refl _, Nat.le_refl _⟩
  have hb := body _ rfl rfl hok σ' ⟨rfl, B.returns, rfl⟩ σ r σ' hm rfl
  rw [lg_entry_eq]
  exact hb s.heap [] _ hH va_S.rf (by show qm_L _ c.maxLocals _; rw [hml]; exact qm_entry av nL hc hn)
theorem qm_metR {l : Launch} {G : qm_G} {y : MethodName} {b : ByteArray} {nL : Nat} {ret : Option FieldType} {f lo : Nat} {av : List Value} {m : qm_M Nat} {il : List qm_I} {ty : FieldType} (hy : plainName y.cls = true) (hil : qm_D b il) (hc : ∀ v ∈ av, v.category = 1) (hn : av.length ≤ nL) (hG : qm_GI G) (hret : ret = some ty) (hty : (∃ n, ty = .object n) ∨ ∃ t, ty = .array t)
    (body : ∀ X, qx_l X = l → qx_G X = G → qm_ok X y.cls b nL f lo il → ∀ r0 σ0, qm_RR X r0 σ0 ty → qm_B X m 0 (av.map some ++ List.replicate (nL - av.length) none) [] (fun r σ1 => r = r0 ∧ σ1 = σ0)) : qm_MR l G y b nL ret f lo av m := by
  intro σ r σ' hm sz
  refine Met.ofW (cc := b) (maxL := nL) (ret := ret) hy rfl ?_
  intro p e s mi args below meth c s₁ B hml hv
  obtain ⟨rfl, hsz, hH, hK, hZ⟩ := hv
  subst hsz
  have hts := atoms_spec (ws := qm_w y b nL ret) B.pre
  have hok : qm_ok (p, l, e, qm_rm f lo, s, mi, av.toArray, below, meth, c, G, qm_A G s.heap.size, 0, 0, MQ below (qm_Qr G r σ' s.heap.size) av.toArray s 0 0 (qm_A G s.heap.size)) y.cls b nL f lo il :=
    ⟨⟨B.exec, B.bytes, hml, findClass_of_methodNamed B.named, fun w hw => hts w (List.mem_cons_of_mem _ hw)⟩, hil, B.notSynchronized, hK, hZ, hG, ⟨fun i hi => Or.inl ⟨i, hi, rfl⟩, fun q hq => Or.inr hq⟩, rfl, rfl, Nat.le_refl _, Nat.le_refl _⟩
  have hb := body _ rfl rfl hok r σ' ⟨rfl, B.returns.trans hret, hty, rfl⟩ σ r σ' hm ⟨rfl, rfl⟩
  rw [lg_entry_eq]
  exact hb s.heap [] _ hH va_S.rf (by show qm_L _ c.maxLocals _; rw [hml]; exact qm_entry av nL hc hn)
end
section
theorem qw_0 {as : List (Option Value)} : qm_wk as [] := by cases as <;> exact trivial
theorem qw_n {a : Option Value} {as bs : List (Option Value)} (h : qm_wk as bs) : qm_wk (a :: as) (none :: bs) := ⟨Or.inl rfl, h⟩
theorem qw_s {a : Option Value} {as bs : List (Option Value)} (h : qm_wk as bs) : qm_wk (a :: as) (a :: bs) := ⟨Or.inr rfl, h⟩
theorem qm_kfl {t k t' : Nat} (ht : 10 ≤ t) (h : ∀ a, a < qm_N → (qm_kd a).1 = t → (qm_kd (qm_rf a k)).1 = t') (a : Nat) (ha : (qm_kd a).1 = t) : (qm_kd (qm_rf a k)).1 = t' := h a (qm_own a (by omega)) ha
theorem ka_4 {a : Nat} (h : (qm_kd a).1 = 4) : ∀ j, j < (qm_kd a).2 → (qm_kd (qm_rf a j)).1 = 1 :=
  (by decide +kernel : ∀ a, a < 500 → (qm_kd a).1 = 4 → ∀ j, j < (qm_kd a).2 → (qm_kd (qm_rf a j)).1 = 1) a (qm_near (by decide) h) h
theorem ka_5 {a : Nat} (h : (qm_kd a).1 = 5) : ∀ j, j < (qm_kd a).2 → (qm_kd (qm_rf a j)).1 = 14 :=
  (by decide +kernel : ∀ a, a < 500 → (qm_kd a).1 = 5 → ∀ j, j < (qm_kd a).2 → (qm_kd (qm_rf a j)).1 = 14) a (qm_near (by decide) h) h
section QB
variable {X : qm_X} {own : String} {cc : ByteArray} {nL f lo : Nat} {il : List qm_I}
variable {α : Type} {m : qm_M α} {pc pc' : Nat} {ρ : List (Option Value)} {st : List Value} {κ : α → qm_Mem → Prop}
theorem qb_loopw {S : Type} {step : S → qm_M (S ⊕ α)} (s0 : S) (ρ' : S → List (Option Value)) (hw : qm_wk ρ (ρ' s0)) (h : ∀ s, qm_B X (step s) pc (ρ' s) st (fun r σ1 => Sum.elim (fun s' => qm_J X pc (ρ' s') st σ1) (fun o => κ o σ1) r)) : qm_B X (mW step s0) pc ρ st κ := qb_wk hw (qb_loop s0 ρ' h)
theorem qb_istore_nL (hX : qm_ok X own cc nL f lo il) (k : Nat) {i : Fin 4} {x : Int32} {g : Int32 → qm_M α} (ρ' : Int32 → List (Option Value)) (hd : qm_nth il k = some (pc, .istore_n i, 1, pc')) (hi : (i : Nat) < nL) (hr : ∀ y, ρ.set (i : Nat) (some (.int y)) = ρ' y) (h : ∀ y, qm_B X (g y) pc' (ρ' y) st κ) : qm_B X (mB (mP x) g) pc ρ (.int x :: st) κ :=
  qb_istore_n hX k (ρ' x) hd hi (hr x) (h x)
theorem qb_istoreL (hX : qm_ok X own cc nL f lo il) (k : Nat) {i : Nat} {x : Int32} {g : Int32 → qm_M α} (ρ' : Int32 → List (Option Value)) (hd : qm_nth il k = some (pc, .istore i, 2, pc')) (hi : i < nL) (hr : ∀ y, ρ.set i (some (.int y)) = ρ' y) (h : ∀ y, qm_B X (g y) pc' (ρ' y) st κ) : qm_B X (mB (mP x) g) pc ρ (.int x :: st) κ :=
  qb_istore hX k (ρ' x) hd hi (hr x) (h x)
theorem qb_zret1 (hX : qm_ok X own cc nL f lo il) (k : Nat) {x r0 : Int32} {σ0 : qm_Mem} {a : α} (hd : qm_nth il k = some (pc, .ireturn, 1, pc')) (hR : qm_RI X r0 σ0 .boolean) (hz : x = 0 ∨ x = 1) (h : ∀ σ, κ a σ → x = r0 ∧ σ = σ0) : qm_B X (mP a) pc ρ [.int x] κ := by
  intro σ b σ' h1 h2
  cases h1
  refine qj_ret hX hd hR ?_ (h _ h2)
  rcases hz with q | q
  · rw [q]; rfl
  · rw [q]; rfl
theorem qb_i2l (hX : qm_ok X own cc nL f lo il) (k : Nat) {x : Int32} (hd : qm_nth il k = some (pc, .i2l, 1, pc')) (h : qm_B X m pc' ρ (.long x.toInt64 :: st) κ) : qm_B X m pc ρ (.int x :: st) κ := by
  cases qk_n hX hd
  exact qb_0 (fun H locs ls hL hh => lv_i2l (qk_ex hX) (qk_by hX) (qk_d hX hd) rfl (hh ls hL)) h
theorem qb_lconst (hX : qm_ok X own cc nL f lo il) (k : Nat) {n : Fin 2} (v : Int64) (hd : qm_nth il k = some (pc, .lconst n, 1, pc')) (hv : Int64.ofNat (n : Nat) = v) (h : qm_B X m pc' ρ (.long v :: st) κ) : qm_B X m pc ρ st κ := by
  cases qk_n hX hd
  exact qb_0 (fun H locs ls hL hh => lv_lconst (qk_ex hX) (qk_by hX) (qk_d hX hd) hv (hh ls hL)) h
theorem qb_ldc2w (hX : qm_ok X own cc nL f lo il) (k : Nat) {n : Nat} (v : Int64) (hd : qm_nth il k = some (pc, .ldc2_w n, 3, pc')) (hw : Cond.constantLong own n v ∈ qm_tb) (h : qm_B X m pc' ρ (.long v :: st) κ) : qm_B X m pc ρ st κ := by
  cases qk_n hX hd
  exact qb_0 (fun H locs ls hL hh => lv_ldc2 (qk_ex hX) (qk_by hX) (qk_ow hX) (qk_ts hX _ hw) (qk_d hX hd) (hh ls hL)) h
end QB
end
section
def jy_Fitter_init : MethodName := ⟨qr_Fitter, "<init>", "(LColumnsLevelled$Run;LColumnsLevelled$Flow;)V"⟩
def jy_Fitter_forget : MethodName := ⟨qr_Fitter, "forget", "()V"⟩
def jy_Fitter_leftOver : MethodName := ⟨qr_Fitter, "leftOver", "(IIII)I"⟩
def jy_Fitter_linesIn : MethodName := ⟨qr_Fitter, "linesIn", "(I)I"⟩
def jy_Fitter_bearsAt : MethodName := ⟨qr_Fitter, "bearsAt", "(II)I"⟩
def jy_Fitter_leastOf : MethodName := ⟨qr_Fitter, "leastOf", "(I)I"⟩
def jy_Fitter_leastFrom : MethodName := ⟨qr_Fitter, "leastFrom", "(IIII)I"⟩
def jy_Fitter_slotOf : MethodName := ⟨qr_Fitter, "slotOf", "(III)I"⟩
def jy_Fitter_measure : MethodName := ⟨qr_Fitter, "measure", "(III)V"⟩
def jy_Fitter_bearsFrom : MethodName := ⟨qr_Fitter, "bearsFrom", "(II[I)I"⟩
def jy_Fitter_latest : MethodName := ⟨qr_Fitter, "latest", "(IIIII)I"⟩
def jy_Flow_init : MethodName := ⟨qr_Flow, "<init>", "(LColumnsLevelled$Run;)V"⟩
def jy_Flow_lay : MethodName := ⟨qr_Flow, "lay", "()V"⟩
def jy_Flow_openSection : MethodName := ⟨qr_Flow, "openSection", "(I)V"⟩
def jy_Flow_layPieces : MethodName := ⟨qr_Flow, "layPieces", "(I)V"⟩
def jy_Flow_markEnds : MethodName := ⟨qr_Flow, "markEnds", "()V"⟩
def jy_Flow_markEnd : MethodName := ⟨qr_Flow, "markEnd", "(I)V"⟩
def jy_Flow_endsBehind : MethodName := ⟨qr_Flow, "endsBehind", "(II)Z"⟩
def jy_Flow_spans : MethodName := ⟨qr_Flow, "spans", "()I"⟩
def jy_Flow_mayEnd : MethodName := ⟨qr_Flow, "mayEnd", "(I)Z"⟩
def jy_Flow_endsIn : MethodName := ⟨qr_Flow, "endsIn", "(II)I"⟩
def jy_Flow_ownLines : MethodName := ⟨qr_Flow, "ownLines", "(II)I"⟩
def jy_Flow_lastLinesAhead : MethodName := ⟨qr_Flow, "lastLinesAhead", "(I)I"⟩
def jy_Flow_text : MethodName := ⟨qr_Flow, "text", "(II)I"⟩
def jy_Past_init : MethodName := ⟨qr_Past, "<init>", "()V"⟩
def jy_Past_push : MethodName := ⟨qr_Past, "push", "(LColumnsLevelled$Run;)V"⟩
def jy_Past_pop : MethodName := ⟨qr_Past, "pop", "(LColumnsLevelled$Run;)V"⟩
def jy_Press_init : MethodName := ⟨qr_Press, "<init>", "(LColumnsLevelled$Run;I)V"⟩
def jy_Press_lay : MethodName := ⟨qr_Press, "lay", "()V"⟩
def jy_Press_pourAll : MethodName := ⟨qr_Press, "pourAll", "()I"⟩
def jy_Press_answer : MethodName := ⟨qr_Press, "answer", "()I"⟩
def jy_Press_turnPage : MethodName := ⟨qr_Press, "turnPage", "()V"⟩
def jy_Press_pageIsFree : MethodName := ⟨qr_Press, "pageIsFree", "()Z"⟩
def jy_Press_putSpan : MethodName := ⟨qr_Press, "putSpan", "(I)V"⟩
def jy_Press_pourSection : MethodName := ⟨qr_Press, "pourSection", "(I)V"⟩
def jy_Press_level : MethodName := ⟨qr_Press, "level", "(II)V"⟩
def jy_Press_fill : MethodName := ⟨qr_Press, "fill", "(I)Z"⟩
def jy_Press_putColumn : MethodName := ⟨qr_Press, "putColumn", "(IIIIZ)Z"⟩
def jy_Press_cell : MethodName := ⟨qr_Press, "cell", "(II)I"⟩
def jy_Press_used : MethodName := ⟨qr_Press, "used", "(I)I"⟩
def jy_Press_columnOf : MethodName := ⟨qr_Press, "columnOf", "(I)I"⟩
def jy_Press_leftOfNote : MethodName := ⟨qr_Press, "leftOfNote", "(II)I"⟩
def jy_Press_linesByMark : MethodName := ⟨qr_Press, "linesByMark", "(I)I"⟩
def jy_Press_columnsOfNote : MethodName := ⟨qr_Press, "columnsOfNote", "(I)I"⟩
def jy_Run_init : MethodName := ⟨qr_Run, "<init>", "()V"⟩
def jy_Run_takes : MethodName := ⟨qr_Run, "takes", "(II)Z"⟩
def jy_Run_clear : MethodName := ⟨qr_Run, "clear", "()V"⟩
def jy_Run_copyFrom : MethodName := ⟨qr_Run, "copyFrom", "(LColumnsLevelled$Run;)V"⟩
def jy_Run_setting : MethodName := ⟨qr_Run, "setting", "(I)I"⟩
def jy_Run_put : MethodName := ⟨qr_Run, "put", "(II)V"⟩
def jy_Run_has : MethodName := ⟨qr_Run, "has", "(I)Z"⟩
def jy_Run_hasPieces : MethodName := ⟨qr_Run, "hasPieces", "(I)Z"⟩
def jy_Run_cell : MethodName := ⟨qr_Run, "cell", "(II)I"⟩
def jy_Run_putCell : MethodName := ⟨qr_Run, "putCell", "(III)V"⟩
def jy_Run_allPieces : MethodName := ⟨qr_Run, "allPieces", "()I"⟩
def jy_Run_add : MethodName := ⟨qr_Run, "add", "(I)I"⟩
def jy_Run_exchange : MethodName := ⟨qr_Run, "exchange", "(II)V"⟩
def jy_Run_repeat : MethodName := ⟨qr_Run, "repeat", "(I)V"⟩
def jy_Run_remove : MethodName := ⟨qr_Run, "remove", "(I)V"⟩
def jy_Run_copyCells : MethodName := ⟨qr_Run, "copyCells", "(II)V"⟩
def jy_Run_noteAt : MethodName := ⟨qr_Run, "noteAt", "(II)I"⟩
def jy_Run_addMark : MethodName := ⟨qr_Run, "addMark", "(III)V"⟩
def jy_Tape_init : MethodName := ⟨qr_Tape, "<init>", "()V"⟩
def jy_Tape_append : MethodName := ⟨qr_Tape, "append", "(I)V"⟩
def jy_Teller_init : MethodName := ⟨qr_Teller, "<init>", "(LColumnsLevelled$Tape;)V"⟩
def jy_Teller_read : MethodName := ⟨qr_Teller, "read", "()I"⟩
def jy_Teller_split : MethodName := ⟨qr_Teller, "split", "()V"⟩
def jy_Teller_signOf : MethodName := ⟨qr_Teller, "signOf", "(I)I"⟩
def jy_Teller_numberOf : MethodName := ⟨qr_Teller, "numberOf", "(II)I"⟩
def jy_Teller_wordOf : MethodName := ⟨qr_Teller, "wordOf", "(II)I"⟩
def jy_Teller_isWord : MethodName := ⟨qr_Teller, "isWord", "(III)Z"⟩
def jy_Teller_readPart : MethodName := ⟨qr_Teller, "readPart", "()V"⟩
def jy_Teller_readSetting : MethodName := ⟨qr_Teller, "readSetting", "(II)V"⟩
def jy_Teller_readBlock : MethodName := ⟨qr_Teller, "readBlock", "(II)V"⟩
def jy_Teller_mostHigh : MethodName := ⟨qr_Teller, "mostHigh", "(I)I"⟩
def jy_Teller_readWords : MethodName := ⟨qr_Teller, "readWords", "(II)V"⟩
def jy_Teller_readMark : MethodName := ⟨qr_Teller, "readMark", "(II)V"⟩
def jy_Teller_tellOnce : MethodName := ⟨qr_Teller, "tellOnce", "(II)V"⟩
def jy_Teller_readWord : MethodName := ⟨qr_Teller, "readWord", "()I"⟩
def jy_Teller_readNumber : MethodName := ⟨qr_Teller, "readNumber", "(II)I"⟩
def jy_Teller_wrong : MethodName := ⟨qr_Teller, "wrong", "(II)V"⟩
def jy_Teller_sign : MethodName := ⟨qr_Teller, "sign", "()I"⟩
def jy_Teller_place : MethodName := ⟨qr_Teller, "place", "()I"⟩
def jy_Walker_init : MethodName := ⟨qr_Walker, "<init>", "(LColumnsLevelled$Press;)V"⟩
def jy_Top_init : MethodName := ⟨qr_Top, "<init>", "()V"⟩
def jy_Top_feed : MethodName := ⟨qr_Top, "feed", "(IIIII)I"⟩
def jy_Top_end : MethodName := ⟨qr_Top, "end", "(I)I"⟩
def jy_Top_tell : MethodName := ⟨qr_Top, "tell", "()I"⟩
def jy_Top_set : MethodName := ⟨qr_Top, "set", "(II)I"⟩
def jy_Top_tie : MethodName := ⟨qr_Top, "tie", "(IZ)I"⟩
def jy_Top_space : MethodName := ⟨qr_Top, "space", "(II)I"⟩
def jy_Top_swap : MethodName := ⟨qr_Top, "swap", "(II)I"⟩
def jy_Top_again : MethodName := ⟨qr_Top, "again", "(I)I"⟩
def jy_Top_drop : MethodName := ⟨qr_Top, "drop", "(I)I"⟩
def jy_Top_undo : MethodName := ⟨qr_Top, "undo", "()I"⟩
def jy_Top_keep : MethodName := ⟨qr_Top, "keep", "(I)I"⟩
def jy_Top_back : MethodName := ⟨qr_Top, "back", "(I)I"⟩
def jy_Top_block : MethodName := ⟨qr_Top, "block", "(II)I"⟩
def jy_Top_piece : MethodName := ⟨qr_Top, "piece", "(II)I"⟩
def jy_Top_section : MethodName := ⟨qr_Top, "section", "(II)I"⟩
def jy_Top_count : MethodName := ⟨qr_Top, "count", "(I)I"⟩
def jy_Top_pour : MethodName := ⟨qr_Top, "pour", "()I"⟩
def jy_Top_column : MethodName := ⟨qr_Top, "column", "(II)I"⟩
def jy_Top_note : MethodName := ⟨qr_Top, "note", "(II)I"⟩
def jy_Top_loose : MethodName := ⟨qr_Top, "loose", "(I)I"⟩
def jy_Top_least : MethodName := ⟨qr_Top, "least", "(I)I"⟩
def jy_Top_at : MethodName := ⟨qr_Top, "at", "([II)I"⟩
def jy_Top_beginAct : MethodName := ⟨qr_Top, "beginAct", "()V"⟩
def jy_Top_changed : MethodName := ⟨qr_Top, "changed", "()V"⟩
def jy_Top_laidOut : MethodName := ⟨qr_Top, "laidOut", "()LColumnsLevelled$Press;"⟩
def jy_Top_pouredNow : MethodName := ⟨qr_Top, "pouredNow", "()LColumnsLevelled$Press;"⟩
def jy_Top_asks : MethodName := ⟨qr_Top, "asks", "(II)Z"⟩
def jy_Math_max : MethodName := ⟨"java/lang/Math", "max", "(II)I"⟩
def jy_Math_min : MethodName := ⟨"java/lang/Math", "min", "(II)I"⟩
def jy_String_init_81219 : MethodName := ⟨"java/lang/String", "<init>", "(Ljava/lang/StringBuilder;)V"⟩
def jy_String_length : MethodName := ⟨"java/lang/String", "length", "()I"⟩
def jy_String_charAt : MethodName := ⟨"java/lang/String", "charAt", "(I)C"⟩
def jy_String_getBytes : MethodName := ⟨"java/lang/String", "getBytes", "([BIB)V"⟩
def jy_String_init_db425 : MethodName := ⟨"java/lang/String", "<init>", "(Ljava/lang/AbstractStringBuilder;Ljava/lang/Void;)V"⟩
def jy_String_coder : MethodName := ⟨"java/lang/String", "coder", "()B"⟩
def jy_String_isLatin1 : MethodName := ⟨"java/lang/String", "isLatin1", "()Z"⟩
def jy_String_checkIndex : MethodName := ⟨"java/lang/String", "checkIndex", "(II)V"⟩
def jy_String_checkBoundsOffCount : MethodName := ⟨"java/lang/String", "checkBoundsOffCount", "(III)I"⟩
def jy_String_checkBoundsBeginEnd : MethodName := ⟨"java/lang/String", "checkBoundsBeginEnd", "(III)V"⟩
theorem jc_0 : qm_cls 0 qr_Fitter qt_Fitter 10 := ⟨rfl, fun w hw => (fun h => qm_good h.1 h.2) ((by decide +kernel : ∀ w ∈ u_ws qr_Fitter qt_Fitter 10, w ∈ lw_tbl ∧ goodWord w = true) w hw)⟩
def qy_Fitter : Nat → FieldType := fun k => match k with
  | 0 => .object "ColumnsLevelled$Run"
  | 1 => .object "ColumnsLevelled$Flow"
  | 2 => .int
  | 3 => .int
  | 4 => .array (.array (.int))
  | 5 => .int
  | 6 => .int
  | 7 => .int
  | 8 => .array (.int)
  | _ => .boolean
theorem qn_Fitter : ∀ k, k < 10 → parseFieldDescriptor (qt_Fitter k).2.2.1 = some (qy_Fitter k) := by decide +kernel
theorem qv_Fitter : ∀ a, a < 10 → ∀ b, b < 10 → a ≠ b → (qt_Fitter a).2.1 ≠ (qt_Fitter b).2.1 := by decide +kernel
theorem jc_1 : qm_cls 1 qr_Flow qt_Flow 20 := ⟨rfl, fun w hw => (fun h => qm_good h.1 h.2) ((by decide +kernel : ∀ w ∈ u_ws qr_Flow qt_Flow 20, w ∈ lw_tbl ∧ goodWord w = true) w hw)⟩
def qy_Flow : Nat → FieldType := fun k => match k with
  | 0 => .int
  | 1 => .int
  | 2 => .int
  | 3 => .object "ColumnsLevelled$Run"
  | 4 => .array (.int)
  | 5 => .array (.int)
  | 6 => .array (.int)
  | 7 => .array (.int)
  | 8 => .array (.int)
  | 9 => .array (.int)
  | 10 => .array (.int)
  | 11 => .array (.int)
  | 12 => .array (.int)
  | 13 => .array (.int)
  | 14 => .array (.int)
  | 15 => .array (.boolean)
  | 16 => .array (.int)
  | 17 => .array (.int)
  | 18 => .array (.int)
  | _ => .array (.int)
theorem qn_Flow : ∀ k, k < 20 → parseFieldDescriptor (qt_Flow k).2.2.1 = some (qy_Flow k) := by decide +kernel
theorem qv_Flow : ∀ a, a < 20 → ∀ b, b < 20 → a ≠ b → (qt_Flow a).2.1 ≠ (qt_Flow b).2.1 := by decide +kernel
theorem jc_2 : qm_cls 2 qr_Past qt_Past 3 := ⟨rfl, fun w hw => (fun h => qm_good h.1 h.2) ((by decide +kernel : ∀ w ∈ u_ws qr_Past qt_Past 3, w ∈ lw_tbl ∧ goodWord w = true) w hw)⟩
def qy_Past : Nat → FieldType := fun k => match k with
  | 0 => .array (.object "ColumnsLevelled$Run")
  | 1 => .int
  | _ => .int
theorem qn_Past : ∀ k, k < 3 → parseFieldDescriptor (qt_Past k).2.2.1 = some (qy_Past k) := by decide +kernel
theorem qv_Past : ∀ a, a < 3 → ∀ b, b < 3 → a ≠ b → (qt_Past a).2.1 ≠ (qt_Past b).2.1 := by decide +kernel
theorem jc_3 : qm_cls 3 qr_Press qt_Press 13 := ⟨rfl, fun w hw => (fun h => qm_good h.1 h.2) ((by decide +kernel : ∀ w ∈ u_ws qr_Press qt_Press 13, w ∈ lw_tbl ∧ goodWord w = true) w hw)⟩
def qy_Press : Nat → FieldType := fun k => match k with
  | 0 => .object "ColumnsLevelled$Run"
  | 1 => .object "ColumnsLevelled$Flow"
  | 2 => .object "ColumnsLevelled$Fitter"
  | 3 => .array (.array (.int))
  | 4 => .int
  | 5 => .int
  | 6 => .int
  | 7 => .int
  | 8 => .int
  | 9 => .int
  | 10 => .int
  | 11 => .array (.int)
  | _ => .array (.int)
theorem qn_Press : ∀ k, k < 13 → parseFieldDescriptor (qt_Press k).2.2.1 = some (qy_Press k) := by decide +kernel
theorem qv_Press : ∀ a, a < 13 → ∀ b, b < 13 → a ≠ b → (qt_Press a).2.1 ≠ (qt_Press b).2.1 := by decide +kernel
theorem jc_4 : qm_cls 4 qr_Run qt_Run 3 := ⟨rfl, fun w hw => (fun h => qm_good h.1 h.2) ((by decide +kernel : ∀ w ∈ u_ws qr_Run qt_Run 3, w ∈ lw_tbl ∧ goodWord w = true) w hw)⟩
def qy_Run : Nat → FieldType := fun k => match k with
  | 0 => .int
  | 1 => .array (.int)
  | _ => .array (.int)
theorem qn_Run : ∀ k, k < 3 → parseFieldDescriptor (qt_Run k).2.2.1 = some (qy_Run k) := by decide +kernel
theorem qv_Run : ∀ a, a < 3 → ∀ b, b < 3 → a ≠ b → (qt_Run a).2.1 ≠ (qt_Run b).2.1 := by decide +kernel
theorem jc_5 : qm_cls 5 qr_Tape qt_Tape 2 := ⟨rfl, fun w hw => (fun h => qm_good h.1 h.2) ((by decide +kernel : ∀ w ∈ u_ws qr_Tape qt_Tape 2, w ∈ lw_tbl ∧ goodWord w = true) w hw)⟩
def qy_Tape : Nat → FieldType := fun k => match k with
  | 0 => .array (.int)
  | _ => .int
theorem qn_Tape : ∀ k, k < 2 → parseFieldDescriptor (qt_Tape k).2.2.1 = some (qy_Tape k) := by decide +kernel
theorem qv_Tape : ∀ a, a < 2 → ∀ b, b < 2 → a ≠ b → (qt_Tape a).2.1 ≠ (qt_Tape b).2.1 := by decide +kernel
theorem jc_6 : qm_cls 6 qr_Teller qt_Teller 8 := ⟨rfl, fun w hw => (fun h => qm_good h.1 h.2) ((by decide +kernel : ∀ w ∈ u_ws qr_Teller qt_Teller 8, w ∈ lw_tbl ∧ goodWord w = true) w hw)⟩
def qy_Teller : Nat → FieldType := fun k => match k with
  | 0 => .object "ColumnsLevelled$Tape"
  | 1 => .object "ColumnsLevelled$Run"
  | 2 => .array (.int)
  | 3 => .array (.int)
  | 4 => .array (.int)
  | 5 => .int
  | 6 => .int
  | _ => .int
theorem qn_Teller : ∀ k, k < 8 → parseFieldDescriptor (qt_Teller k).2.2.1 = some (qy_Teller k) := by decide +kernel
theorem qv_Teller : ∀ a, a < 8 → ∀ b, b < 8 → a ≠ b → (qt_Teller a).2.1 ≠ (qt_Teller b).2.1 := by decide +kernel
theorem jc_7 : qm_cls 7 qr_Walker qt_Walker 4 := ⟨rfl, fun w hw => (fun h => qm_good h.1 h.2) ((by decide +kernel : ∀ w ∈ u_ws qr_Walker qt_Walker 4, w ∈ lw_tbl ∧ goodWord w = true) w hw)⟩
def qy_Walker : Nat → FieldType := fun k => match k with
  | 0 => .object "ColumnsLevelled$Flow"
  | 1 => .object "ColumnsLevelled$Fitter"
  | 2 => .array (.array (.int))
  | _ => .array (.array (.int))
theorem qn_Walker : ∀ k, k < 4 → parseFieldDescriptor (qt_Walker k).2.2.1 = some (qy_Walker k) := by decide +kernel
theorem qv_Walker : ∀ a, a < 4 → ∀ b, b < 4 → a ≠ b → (qt_Walker a).2.1 ≠ (qt_Walker b).2.1 := by decide +kernel
theorem jc_8 : qm_cls 8 qr_Top qt_Top 11 := ⟨rfl, fun w hw => (fun h => qm_good h.1 h.2) ((by decide +kernel : ∀ w ∈ u_ws qr_Top qt_Top 11, w ∈ lw_tbl ∧ goodWord w = true) w hw)⟩
def qy_Top : Nat → FieldType := fun k => match k with
  | 0 => .object "ColumnsLevelled$Run"
  | 1 => .object "ColumnsLevelled$Tape"
  | 2 => .object "ColumnsLevelled$Teller"
  | 3 => .object "ColumnsLevelled$Past"
  | 4 => .array (.object "ColumnsLevelled$Run")
  | 5 => .int
  | 6 => .object "ColumnsLevelled$Press"
  | 7 => .object "ColumnsLevelled$Press"
  | 8 => .object "ColumnsLevelled$Walker"
  | 9 => .boolean
  | _ => .boolean
theorem qn_Top : ∀ k, k < 11 → parseFieldDescriptor (qt_Top k).2.2.1 = some (qy_Top k) := by decide +kernel
theorem qv_Top : ∀ a, a < 11 → ∀ b, b < 11 → a ≠ b → (qt_Top a).2.1 ≠ (qt_Top b).2.1 := by decide +kernel
theorem jc_9 : qm_cls 9 qr_Flat qt_Flat 11 := ⟨rfl, fun w hw => (fun h => qm_good h.1 h.2) ((by decide +kernel : ∀ w ∈ u_ws qr_Flat qt_Flat 11, w ∈ lw_tbl ∧ goodWord w = true) w hw)⟩
def qy_Flat : Nat → FieldType := fun k => match k with
  | 0 => .object "ColumnsLevelledLaw$Run"
  | 1 => .array (.int)
  | 2 => .array (.int)
  | 3 => .array (.int)
  | 4 => .array (.int)
  | 5 => .array (.int)
  | 6 => .array (.int)
  | 7 => .array (.int)
  | 8 => .array (.int)
  | 9 => .int
  | _ => .int
theorem qn_Flat : ∀ k, k < 11 → parseFieldDescriptor (qt_Flat k).2.2.1 = some (qy_Flat k) := by decide +kernel
theorem qv_Flat : ∀ a, a < 11 → ∀ b, b < 11 → a ≠ b → (qt_Flat a).2.1 ≠ (qt_Flat b).2.1 := by decide +kernel
theorem jc_10 : qm_cls 10 qr_LRun qt_LRun 4 := ⟨rfl, fun w hw => (fun h => qm_good h.1 h.2) ((by decide +kernel : ∀ w ∈ u_ws qr_LRun qt_LRun 4, w ∈ lw_tbl ∧ goodWord w = true) w hw)⟩
def qy_LRun : Nat → FieldType := fun k => match k with
  | 0 => .array (.int)
  | 1 => .int
  | 2 => .array (.array (.int))
  | _ => .array (.array (.int))
theorem qn_LRun : ∀ k, k < 4 → parseFieldDescriptor (qt_LRun k).2.2.1 = some (qy_LRun k) := by decide +kernel
theorem qv_LRun : ∀ a, a < 4 → ∀ b, b < 4 → a ≠ b → (qt_LRun a).2.1 ≠ (qt_LRun b).2.1 := by decide +kernel
theorem jc_11 : qm_cls 11 qr_SB qt_SB 4 := ⟨rfl, fun w hw => (fun h => qm_good h.1 h.2) ((by decide +kernel : ∀ w ∈ u_ws qr_SB qt_SB 4, w ∈ lw_tbl ∧ goodWord w = true) w hw)⟩
def qy_SB : Nat → FieldType := fun k => match k with
  | 0 => .array (.byte)
  | 1 => .byte
  | 2 => .boolean
  | _ => .int
theorem qn_SB : ∀ k, k < 4 → parseFieldDescriptor (qt_SB k).2.2.1 = some (qy_SB k) := by decide +kernel
theorem qv_SB : ∀ a, a < 4 → ∀ b, b < 4 → a ≠ b → (qt_SB a).2.1 ≠ (qt_SB b).2.1 := by decide +kernel
theorem jc_12 : qm_cls 12 qr_String qt_String 4 := ⟨rfl, fun w hw => (fun h => qm_good h.1 h.2) ((by decide +kernel : ∀ w ∈ u_ws qr_String qt_String 4, w ∈ lw_tbl ∧ goodWord w = true) w hw)⟩
def qy_String : Nat → FieldType := fun k => match k with
  | 0 => .array (.byte)
  | 1 => .byte
  | 2 => .int
  | _ => .boolean
theorem qn_String : ∀ k, k < 4 → parseFieldDescriptor (qt_String k).2.2.1 = some (qy_String k) := by decide +kernel
theorem qv_String : ∀ a, a < 4 → ∀ b, b < 4 → a ≠ b → (qt_String a).2.1 ≠ (qt_String b).2.1 := by decide +kernel
theorem fl_Top_12 : qm_FL qr_Top 12 8 0 := ⟨_, _, _, jc_8, by decide, qm_good (List.mem_of_getElem? (i := 381) (by decide +kernel)) rfl⟩
theorem fl_Top_19 : qm_FL qr_Top 19 8 1 := ⟨_, _, _, jc_8, by decide, qm_good (List.mem_of_getElem? (i := 382) (by decide +kernel)) rfl⟩
theorem fl_Top_35 : qm_FL qr_Top 35 8 3 := ⟨_, _, _, jc_8, by decide, qm_good (List.mem_of_getElem? (i := 384) (by decide +kernel)) rfl⟩
theorem fl_Top_39 : qm_FL qr_Top 39 8 4 := ⟨_, _, _, jc_8, by decide, qm_good (List.mem_of_getElem? (i := 385) (by decide +kernel)) rfl⟩
theorem fl_Top_48 : qm_FL qr_Top 48 8 6 := ⟨_, _, _, jc_8, by decide, qm_good (List.mem_of_getElem? (i := 387) (by decide +kernel)) rfl⟩
theorem fl_Top_64 : qm_FL qr_Top 64 5 1 := ⟨_, _, _, jc_5, by decide, qm_good (List.mem_of_getElem? (i := 101) (by decide +kernel)) rfl⟩
theorem fl_Top_83 : qm_FL qr_Top 83 2 2 := ⟨_, _, _, jc_2, by decide, qm_good (List.mem_of_getElem? (i := 155) (by decide +kernel)) rfl⟩
theorem fl_Top_122 : qm_FL qr_Top 122 4 0 := ⟨_, _, _, jc_4, by decide, qm_good (List.mem_of_getElem? (i := 81) (by decide +kernel)) rfl⟩
theorem fl_Top_137 : qm_FL qr_Top 137 8 5 := ⟨_, _, _, jc_8, by decide, qm_good (List.mem_of_getElem? (i := 386) (by decide +kernel)) rfl⟩
theorem fl_Top_144 : qm_FL qr_Top 144 3 1 := ⟨_, _, _, jc_3, by decide, qm_good (List.mem_of_getElem? (i := 318) (by decide +kernel)) rfl⟩
theorem fl_Top_148 : qm_FL qr_Top 148 1 4 := ⟨_, _, _, jc_1, by decide, qm_good (List.mem_of_getElem? (i := 184) (by decide +kernel)) rfl⟩
theorem fl_Top_158 : qm_FL qr_Top 158 1 0 := ⟨_, _, _, jc_1, by decide, qm_good (List.mem_of_getElem? (i := 176) (by decide +kernel)) rfl⟩
theorem fl_Top_161 : qm_FL qr_Top 161 1 5 := ⟨_, _, _, jc_1, by decide, qm_good (List.mem_of_getElem? (i := 186) (by decide +kernel)) rfl⟩
theorem fl_Top_164 : qm_FL qr_Top 164 1 6 := ⟨_, _, _, jc_1, by decide, qm_good (List.mem_of_getElem? (i := 188) (by decide +kernel)) rfl⟩
theorem fl_Top_167 : qm_FL qr_Top 167 1 7 := ⟨_, _, _, jc_1, by decide, qm_good (List.mem_of_getElem? (i := 190) (by decide +kernel)) rfl⟩
theorem fl_Top_170 : qm_FL qr_Top 170 1 8 := ⟨_, _, _, jc_1, by decide, qm_good (List.mem_of_getElem? (i := 193) (by decide +kernel)) rfl⟩
theorem fl_Top_173 : qm_FL qr_Top 173 1 9 := ⟨_, _, _, jc_1, by decide, qm_good (List.mem_of_getElem? (i := 195) (by decide +kernel)) rfl⟩
theorem fl_Top_179 : qm_FL qr_Top 179 1 10 := ⟨_, _, _, jc_1, by decide, qm_good (List.mem_of_getElem? (i := 198) (by decide +kernel)) rfl⟩
theorem fl_Top_182 : qm_FL qr_Top 182 1 1 := ⟨_, _, _, jc_1, by decide, qm_good (List.mem_of_getElem? (i := 179) (by decide +kernel)) rfl⟩
theorem fl_Top_185 : qm_FL qr_Top 185 1 16 := ⟨_, _, _, jc_1, by decide, qm_good (List.mem_of_getElem? (i := 212) (by decide +kernel)) rfl⟩
theorem fl_Top_188 : qm_FL qr_Top 188 1 17 := ⟨_, _, _, jc_1, by decide, qm_good (List.mem_of_getElem? (i := 216) (by decide +kernel)) rfl⟩
theorem fl_Top_191 : qm_FL qr_Top 191 1 18 := ⟨_, _, _, jc_1, by decide, qm_good (List.mem_of_getElem? (i := 219) (by decide +kernel)) rfl⟩
theorem fl_Top_200 : qm_FL qr_Top 200 1 2 := ⟨_, _, _, jc_1, by decide, qm_good (List.mem_of_getElem? (i := 181) (by decide +kernel)) rfl⟩
theorem fl_Top_212 : qm_FL qr_Top 212 3 4 := ⟨_, _, _, jc_3, by decide, qm_good (List.mem_of_getElem? (i := 324) (by decide +kernel)) rfl⟩
theorem fl_Top_222 : qm_FL qr_Top 222 1 19 := ⟨_, _, _, jc_1, by decide, qm_good (List.mem_of_getElem? (i := 221) (by decide +kernel)) rfl⟩
theorem fl_Top_240 : qm_FL qr_Top 240 3 9 := ⟨_, _, _, jc_3, by decide, qm_good (List.mem_of_getElem? (i := 330) (by decide +kernel)) rfl⟩
theorem fl_Top_267 : qm_FL qr_Top 267 3 2 := ⟨_, _, _, jc_3, by decide, qm_good (List.mem_of_getElem? (i := 321) (by decide +kernel)) rfl⟩
theorem fl_Top_330 : qm_FL qr_Top 330 8 9 := ⟨_, _, _, jc_8, by decide, qm_good (List.mem_of_getElem? (i := 390) (by decide +kernel)) rfl⟩
theorem fl_Top_334 : qm_FL qr_Top 334 8 10 := ⟨_, _, _, jc_8, by decide, qm_good (List.mem_of_getElem? (i := 391) (by decide +kernel)) rfl⟩
theorem fl_Fitter_9 : qm_FL qr_Fitter 9 0 0 := ⟨_, _, _, jc_0, by decide, qm_good (List.mem_of_getElem? (i := 280) (by decide +kernel)) rfl⟩
theorem fl_Fitter_15 : qm_FL qr_Fitter 15 0 1 := ⟨_, _, _, jc_0, by decide, qm_good (List.mem_of_getElem? (i := 281) (by decide +kernel)) rfl⟩
theorem fl_Fitter_21 : qm_FL qr_Fitter 21 0 4 := ⟨_, _, _, jc_0, by decide, qm_good (List.mem_of_getElem? (i := 284) (by decide +kernel)) rfl⟩
theorem fl_Fitter_24 : qm_FL qr_Fitter 24 0 8 := ⟨_, _, _, jc_0, by decide, qm_good (List.mem_of_getElem? (i := 288) (by decide +kernel)) rfl⟩
theorem fl_Fitter_28 : qm_FL qr_Fitter 28 0 9 := ⟨_, _, _, jc_0, by decide, qm_good (List.mem_of_getElem? (i := 289) (by decide +kernel)) rfl⟩
theorem fl_Fitter_41 : qm_FL qr_Fitter 41 0 2 := ⟨_, _, _, jc_0, by decide, qm_good (List.mem_of_getElem? (i := 282) (by decide +kernel)) rfl⟩
theorem fl_Fitter_45 : qm_FL qr_Fitter 45 0 3 := ⟨_, _, _, jc_0, by decide, qm_good (List.mem_of_getElem? (i := 283) (by decide +kernel)) rfl⟩
theorem fl_Fitter_48 : qm_FL qr_Fitter 48 0 5 := ⟨_, _, _, jc_0, by decide, qm_good (List.mem_of_getElem? (i := 285) (by decide +kernel)) rfl⟩
theorem fl_Fitter_75 : qm_FL qr_Fitter 75 1 16 := ⟨_, _, _, jc_1, by decide, qm_good (List.mem_of_getElem? (i := 211) (by decide +kernel)) rfl⟩
theorem fl_Fitter_93 : qm_FL qr_Fitter 93 1 17 := ⟨_, _, _, jc_1, by decide, qm_good (List.mem_of_getElem? (i := 215) (by decide +kernel)) rfl⟩
theorem fl_Fitter_99 : qm_FL qr_Fitter 99 0 6 := ⟨_, _, _, jc_0, by decide, qm_good (List.mem_of_getElem? (i := 286) (by decide +kernel)) rfl⟩
theorem fl_Fitter_102 : qm_FL qr_Fitter 102 0 7 := ⟨_, _, _, jc_0, by decide, qm_good (List.mem_of_getElem? (i := 287) (by decide +kernel)) rfl⟩
theorem fl_Fitter_105 : qm_FL qr_Fitter 105 1 15 := ⟨_, _, _, jc_1, by decide, qm_good (List.mem_of_getElem? (i := 208) (by decide +kernel)) rfl⟩
theorem fl_Fitter_113 : qm_FL qr_Fitter 113 1 12 := ⟨_, _, _, jc_1, by decide, qm_good (List.mem_of_getElem? (i := 202) (by decide +kernel)) rfl⟩
theorem fl_Fitter_116 : qm_FL qr_Fitter 116 1 8 := ⟨_, _, _, jc_1, by decide, qm_good (List.mem_of_getElem? (i := 192) (by decide +kernel)) rfl⟩
theorem fl_Fitter_119 : qm_FL qr_Fitter 119 1 11 := ⟨_, _, _, jc_1, by decide, qm_good (List.mem_of_getElem? (i := 200) (by decide +kernel)) rfl⟩
theorem fl_Fitter_122 : qm_FL qr_Fitter 122 1 13 := ⟨_, _, _, jc_1, by decide, qm_good (List.mem_of_getElem? (i := 204) (by decide +kernel)) rfl⟩
theorem fl_Fitter_125 : qm_FL qr_Fitter 125 1 14 := ⟨_, _, _, jc_1, by decide, qm_good (List.mem_of_getElem? (i := 206) (by decide +kernel)) rfl⟩
theorem fl_Flow_9 : qm_FL qr_Flow 9 1 3 := ⟨_, _, _, jc_1, by decide, qm_good (List.mem_of_getElem? (i := 182) (by decide +kernel)) rfl⟩
theorem fl_Flow_15 : qm_FL qr_Flow 15 1 4 := ⟨_, _, _, jc_1, by decide, qm_good (List.mem_of_getElem? (i := 183) (by decide +kernel)) rfl⟩
theorem fl_Flow_19 : qm_FL qr_Flow 19 1 5 := ⟨_, _, _, jc_1, by decide, qm_good (List.mem_of_getElem? (i := 185) (by decide +kernel)) rfl⟩
theorem fl_Flow_22 : qm_FL qr_Flow 22 1 6 := ⟨_, _, _, jc_1, by decide, qm_good (List.mem_of_getElem? (i := 187) (by decide +kernel)) rfl⟩
theorem fl_Flow_25 : qm_FL qr_Flow 25 1 7 := ⟨_, _, _, jc_1, by decide, qm_good (List.mem_of_getElem? (i := 189) (by decide +kernel)) rfl⟩
theorem fl_Flow_28 : qm_FL qr_Flow 28 1 8 := ⟨_, _, _, jc_1, by decide, qm_good (List.mem_of_getElem? (i := 191) (by decide +kernel)) rfl⟩
theorem fl_Flow_31 : qm_FL qr_Flow 31 1 9 := ⟨_, _, _, jc_1, by decide, qm_good (List.mem_of_getElem? (i := 194) (by decide +kernel)) rfl⟩
theorem fl_Flow_34 : qm_FL qr_Flow 34 1 10 := ⟨_, _, _, jc_1, by decide, qm_good (List.mem_of_getElem? (i := 197) (by decide +kernel)) rfl⟩
theorem fl_Flow_37 : qm_FL qr_Flow 37 1 11 := ⟨_, _, _, jc_1, by decide, qm_good (List.mem_of_getElem? (i := 199) (by decide +kernel)) rfl⟩
theorem fl_Flow_40 : qm_FL qr_Flow 40 1 12 := ⟨_, _, _, jc_1, by decide, qm_good (List.mem_of_getElem? (i := 201) (by decide +kernel)) rfl⟩
theorem fl_Flow_43 : qm_FL qr_Flow 43 1 13 := ⟨_, _, _, jc_1, by decide, qm_good (List.mem_of_getElem? (i := 203) (by decide +kernel)) rfl⟩
theorem fl_Flow_46 : qm_FL qr_Flow 46 1 14 := ⟨_, _, _, jc_1, by decide, qm_good (List.mem_of_getElem? (i := 205) (by decide +kernel)) rfl⟩
theorem fl_Flow_49 : qm_FL qr_Flow 49 1 15 := ⟨_, _, _, jc_1, by decide, qm_good (List.mem_of_getElem? (i := 207) (by decide +kernel)) rfl⟩
theorem fl_Flow_53 : qm_FL qr_Flow 53 1 16 := ⟨_, _, _, jc_1, by decide, qm_good (List.mem_of_getElem? (i := 209) (by decide +kernel)) rfl⟩
theorem fl_Flow_56 : qm_FL qr_Flow 56 1 17 := ⟨_, _, _, jc_1, by decide, qm_good (List.mem_of_getElem? (i := 213) (by decide +kernel)) rfl⟩
theorem fl_Flow_59 : qm_FL qr_Flow 59 1 18 := ⟨_, _, _, jc_1, by decide, qm_good (List.mem_of_getElem? (i := 217) (by decide +kernel)) rfl⟩
theorem fl_Flow_62 : qm_FL qr_Flow 62 1 19 := ⟨_, _, _, jc_1, by decide, qm_good (List.mem_of_getElem? (i := 220) (by decide +kernel)) rfl⟩
theorem fl_Flow_65 : qm_FL qr_Flow 65 1 0 := ⟨_, _, _, jc_1, by decide, qm_good (List.mem_of_getElem? (i := 175) (by decide +kernel)) rfl⟩
theorem fl_Flow_69 : qm_FL qr_Flow 69 1 1 := ⟨_, _, _, jc_1, by decide, qm_good (List.mem_of_getElem? (i := 177) (by decide +kernel)) rfl⟩
theorem fl_Flow_72 : qm_FL qr_Flow 72 1 2 := ⟨_, _, _, jc_1, by decide, qm_good (List.mem_of_getElem? (i := 180) (by decide +kernel)) rfl⟩
theorem fl_Flow_75 : qm_FL qr_Flow 75 4 0 := ⟨_, _, _, jc_4, by decide, qm_good (List.mem_of_getElem? (i := 79) (by decide +kernel)) rfl⟩
theorem fl_Past_11 : qm_FL qr_Past 11 2 0 := ⟨_, _, _, jc_2, by decide, qm_good (List.mem_of_getElem? (i := 152) (by decide +kernel)) rfl⟩
theorem fl_Past_18 : qm_FL qr_Past 18 2 1 := ⟨_, _, _, jc_2, by decide, qm_good (List.mem_of_getElem? (i := 153) (by decide +kernel)) rfl⟩
theorem fl_Past_26 : qm_FL qr_Past 26 2 2 := ⟨_, _, _, jc_2, by decide, qm_good (List.mem_of_getElem? (i := 154) (by decide +kernel)) rfl⟩
theorem fl_Press_9 : qm_FL qr_Press 9 3 0 := ⟨_, _, _, jc_3, by decide, qm_good (List.mem_of_getElem? (i := 315) (by decide +kernel)) rfl⟩
theorem fl_Press_20 : qm_FL qr_Press 20 3 1 := ⟨_, _, _, jc_3, by decide, qm_good (List.mem_of_getElem? (i := 317) (by decide +kernel)) rfl⟩
theorem fl_Press_29 : qm_FL qr_Press 29 3 2 := ⟨_, _, _, jc_3, by decide, qm_good (List.mem_of_getElem? (i := 320) (by decide +kernel)) rfl⟩
theorem fl_Press_41 : qm_FL qr_Press 41 3 3 := ⟨_, _, _, jc_3, by decide, qm_good (List.mem_of_getElem? (i := 322) (by decide +kernel)) rfl⟩
theorem fl_Press_44 : qm_FL qr_Press 44 3 11 := ⟨_, _, _, jc_3, by decide, qm_good (List.mem_of_getElem? (i := 332) (by decide +kernel)) rfl⟩
theorem fl_Press_48 : qm_FL qr_Press 48 3 12 := ⟨_, _, _, jc_3, by decide, qm_good (List.mem_of_getElem? (i := 333) (by decide +kernel)) rfl⟩
theorem fl_Press_51 : qm_FL qr_Press 51 3 9 := ⟨_, _, _, jc_3, by decide, qm_good (List.mem_of_getElem? (i := 329) (by decide +kernel)) rfl⟩
theorem fl_Press_64 : qm_FL qr_Press 64 3 4 := ⟨_, _, _, jc_3, by decide, qm_good (List.mem_of_getElem? (i := 323) (by decide +kernel)) rfl⟩
theorem fl_Press_67 : qm_FL qr_Press 67 3 5 := ⟨_, _, _, jc_3, by decide, qm_good (List.mem_of_getElem? (i := 325) (by decide +kernel)) rfl⟩
theorem fl_Press_76 : qm_FL qr_Press 76 3 6 := ⟨_, _, _, jc_3, by decide, qm_good (List.mem_of_getElem? (i := 326) (by decide +kernel)) rfl⟩
theorem fl_Press_82 : qm_FL qr_Press 82 1 1 := ⟨_, _, _, jc_1, by decide, qm_good (List.mem_of_getElem? (i := 178) (by decide +kernel)) rfl⟩
theorem fl_Press_85 : qm_FL qr_Press 85 1 16 := ⟨_, _, _, jc_1, by decide, qm_good (List.mem_of_getElem? (i := 210) (by decide +kernel)) rfl⟩
theorem fl_Press_92 : qm_FL qr_Press 92 3 7 := ⟨_, _, _, jc_3, by decide, qm_good (List.mem_of_getElem? (i := 327) (by decide +kernel)) rfl⟩
theorem fl_Press_95 : qm_FL qr_Press 95 3 8 := ⟨_, _, _, jc_3, by decide, qm_good (List.mem_of_getElem? (i := 328) (by decide +kernel)) rfl⟩
theorem fl_Press_102 : qm_FL qr_Press 102 1 17 := ⟨_, _, _, jc_1, by decide, qm_good (List.mem_of_getElem? (i := 214) (by decide +kernel)) rfl⟩
theorem fl_Press_112 : qm_FL qr_Press 112 1 18 := ⟨_, _, _, jc_1, by decide, qm_good (List.mem_of_getElem? (i := 218) (by decide +kernel)) rfl⟩
theorem fl_Press_167 : qm_FL qr_Press 167 1 9 := ⟨_, _, _, jc_1, by decide, qm_good (List.mem_of_getElem? (i := 196) (by decide +kernel)) rfl⟩
theorem fl_Run_11 : qm_FL qr_Run 11 4 1 := ⟨_, _, _, jc_4, by decide, qm_good (List.mem_of_getElem? (i := 83) (by decide +kernel)) rfl⟩
theorem fl_Run_15 : qm_FL qr_Run 15 4 2 := ⟨_, _, _, jc_4, by decide, qm_good (List.mem_of_getElem? (i := 84) (by decide +kernel)) rfl⟩
theorem fl_Run_27 : qm_FL qr_Run 27 4 0 := ⟨_, _, _, jc_4, by decide, qm_good (List.mem_of_getElem? (i := 80) (by decide +kernel)) rfl⟩
theorem fl_Tape_9 : qm_FL qr_Tape 9 5 0 := ⟨_, _, _, jc_5, by decide, qm_good (List.mem_of_getElem? (i := 99) (by decide +kernel)) rfl⟩
theorem fl_Tape_15 : qm_FL qr_Tape 15 5 1 := ⟨_, _, _, jc_5, by decide, qm_good (List.mem_of_getElem? (i := 102) (by decide +kernel)) rfl⟩
theorem fl_Teller_11 : qm_FL qr_Teller 11 6 0 := ⟨_, _, _, jc_6, by decide, qm_good (List.mem_of_getElem? (i := 117) (by decide +kernel)) rfl⟩
theorem fl_Teller_18 : qm_FL qr_Teller 18 6 1 := ⟨_, _, _, jc_6, by decide, qm_good (List.mem_of_getElem? (i := 118) (by decide +kernel)) rfl⟩
theorem fl_Teller_22 : qm_FL qr_Teller 22 6 2 := ⟨_, _, _, jc_6, by decide, qm_good (List.mem_of_getElem? (i := 120) (by decide +kernel)) rfl⟩
theorem fl_Teller_26 : qm_FL qr_Teller 26 6 3 := ⟨_, _, _, jc_6, by decide, qm_good (List.mem_of_getElem? (i := 121) (by decide +kernel)) rfl⟩
theorem fl_Teller_29 : qm_FL qr_Teller 29 6 4 := ⟨_, _, _, jc_6, by decide, qm_good (List.mem_of_getElem? (i := 122) (by decide +kernel)) rfl⟩
theorem fl_Teller_38 : qm_FL qr_Teller 38 6 5 := ⟨_, _, _, jc_6, by decide, qm_good (List.mem_of_getElem? (i := 123) (by decide +kernel)) rfl⟩
theorem fl_Teller_42 : qm_FL qr_Teller 42 6 6 := ⟨_, _, _, jc_6, by decide, qm_good (List.mem_of_getElem? (i := 124) (by decide +kernel)) rfl⟩
theorem fl_Teller_45 : qm_FL qr_Teller 45 6 7 := ⟨_, _, _, jc_6, by decide, qm_good (List.mem_of_getElem? (i := 125) (by decide +kernel)) rfl⟩
theorem fl_Teller_65 : qm_FL qr_Teller 65 5 1 := ⟨_, _, _, jc_5, by decide, qm_good (List.mem_of_getElem? (i := 103) (by decide +kernel)) rfl⟩
theorem fl_Teller_70 : qm_FL qr_Teller 70 5 0 := ⟨_, _, _, jc_5, by decide, qm_good (List.mem_of_getElem? (i := 100) (by decide +kernel)) rfl⟩
theorem fl_Teller_132 : qm_FL qr_Teller 132 4 0 := ⟨_, _, _, jc_4, by decide, qm_good (List.mem_of_getElem? (i := 82) (by decide +kernel)) rfl⟩
theorem fp_Top_64 : qm_FP qr_Top 64 5 1 .int := ⟨_, _, _, qy_Tape, jc_5, by decide, qm_good (List.mem_of_getElem? (i := 101) (by decide +kernel)) rfl, qn_Tape, qv_Tape, rfl, rfl, rfl, rfl⟩
theorem fp_Top_83 : qm_FP qr_Top 83 2 2 .int := ⟨_, _, _, qy_Past, jc_2, by decide, qm_good (List.mem_of_getElem? (i := 155) (by decide +kernel)) rfl, qn_Past, qv_Past, rfl, rfl, rfl, rfl⟩
theorem fp_Top_137 : qm_FP qr_Top 137 8 5 .int := ⟨_, _, _, qy_Top, jc_8, by decide, qm_good (List.mem_of_getElem? (i := 386) (by decide +kernel)) rfl, qn_Top, qv_Top, rfl, rfl, rfl, rfl⟩
theorem fp_Top_330 : qm_FP qr_Top 330 8 9 .boolean := ⟨_, _, _, qy_Top, jc_8, by decide, qm_good (List.mem_of_getElem? (i := 390) (by decide +kernel)) rfl, qn_Top, qv_Top, rfl, rfl, rfl, rfl⟩
theorem fp_Top_334 : qm_FP qr_Top 334 8 10 .boolean := ⟨_, _, _, qy_Top, jc_8, by decide, qm_good (List.mem_of_getElem? (i := 391) (by decide +kernel)) rfl, qn_Top, qv_Top, rfl, rfl, rfl, rfl⟩
theorem fp_Fitter_28 : qm_FP qr_Fitter 28 0 9 .boolean := ⟨_, _, _, qy_Fitter, jc_0, by decide, qm_good (List.mem_of_getElem? (i := 289) (by decide +kernel)) rfl, qn_Fitter, qv_Fitter, rfl, rfl, rfl, rfl⟩
theorem fp_Fitter_41 : qm_FP qr_Fitter 41 0 2 .int := ⟨_, _, _, qy_Fitter, jc_0, by decide, qm_good (List.mem_of_getElem? (i := 282) (by decide +kernel)) rfl, qn_Fitter, qv_Fitter, rfl, rfl, rfl, rfl⟩
theorem fp_Fitter_45 : qm_FP qr_Fitter 45 0 3 .int := ⟨_, _, _, qy_Fitter, jc_0, by decide, qm_good (List.mem_of_getElem? (i := 283) (by decide +kernel)) rfl, qn_Fitter, qv_Fitter, rfl, rfl, rfl, rfl⟩
theorem fp_Fitter_48 : qm_FP qr_Fitter 48 0 5 .int := ⟨_, _, _, qy_Fitter, jc_0, by decide, qm_good (List.mem_of_getElem? (i := 285) (by decide +kernel)) rfl, qn_Fitter, qv_Fitter, rfl, rfl, rfl, rfl⟩
theorem fp_Fitter_99 : qm_FP qr_Fitter 99 0 6 .int := ⟨_, _, _, qy_Fitter, jc_0, by decide, qm_good (List.mem_of_getElem? (i := 286) (by decide +kernel)) rfl, qn_Fitter, qv_Fitter, rfl, rfl, rfl, rfl⟩
theorem fp_Fitter_102 : qm_FP qr_Fitter 102 0 7 .int := ⟨_, _, _, qy_Fitter, jc_0, by decide, qm_good (List.mem_of_getElem? (i := 287) (by decide +kernel)) rfl, qn_Fitter, qv_Fitter, rfl, rfl, rfl, rfl⟩
theorem fp_Flow_65 : qm_FP qr_Flow 65 1 0 .int := ⟨_, _, _, qy_Flow, jc_1, by decide, qm_good (List.mem_of_getElem? (i := 175) (by decide +kernel)) rfl, qn_Flow, qv_Flow, rfl, rfl, rfl, rfl⟩
theorem fp_Flow_69 : qm_FP qr_Flow 69 1 1 .int := ⟨_, _, _, qy_Flow, jc_1, by decide, qm_good (List.mem_of_getElem? (i := 177) (by decide +kernel)) rfl, qn_Flow, qv_Flow, rfl, rfl, rfl, rfl⟩
theorem fp_Flow_72 : qm_FP qr_Flow 72 1 2 .int := ⟨_, _, _, qy_Flow, jc_1, by decide, qm_good (List.mem_of_getElem? (i := 180) (by decide +kernel)) rfl, qn_Flow, qv_Flow, rfl, rfl, rfl, rfl⟩
theorem fp_Past_18 : qm_FP qr_Past 18 2 1 .int := ⟨_, _, _, qy_Past, jc_2, by decide, qm_good (List.mem_of_getElem? (i := 153) (by decide +kernel)) rfl, qn_Past, qv_Past, rfl, rfl, rfl, rfl⟩
theorem fp_Past_26 : qm_FP qr_Past 26 2 2 .int := ⟨_, _, _, qy_Past, jc_2, by decide, qm_good (List.mem_of_getElem? (i := 154) (by decide +kernel)) rfl, qn_Past, qv_Past, rfl, rfl, rfl, rfl⟩
theorem fp_Press_51 : qm_FP qr_Press 51 3 9 .int := ⟨_, _, _, qy_Press, jc_3, by decide, qm_good (List.mem_of_getElem? (i := 329) (by decide +kernel)) rfl, qn_Press, qv_Press, rfl, rfl, rfl, rfl⟩
theorem fp_Press_64 : qm_FP qr_Press 64 3 4 .int := ⟨_, _, _, qy_Press, jc_3, by decide, qm_good (List.mem_of_getElem? (i := 323) (by decide +kernel)) rfl, qn_Press, qv_Press, rfl, rfl, rfl, rfl⟩
theorem fp_Press_67 : qm_FP qr_Press 67 3 5 .int := ⟨_, _, _, qy_Press, jc_3, by decide, qm_good (List.mem_of_getElem? (i := 325) (by decide +kernel)) rfl, qn_Press, qv_Press, rfl, rfl, rfl, rfl⟩
theorem fp_Press_76 : qm_FP qr_Press 76 3 6 .int := ⟨_, _, _, qy_Press, jc_3, by decide, qm_good (List.mem_of_getElem? (i := 326) (by decide +kernel)) rfl, qn_Press, qv_Press, rfl, rfl, rfl, rfl⟩
theorem fp_Press_79 : qm_FP qr_Press 79 3 10 .int := ⟨_, _, _, qy_Press, jc_3, by decide, qm_good (List.mem_of_getElem? (i := 331) (by decide +kernel)) rfl, qn_Press, qv_Press, rfl, rfl, rfl, rfl⟩
theorem fp_Press_92 : qm_FP qr_Press 92 3 7 .int := ⟨_, _, _, qy_Press, jc_3, by decide, qm_good (List.mem_of_getElem? (i := 327) (by decide +kernel)) rfl, qn_Press, qv_Press, rfl, rfl, rfl, rfl⟩
theorem fp_Press_95 : qm_FP qr_Press 95 3 8 .int := ⟨_, _, _, qy_Press, jc_3, by decide, qm_good (List.mem_of_getElem? (i := 328) (by decide +kernel)) rfl, qn_Press, qv_Press, rfl, rfl, rfl, rfl⟩
theorem fp_Run_27 : qm_FP qr_Run 27 4 0 .int := ⟨_, _, _, qy_Run, jc_4, by decide, qm_good (List.mem_of_getElem? (i := 80) (by decide +kernel)) rfl, qn_Run, qv_Run, rfl, rfl, rfl, rfl⟩
theorem fp_Tape_15 : qm_FP qr_Tape 15 5 1 .int := ⟨_, _, _, qy_Tape, jc_5, by decide, qm_good (List.mem_of_getElem? (i := 102) (by decide +kernel)) rfl, qn_Tape, qv_Tape, rfl, rfl, rfl, rfl⟩
theorem fp_Teller_38 : qm_FP qr_Teller 38 6 5 .int := ⟨_, _, _, qy_Teller, jc_6, by decide, qm_good (List.mem_of_getElem? (i := 123) (by decide +kernel)) rfl, qn_Teller, qv_Teller, rfl, rfl, rfl, rfl⟩
theorem fp_Teller_42 : qm_FP qr_Teller 42 6 6 .int := ⟨_, _, _, qy_Teller, jc_6, by decide, qm_good (List.mem_of_getElem? (i := 124) (by decide +kernel)) rfl, qn_Teller, qv_Teller, rfl, rfl, rfl, rfl⟩
theorem fp_Teller_45 : qm_FP qr_Teller 45 6 7 .int := ⟨_, _, _, qy_Teller, jc_6, by decide, qm_good (List.mem_of_getElem? (i := 125) (by decide +kernel)) rfl, qn_Teller, qv_Teller, rfl, rfl, rfl, rfl⟩
theorem cy_Top_asks {own : String} {idx : Nat} (h : Cond.methodLink own idx jy_Top_asks ∈ qm_tb) : qm_CV own idx jy_Top_asks prog_1_method_41_code 3 (some .boolean) 2 := ⟨h, qm_good (List.mem_of_getElem? (i := 847) (by decide +kernel)) rfl, qm_good (List.mem_of_getElem? (i := 34) (by decide +kernel)) rfl, qm_good (List.mem_of_getElem? (i := 37) (by decide +kernel)) rfl, qm_good (List.mem_of_getElem? (i := 848) (by decide +kernel)) rfl, ⟨by decide +kernel, by decide +kernel, by decide +kernel⟩⟩
theorem cyn_Top_at {own : String} {idx : Nat} (h : Cond.methodLinkNest own idx jy_Top_at "ColumnsLevelled" ∈ qm_nw) : qm_CN own idx jy_Top_at "ColumnsLevelled" prog_1_method_36_code 2 (some .int) 2 := ⟨h, qm_good (List.mem_of_getElem? (i := 429) (by decide +kernel)) rfl, qm_good (List.mem_of_getElem? (i := 37) (by decide +kernel)) rfl, qm_good (List.mem_of_getElem? (i := 430) (by decide +kernel)) rfl, ⟨by decide +kernel, by decide +kernel, by decide +kernel⟩⟩
theorem cys_Top_at {own : String} {idx : Nat} (h : Cond.methodLink own idx jy_Top_at ∈ qm_tb) : qm_CS own idx jy_Top_at prog_1_method_36_code 2 (some .int) 2 := ⟨h, qm_good (List.mem_of_getElem? (i := 429) (by decide +kernel)) rfl, qm_good (List.mem_of_getElem? (i := 37) (by decide +kernel)) rfl, qm_good (List.mem_of_getElem? (i := 430) (by decide +kernel)) rfl, ⟨by decide +kernel, by decide +kernel, by decide +kernel⟩⟩
theorem cy_Top_beginAct {own : String} {idx : Nat} (h : Cond.methodLink own idx jy_Top_beginAct ∈ qm_tb) : qm_CV own idx jy_Top_beginAct prog_1_method_37_code 1 none 0 := ⟨h, qm_good (List.mem_of_getElem? (i := 602) (by decide +kernel)) rfl, qm_good (List.mem_of_getElem? (i := 16) (by decide +kernel)) rfl, qm_good (List.mem_of_getElem? (i := 37) (by decide +kernel)) rfl, qm_good (List.mem_of_getElem? (i := 603) (by decide +kernel)) rfl, ⟨by decide +kernel, by decide +kernel, by decide +kernel⟩⟩
theorem cy_Top_changed {own : String} {idx : Nat} (h : Cond.methodLink own idx jy_Top_changed ∈ qm_tb) : qm_CV own idx jy_Top_changed prog_1_method_38_code 1 none 0 := ⟨h, qm_good (List.mem_of_getElem? (i := 591) (by decide +kernel)) rfl, qm_good (List.mem_of_getElem? (i := 15) (by decide +kernel)) rfl, qm_good (List.mem_of_getElem? (i := 37) (by decide +kernel)) rfl, qm_good (List.mem_of_getElem? (i := 592) (by decide +kernel)) rfl, ⟨by decide +kernel, by decide +kernel, by decide +kernel⟩⟩
theorem cy_Top_laidOut {own : String} {idx : Nat} (h : Cond.methodLink own idx jy_Top_laidOut ∈ qm_tb) : qm_CV own idx jy_Top_laidOut prog_1_method_39_code 1 (some (.object "ColumnsLevelled$Press")) 0 := ⟨h, qm_good (List.mem_of_getElem? (i := 683) (by decide +kernel)) rfl, qm_good (List.mem_of_getElem? (i := 18) (by decide +kernel)) rfl, qm_good (List.mem_of_getElem? (i := 37) (by decide +kernel)) rfl, qm_good (List.mem_of_getElem? (i := 684) (by decide +kernel)) rfl, ⟨by decide +kernel, by decide +kernel, by decide +kernel⟩⟩
theorem cy_Top_pouredNow {own : String} {idx : Nat} (h : Cond.methodLink own idx jy_Top_pouredNow ∈ qm_tb) : qm_CV own idx jy_Top_pouredNow prog_1_method_40_code 2 (some (.object "ColumnsLevelled$Press")) 0 := ⟨h, qm_good (List.mem_of_getElem? (i := 728) (by decide +kernel)) rfl, qm_good (List.mem_of_getElem? (i := 23) (by decide +kernel)) rfl, qm_good (List.mem_of_getElem? (i := 37) (by decide +kernel)) rfl, qm_good (List.mem_of_getElem? (i := 729) (by decide +kernel)) rfl, ⟨by decide +kernel, by decide +kernel, by decide +kernel⟩⟩
theorem cy_Fitter_bearsAt {own : String} {idx : Nat} (h : Cond.methodLink own idx jy_Fitter_bearsAt ∈ qm_tb) : qm_CV own idx jy_Fitter_bearsAt prog_2_method_6_code 3 (some .int) 2 := ⟨h, qm_good (List.mem_of_getElem? (i := 772) (by decide +kernel)) rfl, qm_good (List.mem_of_getElem? (i := 773) (by decide +kernel)) rfl, qm_good (List.mem_of_getElem? (i := 44) (by decide +kernel)) rfl, qm_good (List.mem_of_getElem? (i := 774) (by decide +kernel)) rfl, ⟨by decide +kernel, by decide +kernel, by decide +kernel⟩⟩
theorem cy_Fitter_bearsFrom {own : String} {idx : Nat} (h : Cond.methodLink own idx jy_Fitter_bearsFrom ∈ qm_tb) : qm_CV own idx jy_Fitter_bearsFrom prog_2_method_11_code 11 (some .int) 3 := ⟨h, qm_good (List.mem_of_getElem? (i := 769) (by decide +kernel)) rfl, qm_good (List.mem_of_getElem? (i := 29) (by decide +kernel)) rfl, qm_good (List.mem_of_getElem? (i := 44) (by decide +kernel)) rfl, qm_good (List.mem_of_getElem? (i := 770) (by decide +kernel)) rfl, ⟨by decide +kernel, by decide +kernel, by decide +kernel⟩⟩
theorem cy_Fitter_forget {own : String} {idx : Nat} (h : Cond.methodLink own idx jy_Fitter_forget ∈ qm_tb) : qm_CV own idx jy_Fitter_forget prog_2_method_2_code 2 none 0 := ⟨h, qm_good (List.mem_of_getElem? (i := 273) (by decide +kernel)) rfl, qm_good (List.mem_of_getElem? (i := 274) (by decide +kernel)) rfl, qm_good (List.mem_of_getElem? (i := 44) (by decide +kernel)) rfl, qm_good (List.mem_of_getElem? (i := 275) (by decide +kernel)) rfl, ⟨by decide +kernel, by decide +kernel, by decide +kernel⟩⟩
theorem cy_Fitter_latest {own : String} {idx : Nat} (h : Cond.methodLink own idx jy_Fitter_latest ∈ qm_tb) : qm_CV own idx jy_Fitter_latest prog_2_method_12_code 8 (some .int) 5 := ⟨h, qm_good (List.mem_of_getElem? (i := 781) (by decide +kernel)) rfl, qm_good (List.mem_of_getElem? (i := 782) (by decide +kernel)) rfl, qm_good (List.mem_of_getElem? (i := 44) (by decide +kernel)) rfl, qm_good (List.mem_of_getElem? (i := 783) (by decide +kernel)) rfl, ⟨by decide +kernel, by decide +kernel, by decide +kernel⟩⟩
theorem cy_Fitter_leastFrom {own : String} {idx : Nat} (h : Cond.methodLink own idx jy_Fitter_leastFrom ∈ qm_tb) : qm_CV own idx jy_Fitter_leastFrom prog_2_method_8_code 11 (some .int) 4 := ⟨h, qm_good (List.mem_of_getElem? (i := 753) (by decide +kernel)) rfl, qm_good (List.mem_of_getElem? (i := 754) (by decide +kernel)) rfl, qm_good (List.mem_of_getElem? (i := 44) (by decide +kernel)) rfl, qm_good (List.mem_of_getElem? (i := 755) (by decide +kernel)) rfl, ⟨by decide +kernel, by decide +kernel, by decide +kernel⟩⟩
theorem cy_Fitter_leastOf {own : String} {idx : Nat} (h : Cond.methodLink own idx jy_Fitter_leastOf ∈ qm_tb) : qm_CV own idx jy_Fitter_leastOf prog_2_method_7_code 2 (some .int) 1 := ⟨h, qm_good (List.mem_of_getElem? (i := 850) (by decide +kernel)) rfl, qm_good (List.mem_of_getElem? (i := 851) (by decide +kernel)) rfl, qm_good (List.mem_of_getElem? (i := 44) (by decide +kernel)) rfl, qm_good (List.mem_of_getElem? (i := 852) (by decide +kernel)) rfl, ⟨by decide +kernel, by decide +kernel, by decide +kernel⟩⟩
theorem cy_Fitter_leftOver {own : String} {idx : Nat} (h : Cond.methodLink own idx jy_Fitter_leftOver ∈ qm_tb) : qm_CV own idx jy_Fitter_leftOver prog_2_method_3_code 9 (some .int) 4 := ⟨h, qm_good (List.mem_of_getElem? (i := 789) (by decide +kernel)) rfl, qm_good (List.mem_of_getElem? (i := 790) (by decide +kernel)) rfl, qm_good (List.mem_of_getElem? (i := 44) (by decide +kernel)) rfl, qm_good (List.mem_of_getElem? (i := 791) (by decide +kernel)) rfl, ⟨by decide +kernel, by decide +kernel, by decide +kernel⟩⟩
theorem cy_Fitter_linesIn {own : String} {idx : Nat} (h : Cond.methodLink own idx jy_Fitter_linesIn ∈ qm_tb) : qm_CV own idx jy_Fitter_linesIn prog_2_method_4_code 2 (some .int) 1 := ⟨h, qm_good (List.mem_of_getElem? (i := 802) (by decide +kernel)) rfl, qm_good (List.mem_of_getElem? (i := 31) (by decide +kernel)) rfl, qm_good (List.mem_of_getElem? (i := 44) (by decide +kernel)) rfl, qm_good (List.mem_of_getElem? (i := 803) (by decide +kernel)) rfl, ⟨by decide +kernel, by decide +kernel, by decide +kernel⟩⟩
theorem cy_Fitter_measure {own : String} {idx : Nat} (h : Cond.methodLink own idx jy_Fitter_measure ∈ qm_tb) : qm_CV own idx jy_Fitter_measure prog_2_method_10_code 9 none 3 := ⟨h, qm_good (List.mem_of_getElem? (i := 762) (by decide +kernel)) rfl, qm_good (List.mem_of_getElem? (i := 763) (by decide +kernel)) rfl, qm_good (List.mem_of_getElem? (i := 44) (by decide +kernel)) rfl, qm_good (List.mem_of_getElem? (i := 764) (by decide +kernel)) rfl, ⟨by decide +kernel, by decide +kernel, by decide +kernel⟩⟩
theorem cy_Fitter_slotOf {own : String} {idx : Nat} (h : Cond.methodLink own idx jy_Fitter_slotOf ∈ qm_tb) : qm_CV own idx jy_Fitter_slotOf prog_2_method_9_code 5 (some .int) 3 := ⟨h, qm_good (List.mem_of_getElem? (i := 758) (by decide +kernel)) rfl, qm_good (List.mem_of_getElem? (i := 28) (by decide +kernel)) rfl, qm_good (List.mem_of_getElem? (i := 44) (by decide +kernel)) rfl, qm_good (List.mem_of_getElem? (i := 759) (by decide +kernel)) rfl, ⟨by decide +kernel, by decide +kernel, by decide +kernel⟩⟩
theorem cy_Flow_endsBehind {own : String} {idx : Nat} (h : Cond.methodLink own idx jy_Flow_endsBehind ∈ qm_tb) : qm_CV own idx jy_Flow_endsBehind prog_3_method_7_code 6 (some .boolean) 2 := ⟨h, qm_good (List.mem_of_getElem? (i := 709) (by decide +kernel)) rfl, qm_good (List.mem_of_getElem? (i := 21) (by decide +kernel)) rfl, qm_good (List.mem_of_getElem? (i := 43) (by decide +kernel)) rfl, qm_good (List.mem_of_getElem? (i := 710) (by decide +kernel)) rfl, ⟨by decide +kernel, by decide +kernel, by decide +kernel⟩⟩
theorem cy_Flow_endsIn {own : String} {idx : Nat} (h : Cond.methodLink own idx jy_Flow_endsIn ∈ qm_tb) : qm_CV own idx jy_Flow_endsIn prog_3_method_10_code 5 (some .int) 2 := ⟨h, qm_good (List.mem_of_getElem? (i := 1274) (by decide +kernel)) rfl, qm_good (List.mem_of_getElem? (i := 1275) (by decide +kernel)) rfl, qm_good (List.mem_of_getElem? (i := 43) (by decide +kernel)) rfl, qm_good (List.mem_of_getElem? (i := 1276) (by decide +kernel)) rfl, ⟨by decide +kernel, by decide +kernel, by decide +kernel⟩⟩
theorem cy_Flow_lastLinesAhead {own : String} {idx : Nat} (h : Cond.methodLink own idx jy_Flow_lastLinesAhead ∈ qm_tb) : qm_CV own idx jy_Flow_lastLinesAhead prog_3_method_13_code 2 (some .int) 1 := ⟨h, qm_good (List.mem_of_getElem? (i := 805) (by decide +kernel)) rfl, qm_good (List.mem_of_getElem? (i := 806) (by decide +kernel)) rfl, qm_good (List.mem_of_getElem? (i := 43) (by decide +kernel)) rfl, qm_good (List.mem_of_getElem? (i := 807) (by decide +kernel)) rfl, ⟨by decide +kernel, by decide +kernel, by decide +kernel⟩⟩
theorem cy_Flow_lay {own : String} {idx : Nat} (h : Cond.methodLink own idx jy_Flow_lay ∈ qm_tb) : qm_CV own idx jy_Flow_lay prog_3_method_2_code 2 none 0 := ⟨h, qm_good (List.mem_of_getElem? (i := 690) (by decide +kernel)) rfl, qm_good (List.mem_of_getElem? (i := 691) (by decide +kernel)) rfl, qm_good (List.mem_of_getElem? (i := 43) (by decide +kernel)) rfl, qm_good (List.mem_of_getElem? (i := 692) (by decide +kernel)) rfl, ⟨by decide +kernel, by decide +kernel, by decide +kernel⟩⟩
theorem cy_Flow_layPieces {own : String} {idx : Nat} (h : Cond.methodLink own idx jy_Flow_layPieces ∈ qm_tb) : qm_CV own idx jy_Flow_layPieces prog_3_method_4_code 8 none 1 := ⟨h, qm_good (List.mem_of_getElem? (i := 700) (by decide +kernel)) rfl, qm_good (List.mem_of_getElem? (i := 20) (by decide +kernel)) rfl, qm_good (List.mem_of_getElem? (i := 43) (by decide +kernel)) rfl, qm_good (List.mem_of_getElem? (i := 701) (by decide +kernel)) rfl, ⟨by decide +kernel, by decide +kernel, by decide +kernel⟩⟩
theorem cy_Flow_markEnd {own : String} {idx : Nat} (h : Cond.methodLink own idx jy_Flow_markEnd ∈ qm_tb) : qm_CV own idx jy_Flow_markEnd prog_3_method_6_code 2 none 1 := ⟨h, qm_good (List.mem_of_getElem? (i := 714) (by decide +kernel)) rfl, qm_good (List.mem_of_getElem? (i := 22) (by decide +kernel)) rfl, qm_good (List.mem_of_getElem? (i := 43) (by decide +kernel)) rfl, qm_good (List.mem_of_getElem? (i := 715) (by decide +kernel)) rfl, ⟨by decide +kernel, by decide +kernel, by decide +kernel⟩⟩
theorem cy_Flow_markEnds {own : String} {idx : Nat} (h : Cond.methodLink own idx jy_Flow_markEnds ∈ qm_tb) : qm_CV own idx jy_Flow_markEnds prog_3_method_5_code 2 none 0 := ⟨h, qm_good (List.mem_of_getElem? (i := 704) (by decide +kernel)) rfl, qm_good (List.mem_of_getElem? (i := 705) (by decide +kernel)) rfl, qm_good (List.mem_of_getElem? (i := 43) (by decide +kernel)) rfl, qm_good (List.mem_of_getElem? (i := 706) (by decide +kernel)) rfl, ⟨by decide +kernel, by decide +kernel, by decide +kernel⟩⟩
theorem cy_Flow_mayEnd {own : String} {idx : Nat} (h : Cond.methodLink own idx jy_Flow_mayEnd ∈ qm_tb) : qm_CV own idx jy_Flow_mayEnd prog_3_method_9_code 2 (some .boolean) 1 := ⟨h, qm_good (List.mem_of_getElem? (i := 785) (by decide +kernel)) rfl, qm_good (List.mem_of_getElem? (i := 786) (by decide +kernel)) rfl, qm_good (List.mem_of_getElem? (i := 43) (by decide +kernel)) rfl, qm_good (List.mem_of_getElem? (i := 787) (by decide +kernel)) rfl, ⟨by decide +kernel, by decide +kernel, by decide +kernel⟩⟩
theorem cy_Flow_openSection {own : String} {idx : Nat} (h : Cond.methodLink own idx jy_Flow_openSection ∈ qm_tb) : qm_CV own idx jy_Flow_openSection prog_3_method_3_code 2 none 1 := ⟨h, qm_good (List.mem_of_getElem? (i := 695) (by decide +kernel)) rfl, qm_good (List.mem_of_getElem? (i := 19) (by decide +kernel)) rfl, qm_good (List.mem_of_getElem? (i := 43) (by decide +kernel)) rfl, qm_good (List.mem_of_getElem? (i := 696) (by decide +kernel)) rfl, ⟨by decide +kernel, by decide +kernel, by decide +kernel⟩⟩
theorem cy_Flow_ownLines {own : String} {idx : Nat} (h : Cond.methodLink own idx jy_Flow_ownLines ∈ qm_tb) : qm_CV own idx jy_Flow_ownLines prog_3_method_12_code 3 (some .int) 2 := ⟨h, qm_good (List.mem_of_getElem? (i := 797) (by decide +kernel)) rfl, qm_good (List.mem_of_getElem? (i := 798) (by decide +kernel)) rfl, qm_good (List.mem_of_getElem? (i := 43) (by decide +kernel)) rfl, qm_good (List.mem_of_getElem? (i := 799) (by decide +kernel)) rfl, ⟨by decide +kernel, by decide +kernel, by decide +kernel⟩⟩
theorem cy_Flow_spans {own : String} {idx : Nat} (h : Cond.methodLink own idx jy_Flow_spans ∈ qm_tb) : qm_CV own idx jy_Flow_spans prog_3_method_8_code 1 (some .int) 0 := ⟨h, qm_good (List.mem_of_getElem? (i := 718) (by decide +kernel)) rfl, qm_good (List.mem_of_getElem? (i := 719) (by decide +kernel)) rfl, qm_good (List.mem_of_getElem? (i := 43) (by decide +kernel)) rfl, qm_good (List.mem_of_getElem? (i := 720) (by decide +kernel)) rfl, ⟨by decide +kernel, by decide +kernel, by decide +kernel⟩⟩
theorem cy_Flow_text {own : String} {idx : Nat} (h : Cond.methodLink own idx jy_Flow_text ∈ qm_tb) : qm_CV own idx jy_Flow_text prog_3_method_14_code 3 (some .int) 2 := ⟨h, qm_good (List.mem_of_getElem? (i := 793) (by decide +kernel)) rfl, qm_good (List.mem_of_getElem? (i := 794) (by decide +kernel)) rfl, qm_good (List.mem_of_getElem? (i := 43) (by decide +kernel)) rfl, qm_good (List.mem_of_getElem? (i := 795) (by decide +kernel)) rfl, ⟨by decide +kernel, by decide +kernel, by decide +kernel⟩⟩
theorem cy_Past_pop {own : String} {idx : Nat} (h : Cond.methodLink own idx jy_Past_pop ∈ qm_tb) : qm_CV own idx jy_Past_pop prog_4_method_3_code 2 none 1 := ⟨h, qm_good (List.mem_of_getElem? (i := 665) (by decide +kernel)) rfl, qm_good (List.mem_of_getElem? (i := 666) (by decide +kernel)) rfl, qm_good (List.mem_of_getElem? (i := 41) (by decide +kernel)) rfl, qm_good (List.mem_of_getElem? (i := 667) (by decide +kernel)) rfl, ⟨by decide +kernel, by decide +kernel, by decide +kernel⟩⟩
theorem cy_Past_push {own : String} {idx : Nat} (h : Cond.methodLink own idx jy_Past_push ∈ qm_tb) : qm_CV own idx jy_Past_push prog_4_method_2_code 2 none 1 := ⟨h, qm_good (List.mem_of_getElem? (i := 605) (by decide +kernel)) rfl, qm_good (List.mem_of_getElem? (i := 606) (by decide +kernel)) rfl, qm_good (List.mem_of_getElem? (i := 41) (by decide +kernel)) rfl, qm_good (List.mem_of_getElem? (i := 607) (by decide +kernel)) rfl, ⟨by decide +kernel, by decide +kernel, by decide +kernel⟩⟩
theorem cy_Press_answer {own : String} {idx : Nat} (h : Cond.methodLink own idx jy_Press_answer ∈ qm_tb) : qm_CV own idx jy_Press_answer prog_5_method_5_code 1 (some .int) 0 := ⟨h, qm_good (List.mem_of_getElem? (i := 820) (by decide +kernel)) rfl, qm_good (List.mem_of_getElem? (i := 821) (by decide +kernel)) rfl, qm_good (List.mem_of_getElem? (i := 42) (by decide +kernel)) rfl, qm_good (List.mem_of_getElem? (i := 822) (by decide +kernel)) rfl, ⟨by decide +kernel, by decide +kernel, by decide +kernel⟩⟩
theorem cy_Press_cell {own : String} {idx : Nat} (h : Cond.methodLink own idx jy_Press_cell ∈ qm_tb) : qm_CV own idx jy_Press_cell prog_5_method_13_code 3 (some .int) 2 := ⟨h, qm_good (List.mem_of_getElem? (i := 829) (by decide +kernel)) rfl, qm_good (List.mem_of_getElem? (i := 830) (by decide +kernel)) rfl, qm_good (List.mem_of_getElem? (i := 42) (by decide +kernel)) rfl, qm_good (List.mem_of_getElem? (i := 831) (by decide +kernel)) rfl, ⟨by decide +kernel, by decide +kernel, by decide +kernel⟩⟩
theorem cy_Press_columnOf {own : String} {idx : Nat} (h : Cond.methodLink own idx jy_Press_columnOf ∈ qm_tb) : qm_CV own idx jy_Press_columnOf prog_5_method_17_code 3 (some .int) 1 := ⟨h, qm_good (List.mem_of_getElem? (i := 1292) (by decide +kernel)) rfl, qm_good (List.mem_of_getElem? (i := 1293) (by decide +kernel)) rfl, qm_good (List.mem_of_getElem? (i := 42) (by decide +kernel)) rfl, qm_good (List.mem_of_getElem? (i := 1294) (by decide +kernel)) rfl, ⟨by decide +kernel, by decide +kernel, by decide +kernel⟩⟩
theorem cy_Press_columnsOfNote {own : String} {idx : Nat} (h : Cond.methodLink own idx jy_Press_columnsOfNote ∈ qm_tb) : qm_CV own idx jy_Press_columnsOfNote prog_5_method_20_code 6 (some .int) 1 := ⟨h, qm_good (List.mem_of_getElem? (i := 1300) (by decide +kernel)) rfl, qm_good (List.mem_of_getElem? (i := 1301) (by decide +kernel)) rfl, qm_good (List.mem_of_getElem? (i := 42) (by decide +kernel)) rfl, qm_good (List.mem_of_getElem? (i := 1302) (by decide +kernel)) rfl, ⟨by decide +kernel, by decide +kernel, by decide +kernel⟩⟩
theorem cy_Press_fill {own : String} {idx : Nat} (h : Cond.methodLink own idx jy_Press_fill ∈ qm_tb) : qm_CV own idx jy_Press_fill prog_5_method_11_code 9 (some .boolean) 1 := ⟨h, qm_good (List.mem_of_getElem? (i := 817) (by decide +kernel)) rfl, qm_good (List.mem_of_getElem? (i := 33) (by decide +kernel)) rfl, qm_good (List.mem_of_getElem? (i := 42) (by decide +kernel)) rfl, qm_good (List.mem_of_getElem? (i := 818) (by decide +kernel)) rfl, ⟨by decide +kernel, by decide +kernel, by decide +kernel⟩⟩
theorem cy_Press_lay {own : String} {idx : Nat} (h : Cond.methodLink own idx jy_Press_lay ∈ qm_tb) : qm_CV own idx jy_Press_lay prog_5_method_2_code 1 none 0 := ⟨h, qm_good (List.mem_of_getElem? (i := 686) (by decide +kernel)) rfl, qm_good (List.mem_of_getElem? (i := 687) (by decide +kernel)) rfl, qm_good (List.mem_of_getElem? (i := 42) (by decide +kernel)) rfl, qm_good (List.mem_of_getElem? (i := 688) (by decide +kernel)) rfl, ⟨by decide +kernel, by decide +kernel, by decide +kernel⟩⟩
theorem cy_Press_leftOfNote {own : String} {idx : Nat} (h : Cond.methodLink own idx jy_Press_leftOfNote ∈ qm_tb) : qm_CV own idx jy_Press_leftOfNote prog_5_method_18_code 4 (some .int) 2 := ⟨h, qm_good (List.mem_of_getElem? (i := 1297) (by decide +kernel)) rfl, qm_good (List.mem_of_getElem? (i := 35) (by decide +kernel)) rfl, qm_good (List.mem_of_getElem? (i := 42) (by decide +kernel)) rfl, qm_good (List.mem_of_getElem? (i := 1298) (by decide +kernel)) rfl, ⟨by decide +kernel, by decide +kernel, by decide +kernel⟩⟩
theorem cy_Press_level {own : String} {idx : Nat} (h : Cond.methodLink own idx jy_Press_level ∈ qm_tb) : qm_CV own idx jy_Press_level prog_5_method_10_code 6 none 2 := ⟨h, qm_good (List.mem_of_getElem? (i := 777) (by decide +kernel)) rfl, qm_good (List.mem_of_getElem? (i := 30) (by decide +kernel)) rfl, qm_good (List.mem_of_getElem? (i := 42) (by decide +kernel)) rfl, qm_good (List.mem_of_getElem? (i := 778) (by decide +kernel)) rfl, ⟨by decide +kernel, by decide +kernel, by decide +kernel⟩⟩
theorem cy_Press_linesByMark {own : String} {idx : Nat} (h : Cond.methodLink own idx jy_Press_linesByMark ∈ qm_tb) : qm_CV own idx jy_Press_linesByMark prog_5_method_19_code 3 (some .int) 1 := ⟨h, qm_good (List.mem_of_getElem? (i := 1288) (by decide +kernel)) rfl, qm_good (List.mem_of_getElem? (i := 1289) (by decide +kernel)) rfl, qm_good (List.mem_of_getElem? (i := 42) (by decide +kernel)) rfl, qm_good (List.mem_of_getElem? (i := 1290) (by decide +kernel)) rfl, ⟨by decide +kernel, by decide +kernel, by decide +kernel⟩⟩
theorem cy_Press_pageIsFree {own : String} {idx : Nat} (h : Cond.methodLink own idx jy_Press_pageIsFree ∈ qm_tb) : qm_CV own idx jy_Press_pageIsFree prog_5_method_7_code 1 (some .boolean) 0 := ⟨h, qm_good (List.mem_of_getElem? (i := 742) (by decide +kernel)) rfl, qm_good (List.mem_of_getElem? (i := 25) (by decide +kernel)) rfl, qm_good (List.mem_of_getElem? (i := 42) (by decide +kernel)) rfl, qm_good (List.mem_of_getElem? (i := 743) (by decide +kernel)) rfl, ⟨by decide +kernel, by decide +kernel, by decide +kernel⟩⟩
theorem cy_Press_pourAll {own : String} {idx : Nat} (h : Cond.methodLink own idx jy_Press_pourAll ∈ qm_tb) : qm_CV own idx jy_Press_pourAll prog_5_method_4_code 2 (some .int) 0 := ⟨h, qm_good (List.mem_of_getElem? (i := 731) (by decide +kernel)) rfl, qm_good (List.mem_of_getElem? (i := 732) (by decide +kernel)) rfl, qm_good (List.mem_of_getElem? (i := 42) (by decide +kernel)) rfl, qm_good (List.mem_of_getElem? (i := 733) (by decide +kernel)) rfl, ⟨by decide +kernel, by decide +kernel, by decide +kernel⟩⟩
theorem cy_Press_pourSection {own : String} {idx : Nat} (h : Cond.methodLink own idx jy_Press_pourSection ∈ qm_tb) : qm_CV own idx jy_Press_pourSection prog_5_method_9_code 5 none 1 := ⟨h, qm_good (List.mem_of_getElem? (i := 750) (by decide +kernel)) rfl, qm_good (List.mem_of_getElem? (i := 27) (by decide +kernel)) rfl, qm_good (List.mem_of_getElem? (i := 42) (by decide +kernel)) rfl, qm_good (List.mem_of_getElem? (i := 751) (by decide +kernel)) rfl, ⟨by decide +kernel, by decide +kernel, by decide +kernel⟩⟩
theorem cy_Press_putColumn {own : String} {idx : Nat} (h : Cond.methodLink own idx jy_Press_putColumn ∈ qm_tb) : qm_CV own idx jy_Press_putColumn prog_5_method_12_code 11 (some .boolean) 5 := ⟨h, qm_good (List.mem_of_getElem? (i := 810) (by decide +kernel)) rfl, qm_good (List.mem_of_getElem? (i := 32) (by decide +kernel)) rfl, qm_good (List.mem_of_getElem? (i := 42) (by decide +kernel)) rfl, qm_good (List.mem_of_getElem? (i := 811) (by decide +kernel)) rfl, ⟨by decide +kernel, by decide +kernel, by decide +kernel⟩⟩
theorem cy_Press_putSpan {own : String} {idx : Nat} (h : Cond.methodLink own idx jy_Press_putSpan ∈ qm_tb) : qm_CV own idx jy_Press_putSpan prog_5_method_8_code 4 none 1 := ⟨h, qm_good (List.mem_of_getElem? (i := 738) (by decide +kernel)) rfl, qm_good (List.mem_of_getElem? (i := 24) (by decide +kernel)) rfl, qm_good (List.mem_of_getElem? (i := 42) (by decide +kernel)) rfl, qm_good (List.mem_of_getElem? (i := 739) (by decide +kernel)) rfl, ⟨by decide +kernel, by decide +kernel, by decide +kernel⟩⟩
theorem cy_Press_turnPage {own : String} {idx : Nat} (h : Cond.methodLink own idx jy_Press_turnPage ∈ qm_tb) : qm_CV own idx jy_Press_turnPage prog_5_method_6_code 1 none 0 := ⟨h, qm_good (List.mem_of_getElem? (i := 746) (by decide +kernel)) rfl, qm_good (List.mem_of_getElem? (i := 26) (by decide +kernel)) rfl, qm_good (List.mem_of_getElem? (i := 42) (by decide +kernel)) rfl, qm_good (List.mem_of_getElem? (i := 747) (by decide +kernel)) rfl, ⟨by decide +kernel, by decide +kernel, by decide +kernel⟩⟩
theorem cy_Press_used {own : String} {idx : Nat} (h : Cond.methodLink own idx jy_Press_used ∈ qm_tb) : qm_CV own idx jy_Press_used prog_5_method_14_code 4 (some .int) 1 := ⟨h, qm_good (List.mem_of_getElem? (i := 837) (by decide +kernel)) rfl, qm_good (List.mem_of_getElem? (i := 838) (by decide +kernel)) rfl, qm_good (List.mem_of_getElem? (i := 42) (by decide +kernel)) rfl, qm_good (List.mem_of_getElem? (i := 839) (by decide +kernel)) rfl, ⟨by decide +kernel, by decide +kernel, by decide +kernel⟩⟩
theorem cy_Run_add {own : String} {idx : Nat} (h : Cond.methodLink own idx jy_Run_add ∈ qm_tb) : qm_CV own idx jy_Run_add prog_6_method_12_code 4 (some .int) 1 := ⟨h, qm_good (List.mem_of_getElem? (i := 557) (by decide +kernel)) rfl, qm_good (List.mem_of_getElem? (i := 558) (by decide +kernel)) rfl, qm_good (List.mem_of_getElem? (i := 38) (by decide +kernel)) rfl, qm_good (List.mem_of_getElem? (i := 559) (by decide +kernel)) rfl, ⟨by decide +kernel, by decide +kernel, by decide +kernel⟩⟩
theorem cy_Run_addMark {own : String} {idx : Nat} (h : Cond.methodLink own idx jy_Run_addMark ∈ qm_tb) : qm_CV own idx jy_Run_addMark prog_6_method_18_code 5 none 3 := ⟨h, qm_good (List.mem_of_getElem? (i := 582) (by decide +kernel)) rfl, qm_good (List.mem_of_getElem? (i := 583) (by decide +kernel)) rfl, qm_good (List.mem_of_getElem? (i := 38) (by decide +kernel)) rfl, qm_good (List.mem_of_getElem? (i := 584) (by decide +kernel)) rfl, ⟨by decide +kernel, by decide +kernel, by decide +kernel⟩⟩
theorem cy_Run_allPieces {own : String} {idx : Nat} (h : Cond.methodLink own idx jy_Run_allPieces ∈ qm_tb) : qm_CV own idx jy_Run_allPieces prog_6_method_11_code 3 (some .int) 0 := ⟨h, qm_good (List.mem_of_getElem? (i := 549) (by decide +kernel)) rfl, qm_good (List.mem_of_getElem? (i := 550) (by decide +kernel)) rfl, qm_good (List.mem_of_getElem? (i := 38) (by decide +kernel)) rfl, qm_good (List.mem_of_getElem? (i := 551) (by decide +kernel)) rfl, ⟨by decide +kernel, by decide +kernel, by decide +kernel⟩⟩
theorem cy_Run_cell {own : String} {idx : Nat} (h : Cond.methodLink own idx jy_Run_cell ∈ qm_tb) : qm_CV own idx jy_Run_cell prog_6_method_9_code 3 (some .int) 2 := ⟨h, qm_good (List.mem_of_getElem? (i := 553) (by decide +kernel)) rfl, qm_good (List.mem_of_getElem? (i := 554) (by decide +kernel)) rfl, qm_good (List.mem_of_getElem? (i := 38) (by decide +kernel)) rfl, qm_good (List.mem_of_getElem? (i := 555) (by decide +kernel)) rfl, ⟨by decide +kernel, by decide +kernel, by decide +kernel⟩⟩
theorem cy_Run_copyCells {own : String} {idx : Nat} (h : Cond.methodLink own idx jy_Run_copyCells ∈ qm_tb) : qm_CV own idx jy_Run_copyCells prog_6_method_16_code 4 none 2 := ⟨h, qm_good (List.mem_of_getElem? (i := 650) (by decide +kernel)) rfl, qm_good (List.mem_of_getElem? (i := 17) (by decide +kernel)) rfl, qm_good (List.mem_of_getElem? (i := 38) (by decide +kernel)) rfl, qm_good (List.mem_of_getElem? (i := 651) (by decide +kernel)) rfl, ⟨by decide +kernel, by decide +kernel, by decide +kernel⟩⟩
theorem cy_Run_copyFrom {own : String} {idx : Nat} (h : Cond.methodLink own idx jy_Run_copyFrom ∈ qm_tb) : qm_CV own idx jy_Run_copyFrom prog_6_method_4_code 3 none 1 := ⟨h, qm_good (List.mem_of_getElem? (i := 586) (by decide +kernel)) rfl, qm_good (List.mem_of_getElem? (i := 587) (by decide +kernel)) rfl, qm_good (List.mem_of_getElem? (i := 38) (by decide +kernel)) rfl, qm_good (List.mem_of_getElem? (i := 588) (by decide +kernel)) rfl, ⟨by decide +kernel, by decide +kernel, by decide +kernel⟩⟩
theorem cy_Run_exchange {own : String} {idx : Nat} (h : Cond.methodLink own idx jy_Run_exchange ∈ qm_tb) : qm_CV own idx jy_Run_exchange prog_6_method_13_code 5 none 2 := ⟨h, qm_good (List.mem_of_getElem? (i := 635) (by decide +kernel)) rfl, qm_good (List.mem_of_getElem? (i := 636) (by decide +kernel)) rfl, qm_good (List.mem_of_getElem? (i := 38) (by decide +kernel)) rfl, qm_good (List.mem_of_getElem? (i := 637) (by decide +kernel)) rfl, ⟨by decide +kernel, by decide +kernel, by decide +kernel⟩⟩
theorem cy_Run_has {own : String} {idx : Nat} (h : Cond.methodLink own idx jy_Run_has ∈ qm_tb) : qm_CV own idx jy_Run_has prog_6_method_7_code 2 (some .boolean) 1 := ⟨h, qm_good (List.mem_of_getElem? (i := 620) (by decide +kernel)) rfl, qm_good (List.mem_of_getElem? (i := 621) (by decide +kernel)) rfl, qm_good (List.mem_of_getElem? (i := 38) (by decide +kernel)) rfl, qm_good (List.mem_of_getElem? (i := 622) (by decide +kernel)) rfl, ⟨by decide +kernel, by decide +kernel, by decide +kernel⟩⟩
theorem cy_Run_hasPieces {own : String} {idx : Nat} (h : Cond.methodLink own idx jy_Run_hasPieces ∈ qm_tb) : qm_CV own idx jy_Run_hasPieces prog_6_method_8_code 2 (some .boolean) 1 := ⟨h, qm_good (List.mem_of_getElem? (i := 616) (by decide +kernel)) rfl, qm_good (List.mem_of_getElem? (i := 617) (by decide +kernel)) rfl, qm_good (List.mem_of_getElem? (i := 38) (by decide +kernel)) rfl, qm_good (List.mem_of_getElem? (i := 618) (by decide +kernel)) rfl, ⟨by decide +kernel, by decide +kernel, by decide +kernel⟩⟩
theorem cy_Run_noteAt {own : String} {idx : Nat} (h : Cond.methodLink own idx jy_Run_noteAt ∈ qm_tb) : qm_CV own idx jy_Run_noteAt prog_6_method_17_code 5 (some .int) 2 := ⟨h, qm_good (List.mem_of_getElem? (i := 578) (by decide +kernel)) rfl, qm_good (List.mem_of_getElem? (i := 579) (by decide +kernel)) rfl, qm_good (List.mem_of_getElem? (i := 38) (by decide +kernel)) rfl, qm_good (List.mem_of_getElem? (i := 580) (by decide +kernel)) rfl, ⟨by decide +kernel, by decide +kernel, by decide +kernel⟩⟩
theorem cy_Run_put {own : String} {idx : Nat} (h : Cond.methodLink own idx jy_Run_put ∈ qm_tb) : qm_CV own idx jy_Run_put prog_6_method_6_code 3 none 2 := ⟨h, qm_good (List.mem_of_getElem? (i := 536) (by decide +kernel)) rfl, qm_good (List.mem_of_getElem? (i := 537) (by decide +kernel)) rfl, qm_good (List.mem_of_getElem? (i := 38) (by decide +kernel)) rfl, qm_good (List.mem_of_getElem? (i := 538) (by decide +kernel)) rfl, ⟨by decide +kernel, by decide +kernel, by decide +kernel⟩⟩
theorem cy_Run_putCell {own : String} {idx : Nat} (h : Cond.methodLink own idx jy_Run_putCell ∈ qm_tb) : qm_CV own idx jy_Run_putCell prog_6_method_10_code 4 none 3 := ⟨h, qm_good (List.mem_of_getElem? (i := 561) (by decide +kernel)) rfl, qm_good (List.mem_of_getElem? (i := 562) (by decide +kernel)) rfl, qm_good (List.mem_of_getElem? (i := 38) (by decide +kernel)) rfl, qm_good (List.mem_of_getElem? (i := 563) (by decide +kernel)) rfl, ⟨by decide +kernel, by decide +kernel, by decide +kernel⟩⟩
theorem cy_Run_remove {own : String} {idx : Nat} (h : Cond.methodLink own idx jy_Run_remove ∈ qm_tb) : qm_CV own idx jy_Run_remove prog_6_method_15_code 3 none 1 := ⟨h, qm_good (List.mem_of_getElem? (i := 657) (by decide +kernel)) rfl, qm_good (List.mem_of_getElem? (i := 658) (by decide +kernel)) rfl, qm_good (List.mem_of_getElem? (i := 38) (by decide +kernel)) rfl, qm_good (List.mem_of_getElem? (i := 659) (by decide +kernel)) rfl, ⟨by decide +kernel, by decide +kernel, by decide +kernel⟩⟩
theorem cy_Run_repeat {own : String} {idx : Nat} (h : Cond.methodLink own idx jy_Run_repeat ∈ qm_tb) : qm_CV own idx jy_Run_repeat prog_6_method_14_code 3 none 1 := ⟨h, qm_good (List.mem_of_getElem? (i := 644) (by decide +kernel)) rfl, qm_good (List.mem_of_getElem? (i := 645) (by decide +kernel)) rfl, qm_good (List.mem_of_getElem? (i := 38) (by decide +kernel)) rfl, qm_good (List.mem_of_getElem? (i := 646) (by decide +kernel)) rfl, ⟨by decide +kernel, by decide +kernel, by decide +kernel⟩⟩
theorem cy_Run_setting {own : String} {idx : Nat} (h : Cond.methodLink own idx jy_Run_setting ∈ qm_tb) : qm_CV own idx jy_Run_setting prog_6_method_5_code 2 (some .int) 1 := ⟨h, qm_good (List.mem_of_getElem? (i := 277) (by decide +kernel)) rfl, qm_good (List.mem_of_getElem? (i := 278) (by decide +kernel)) rfl, qm_good (List.mem_of_getElem? (i := 38) (by decide +kernel)) rfl, qm_good (List.mem_of_getElem? (i := 279) (by decide +kernel)) rfl, ⟨by decide +kernel, by decide +kernel, by decide +kernel⟩⟩
theorem cys_Run_takes {own : String} {idx : Nat} (h : Cond.methodLink own idx jy_Run_takes ∈ qm_tb) : qm_CS own idx jy_Run_takes prog_6_method_2_code 2 (some .boolean) 2 := ⟨h, qm_good (List.mem_of_getElem? (i := 540) (by decide +kernel)) rfl, qm_good (List.mem_of_getElem? (i := 38) (by decide +kernel)) rfl, qm_good (List.mem_of_getElem? (i := 541) (by decide +kernel)) rfl, ⟨by decide +kernel, by decide +kernel, by decide +kernel⟩⟩
theorem cy_Tape_append {own : String} {idx : Nat} (h : Cond.methodLink own idx jy_Tape_append ∈ qm_tb) : qm_CV own idx jy_Tape_append prog_7_method_2_code 3 none 1 := ⟨h, qm_good (List.mem_of_getElem? (i := 1195) (by decide +kernel)) rfl, qm_good (List.mem_of_getElem? (i := 1196) (by decide +kernel)) rfl, qm_good (List.mem_of_getElem? (i := 39) (by decide +kernel)) rfl, qm_good (List.mem_of_getElem? (i := 1197) (by decide +kernel)) rfl, ⟨by decide +kernel, by decide +kernel, by decide +kernel⟩⟩
theorem cys_Teller_mostHigh {own : String} {idx : Nat} (h : Cond.methodLink own idx jy_Teller_mostHigh ∈ qm_tb) : qm_CS own idx jy_Teller_mostHigh prog_8_method_11_code 1 (some .int) 1 := ⟨h, qm_good (List.mem_of_getElem? (i := 566) (by decide +kernel)) rfl, qm_good (List.mem_of_getElem? (i := 40) (by decide +kernel)) rfl, qm_good (List.mem_of_getElem? (i := 567) (by decide +kernel)) rfl, ⟨by decide +kernel, by decide +kernel, by decide +kernel⟩⟩
theorem cy_Teller_place {own : String} {idx : Nat} (h : Cond.methodLink own idx jy_Teller_place ∈ qm_tb) : qm_CV own idx jy_Teller_place prog_8_method_19_code 1 (some .int) 0 := ⟨h, qm_good (List.mem_of_getElem? (i := 509) (by decide +kernel)) rfl, qm_good (List.mem_of_getElem? (i := 6) (by decide +kernel)) rfl, qm_good (List.mem_of_getElem? (i := 40) (by decide +kernel)) rfl, qm_good (List.mem_of_getElem? (i := 510) (by decide +kernel)) rfl, ⟨by decide +kernel, by decide +kernel, by decide +kernel⟩⟩
theorem cy_Teller_readBlock {own : String} {idx : Nat} (h : Cond.methodLink own idx jy_Teller_readBlock ∈ qm_tb) : qm_CV own idx jy_Teller_readBlock prog_8_method_10_code 8 none 2 := ⟨h, qm_good (List.mem_of_getElem? (i := 546) (by decide +kernel)) rfl, qm_good (List.mem_of_getElem? (i := 12) (by decide +kernel)) rfl, qm_good (List.mem_of_getElem? (i := 40) (by decide +kernel)) rfl, qm_good (List.mem_of_getElem? (i := 547) (by decide +kernel)) rfl, ⟨by decide +kernel, by decide +kernel, by decide +kernel⟩⟩
theorem cy_Teller_readMark {own : String} {idx : Nat} (h : Cond.methodLink own idx jy_Teller_readMark ∈ qm_tb) : qm_CV own idx jy_Teller_readMark prog_8_method_13_code 6 none 2 := ⟨h, qm_good (List.mem_of_getElem? (i := 574) (by decide +kernel)) rfl, qm_good (List.mem_of_getElem? (i := 14) (by decide +kernel)) rfl, qm_good (List.mem_of_getElem? (i := 40) (by decide +kernel)) rfl, qm_good (List.mem_of_getElem? (i := 575) (by decide +kernel)) rfl, ⟨by decide +kernel, by decide +kernel, by decide +kernel⟩⟩
theorem cy_Teller_readNumber {own : String} {idx : Nat} (h : Cond.methodLink own idx jy_Teller_readNumber ∈ qm_tb) : qm_CV own idx jy_Teller_readNumber prog_8_method_16_code 4 (some .int) 2 := ⟨h, qm_good (List.mem_of_getElem? (i := 533) (by decide +kernel)) rfl, qm_good (List.mem_of_getElem? (i := 11) (by decide +kernel)) rfl, qm_good (List.mem_of_getElem? (i := 40) (by decide +kernel)) rfl, qm_good (List.mem_of_getElem? (i := 534) (by decide +kernel)) rfl, ⟨by decide +kernel, by decide +kernel, by decide +kernel⟩⟩
theorem cy_Teller_readSetting {own : String} {idx : Nat} (h : Cond.methodLink own idx jy_Teller_readSetting ∈ qm_tb) : qm_CV own idx jy_Teller_readSetting prog_8_method_9_code 4 none 2 := ⟨h, qm_good (List.mem_of_getElem? (i := 521) (by decide +kernel)) rfl, qm_good (List.mem_of_getElem? (i := 9) (by decide +kernel)) rfl, qm_good (List.mem_of_getElem? (i := 40) (by decide +kernel)) rfl, qm_good (List.mem_of_getElem? (i := 522) (by decide +kernel)) rfl, ⟨by decide +kernel, by decide +kernel, by decide +kernel⟩⟩
theorem cy_Teller_readWord {own : String} {idx : Nat} (h : Cond.methodLink own idx jy_Teller_readWord ∈ qm_tb) : qm_CV own idx jy_Teller_readWord prog_8_method_15_code 2 (some .int) 0 := ⟨h, qm_good (List.mem_of_getElem? (i := 513) (by decide +kernel)) rfl, qm_good (List.mem_of_getElem? (i := 7) (by decide +kernel)) rfl, qm_good (List.mem_of_getElem? (i := 40) (by decide +kernel)) rfl, qm_good (List.mem_of_getElem? (i := 514) (by decide +kernel)) rfl, ⟨by decide +kernel, by decide +kernel, by decide +kernel⟩⟩
theorem cy_Teller_readWords {own : String} {idx : Nat} (h : Cond.methodLink own idx jy_Teller_readWords ∈ qm_tb) : qm_CV own idx jy_Teller_readWords prog_8_method_12_code 6 none 2 := ⟨h, qm_good (List.mem_of_getElem? (i := 570) (by decide +kernel)) rfl, qm_good (List.mem_of_getElem? (i := 13) (by decide +kernel)) rfl, qm_good (List.mem_of_getElem? (i := 40) (by decide +kernel)) rfl, qm_good (List.mem_of_getElem? (i := 571) (by decide +kernel)) rfl, ⟨by decide +kernel, by decide +kernel, by decide +kernel⟩⟩
theorem cy_Teller_sign {own : String} {idx : Nat} (h : Cond.methodLink own idx jy_Teller_sign ∈ qm_tb) : qm_CV own idx jy_Teller_sign prog_8_method_18_code 1 (some .int) 0 := ⟨h, qm_good (List.mem_of_getElem? (i := 501) (by decide +kernel)) rfl, qm_good (List.mem_of_getElem? (i := 4) (by decide +kernel)) rfl, qm_good (List.mem_of_getElem? (i := 40) (by decide +kernel)) rfl, qm_good (List.mem_of_getElem? (i := 502) (by decide +kernel)) rfl, ⟨by decide +kernel, by decide +kernel, by decide +kernel⟩⟩
theorem cy_Teller_tellOnce {own : String} {idx : Nat} (h : Cond.methodLink own idx jy_Teller_tellOnce ∈ qm_tb) : qm_CV own idx jy_Teller_tellOnce prog_8_method_14_code 3 none 2 := ⟨h, qm_good (List.mem_of_getElem? (i := 525) (by decide +kernel)) rfl, qm_good (List.mem_of_getElem? (i := 10) (by decide +kernel)) rfl, qm_good (List.mem_of_getElem? (i := 40) (by decide +kernel)) rfl, qm_good (List.mem_of_getElem? (i := 526) (by decide +kernel)) rfl, ⟨by decide +kernel, by decide +kernel, by decide +kernel⟩⟩
theorem cy_Teller_wrong {own : String} {idx : Nat} (h : Cond.methodLink own idx jy_Teller_wrong ∈ qm_tb) : qm_CV own idx jy_Teller_wrong prog_8_method_17_code 3 none 2 := ⟨h, qm_good (List.mem_of_getElem? (i := 517) (by decide +kernel)) rfl, qm_good (List.mem_of_getElem? (i := 8) (by decide +kernel)) rfl, qm_good (List.mem_of_getElem? (i := 40) (by decide +kernel)) rfl, qm_good (List.mem_of_getElem? (i := 518) (by decide +kernel)) rfl, ⟨by decide +kernel, by decide +kernel, by decide +kernel⟩⟩
theorem cys_Math_max {own : String} {idx : Nat} (h : Cond.methodLink own idx jy_Math_max ∈ qm_tb) : qm_CS own idx jy_Math_max prog_18_method_65_code 2 (some .int) 2 := ⟨h, qm_good (List.mem_of_getElem? (i := 312) (by decide +kernel)) rfl, qm_good (List.mem_of_getElem? (i := 45) (by decide +kernel)) rfl, qm_good (List.mem_of_getElem? (i := 313) (by decide +kernel)) rfl, ⟨by decide +kernel, by decide +kernel, by decide +kernel⟩⟩
theorem cys_Math_min {own : String} {idx : Nat} (h : Cond.methodLink own idx jy_Math_min ∈ qm_tb) : qm_CS own idx jy_Math_min prog_18_method_69_code 2 (some .int) 2 := ⟨h, qm_good (List.mem_of_getElem? (i := 497) (by decide +kernel)) rfl, qm_good (List.mem_of_getElem? (i := 45) (by decide +kernel)) rfl, qm_good (List.mem_of_getElem? (i := 498) (by decide +kernel)) rfl, ⟨by decide +kernel, by decide +kernel, by decide +kernel⟩⟩
theorem cv_Top_68 : qm_CV qr_Top 68 jy_Tape_append prog_7_method_2_code 3 none 1 := cy_Tape_append (qm_good (List.mem_of_getElem? (i := 1194) (by decide +kernel)) rfl)
theorem cv_Top_79 : qm_CV qr_Top 79 jy_Run_copyFrom prog_6_method_4_code 3 none 1 := cy_Run_copyFrom (qm_good (List.mem_of_getElem? (i := 585) (by decide +kernel)) rfl)
theorem cv_Top_86 : qm_CV qr_Top 86 jy_Top_changed prog_1_method_38_code 1 none 0 := cy_Top_changed (qm_good (List.mem_of_getElem? (i := 589) (by decide +kernel)) rfl)
theorem cv_Top_89 : qm_CS qr_Top 89 jy_Run_takes prog_6_method_2_code 2 (some .boolean) 2 := cys_Run_takes (qm_good (List.mem_of_getElem? (i := 598) (by decide +kernel)) rfl)
theorem cv_Top_93 : qm_CV qr_Top 93 jy_Run_setting prog_6_method_5_code 2 (some .int) 1 := cy_Run_setting (qm_good (List.mem_of_getElem? (i := 599) (by decide +kernel)) rfl)
theorem cv_Top_97 : qm_CV qr_Top 97 jy_Top_beginAct prog_1_method_37_code 1 none 0 := cy_Top_beginAct (qm_good (List.mem_of_getElem? (i := 600) (by decide +kernel)) rfl)
theorem cv_Top_100 : qm_CV qr_Top 100 jy_Run_put prog_6_method_6_code 3 none 2 := cy_Run_put (qm_good (List.mem_of_getElem? (i := 610) (by decide +kernel)) rfl)
theorem cv_Top_104 : qm_CV qr_Top 104 jy_Run_hasPieces prog_6_method_8_code 2 (some .boolean) 1 := cy_Run_hasPieces (qm_good (List.mem_of_getElem? (i := 615) (by decide +kernel)) rfl)
theorem cv_Top_108 : qm_CV qr_Top 108 jy_Run_cell prog_6_method_9_code 3 (some .int) 2 := cy_Run_cell (qm_good (List.mem_of_getElem? (i := 623) (by decide +kernel)) rfl)
theorem cv_Top_112 : qm_CV qr_Top 112 jy_Run_putCell prog_6_method_10_code 4 none 3 := cy_Run_putCell (qm_good (List.mem_of_getElem? (i := 624) (by decide +kernel)) rfl)
theorem cv_Top_116 : qm_CV qr_Top 116 jy_Run_has prog_6_method_7_code 2 (some .boolean) 1 := cy_Run_has (qm_good (List.mem_of_getElem? (i := 633) (by decide +kernel)) rfl)
theorem cv_Top_119 : qm_CV qr_Top 119 jy_Run_exchange prog_6_method_13_code 5 none 2 := cy_Run_exchange (qm_good (List.mem_of_getElem? (i := 634) (by decide +kernel)) rfl)
theorem cv_Top_125 : qm_CV qr_Top 125 jy_Run_allPieces prog_6_method_11_code 3 (some .int) 0 := cy_Run_allPieces (qm_good (List.mem_of_getElem? (i := 642) (by decide +kernel)) rfl)
theorem cv_Top_128 : qm_CV qr_Top 128 jy_Run_repeat prog_6_method_14_code 3 none 1 := cy_Run_repeat (qm_good (List.mem_of_getElem? (i := 643) (by decide +kernel)) rfl)
theorem cv_Top_131 : qm_CV qr_Top 131 jy_Run_remove prog_6_method_15_code 3 none 1 := cy_Run_remove (qm_good (List.mem_of_getElem? (i := 656) (by decide +kernel)) rfl)
theorem cv_Top_134 : qm_CV qr_Top 134 jy_Past_pop prog_4_method_3_code 2 none 1 := cy_Past_pop (qm_good (List.mem_of_getElem? (i := 664) (by decide +kernel)) rfl)
theorem cv_Top_140 : qm_CV qr_Top 140 jy_Top_laidOut prog_1_method_39_code 1 (some (.object "ColumnsLevelled$Press")) 0 := cy_Top_laidOut (qm_good (List.mem_of_getElem? (i := 681) (by decide +kernel)) rfl)
theorem cv_Top_154 : qm_CS qr_Top 154 jy_Top_at prog_1_method_36_code 2 (some .int) 2 := cys_Top_at (qm_good (List.mem_of_getElem? (i := 1259) (by decide +kernel)) rfl)
theorem cv_Top_176 : qm_CV qr_Top 176 jy_Flow_mayEnd prog_3_method_9_code 2 (some .boolean) 1 := cy_Flow_mayEnd (qm_good (List.mem_of_getElem? (i := 1264) (by decide +kernel)) rfl)
theorem cv_Top_194 : qm_CV qr_Top 194 jy_Flow_endsIn prog_3_method_10_code 5 (some .int) 2 := cy_Flow_endsIn (qm_good (List.mem_of_getElem? (i := 1273) (by decide +kernel)) rfl)
theorem cv_Top_197 : qm_CV qr_Top 197 jy_Flow_ownLines prog_3_method_12_code 3 (some .int) 2 := cy_Flow_ownLines (qm_good (List.mem_of_getElem? (i := 1278) (by decide +kernel)) rfl)
theorem cv_Top_203 : qm_CV qr_Top 203 jy_Flow_spans prog_3_method_8_code 1 (some .int) 0 := cy_Flow_spans (qm_good (List.mem_of_getElem? (i := 717) (by decide +kernel)) rfl)
theorem cv_Top_206 : qm_CV qr_Top 206 jy_Top_pouredNow prog_1_method_40_code 2 (some (.object "ColumnsLevelled$Press")) 0 := cy_Top_pouredNow (qm_good (List.mem_of_getElem? (i := 726) (by decide +kernel)) rfl)
theorem cv_Top_209 : qm_CV qr_Top 209 jy_Press_answer prog_5_method_5_code 1 (some .int) 0 := cy_Press_answer (qm_good (List.mem_of_getElem? (i := 823) (by decide +kernel)) rfl)
theorem cv_Top_215 : qm_CV qr_Top 215 jy_Press_cell prog_5_method_13_code 3 (some .int) 2 := cy_Press_cell (qm_good (List.mem_of_getElem? (i := 828) (by decide +kernel)) rfl)
theorem cv_Top_225 : qm_CV qr_Top 225 jy_Press_linesByMark prog_5_method_19_code 3 (some .int) 1 := cy_Press_linesByMark (qm_good (List.mem_of_getElem? (i := 1287) (by decide +kernel)) rfl)
theorem cv_Top_228 : qm_CV qr_Top 228 jy_Press_columnsOfNote prog_5_method_20_code 6 (some .int) 1 := cy_Press_columnsOfNote (qm_good (List.mem_of_getElem? (i := 1299) (by decide +kernel)) rfl)
theorem cv_Top_243 : qm_CV qr_Top 243 jy_Press_used prog_5_method_14_code 4 (some .int) 1 := cy_Press_used (qm_good (List.mem_of_getElem? (i := 836) (by decide +kernel)) rfl)
theorem cv_Top_264 : qm_CV qr_Top 264 jy_Top_asks prog_1_method_41_code 3 (some .boolean) 2 := cy_Top_asks (qm_good (List.mem_of_getElem? (i := 845) (by decide +kernel)) rfl)
theorem cv_Top_277 : qm_CV qr_Top 277 jy_Fitter_leastOf prog_2_method_7_code 2 (some .int) 1 := cy_Fitter_leastOf (qm_good (List.mem_of_getElem? (i := 849) (by decide +kernel)) rfl)
theorem cv_Top_288 : qm_CV qr_Top 288 jy_Press_lay prog_5_method_2_code 1 none 0 := cy_Press_lay (qm_good (List.mem_of_getElem? (i := 685) (by decide +kernel)) rfl)
theorem cv_Top_315 : qm_CV qr_Top 315 jy_Press_pourAll prog_5_method_4_code 2 (some .int) 0 := cy_Press_pourAll (qm_good (List.mem_of_getElem? (i := 730) (by decide +kernel)) rfl)
theorem cv_Top_327 : qm_CV qr_Top 327 jy_Past_push prog_4_method_2_code 2 none 1 := cy_Past_push (qm_good (List.mem_of_getElem? (i := 604) (by decide +kernel)) rfl)
theorem cv_Fitter_35 : qm_CV qr_Fitter 35 jy_Run_setting prog_6_method_5_code 2 (some .int) 1 := cy_Run_setting (qm_good (List.mem_of_getElem? (i := 276) (by decide +kernel)) rfl)
theorem cv_Fitter_51 : qm_CV qr_Fitter 51 jy_Flow_text prog_3_method_14_code 3 (some .int) 2 := cy_Flow_text (qm_good (List.mem_of_getElem? (i := 792) (by decide +kernel)) rfl)
theorem cv_Fitter_57 : qm_CV qr_Fitter 57 jy_Flow_ownLines prog_3_method_12_code 3 (some .int) 2 := cy_Flow_ownLines (qm_good (List.mem_of_getElem? (i := 796) (by decide +kernel)) rfl)
theorem cv_Fitter_60 : qm_CV qr_Fitter 60 jy_Fitter_linesIn prog_2_method_4_code 2 (some .int) 1 := cy_Fitter_linesIn (qm_good (List.mem_of_getElem? (i := 800) (by decide +kernel)) rfl)
theorem cv_Fitter_63 : qm_CV qr_Fitter 63 jy_Flow_lastLinesAhead prog_3_method_13_code 2 (some .int) 1 := cy_Flow_lastLinesAhead (qm_good (List.mem_of_getElem? (i := 804) (by decide +kernel)) rfl)
theorem cv_Fitter_66 : qm_CS qr_Fitter 66 jy_Math_max prog_18_method_65_code 2 (some .int) 2 := cys_Math_max (qm_good (List.mem_of_getElem? (i := 765) (by decide +kernel)) rfl)
theorem cv_Fitter_71 : qm_CV qr_Fitter 71 jy_Fitter_measure prog_2_method_10_code 9 none 3 := cy_Fitter_measure (qm_good (List.mem_of_getElem? (i := 761) (by decide +kernel)) rfl)
theorem cv_Fitter_78 : qm_CN qr_Fitter 78 jy_Top_at "ColumnsLevelled" prog_1_method_36_code 2 (some .int) 2 := cyn_Top_at (by decide +kernel)
theorem cv_Fitter_82 : qm_CV qr_Fitter 82 jy_Fitter_bearsAt prog_2_method_6_code 3 (some .int) 2 := cy_Fitter_bearsAt (qm_good (List.mem_of_getElem? (i := 771) (by decide +kernel)) rfl)
theorem cv_Fitter_85 : qm_CV qr_Fitter 85 jy_Fitter_leastFrom prog_2_method_8_code 11 (some .int) 4 := cy_Fitter_leastFrom (qm_good (List.mem_of_getElem? (i := 853) (by decide +kernel)) rfl)
theorem cv_Fitter_89 : qm_CV qr_Fitter 89 jy_Fitter_slotOf prog_2_method_9_code 5 (some .int) 3 := cy_Fitter_slotOf (qm_good (List.mem_of_getElem? (i := 756) (by decide +kernel)) rfl)
theorem cv_Fitter_96 : qm_CS qr_Fitter 96 jy_Math_min prog_18_method_69_code 2 (some .int) 2 := cys_Math_min (qm_good (List.mem_of_getElem? (i := 766) (by decide +kernel)) rfl)
theorem cv_Fitter_109 : qm_CV qr_Fitter 109 jy_Fitter_bearsFrom prog_2_method_11_code 11 (some .int) 3 := cy_Fitter_bearsFrom (qm_good (List.mem_of_getElem? (i := 767) (by decide +kernel)) rfl)
theorem cv_Fitter_128 : qm_CV qr_Fitter 128 jy_Flow_mayEnd prog_3_method_9_code 2 (some .boolean) 1 := cy_Flow_mayEnd (qm_good (List.mem_of_getElem? (i := 784) (by decide +kernel)) rfl)
theorem cv_Fitter_132 : qm_CV qr_Fitter 132 jy_Fitter_leftOver prog_2_method_3_code 9 (some .int) 4 := cy_Fitter_leftOver (qm_good (List.mem_of_getElem? (i := 788) (by decide +kernel)) rfl)
theorem cv_Flow_80 : qm_CV qr_Flow 80 jy_Flow_openSection prog_3_method_3_code 2 none 1 := cy_Flow_openSection (qm_good (List.mem_of_getElem? (i := 693) (by decide +kernel)) rfl)
theorem cv_Flow_84 : qm_CV qr_Flow 84 jy_Run_cell prog_6_method_9_code 3 (some .int) 2 := cy_Run_cell (qm_good (List.mem_of_getElem? (i := 697) (by decide +kernel)) rfl)
theorem cv_Flow_88 : qm_CV qr_Flow 88 jy_Flow_layPieces prog_3_method_4_code 8 none 1 := cy_Flow_layPieces (qm_good (List.mem_of_getElem? (i := 698) (by decide +kernel)) rfl)
theorem cv_Flow_91 : qm_CV qr_Flow 91 jy_Flow_markEnds prog_3_method_5_code 2 none 0 := cy_Flow_markEnds (qm_good (List.mem_of_getElem? (i := 703) (by decide +kernel)) rfl)
theorem cv_Flow_94 : qm_CV qr_Flow 94 jy_Run_noteAt prog_6_method_17_code 5 (some .int) 2 := cy_Run_noteAt (qm_good (List.mem_of_getElem? (i := 702) (by decide +kernel)) rfl)
theorem cv_Flow_97 : qm_CV qr_Flow 97 jy_Flow_endsBehind prog_3_method_7_code 6 (some .boolean) 2 := cy_Flow_endsBehind (qm_good (List.mem_of_getElem? (i := 707) (by decide +kernel)) rfl)
theorem cv_Flow_101 : qm_CV qr_Flow 101 jy_Flow_markEnd prog_3_method_6_code 2 none 1 := cy_Flow_markEnd (qm_good (List.mem_of_getElem? (i := 712) (by decide +kernel)) rfl)
theorem cv_Flow_104 : qm_CV qr_Flow 104 jy_Run_setting prog_6_method_5_code 2 (some .int) 1 := cy_Run_setting (qm_good (List.mem_of_getElem? (i := 711) (by decide +kernel)) rfl)
theorem cv_Flow_108 : qm_CS qr_Flow 108 jy_Math_max prog_18_method_65_code 2 (some .int) 2 := cys_Math_max (qm_good (List.mem_of_getElem? (i := 721) (by decide +kernel)) rfl)
theorem cv_Flow_113 : qm_CV qr_Flow 113 jy_Flow_mayEnd prog_3_method_9_code 2 (some .boolean) 1 := cy_Flow_mayEnd (qm_good (List.mem_of_getElem? (i := 1277) (by decide +kernel)) rfl)
theorem cv_Past_22 : qm_CV qr_Past 22 jy_Run_copyFrom prog_6_method_4_code 3 none 1 := cy_Run_copyFrom (qm_good (List.mem_of_getElem? (i := 608) (by decide +kernel)) rfl)
theorem cv_Past_29 : qm_CS qr_Past 29 jy_Math_min prog_18_method_69_code 2 (some .int) 2 := cys_Math_min (qm_good (List.mem_of_getElem? (i := 609) (by decide +kernel)) rfl)
theorem cv_Past_35 : qm_CS qr_Past 35 jy_Math_max prog_18_method_65_code 2 (some .int) 2 := cys_Math_max (qm_good (List.mem_of_getElem? (i := 668) (by decide +kernel)) rfl)
theorem cv_Press_33 : qm_CS qr_Press 33 jy_Math_max prog_18_method_65_code 2 (some .int) 2 := cys_Math_max (qm_good (List.mem_of_getElem? (i := 311) (by decide +kernel)) rfl)
theorem cv_Press_55 : qm_CV qr_Press 55 jy_Flow_lay prog_3_method_2_code 2 none 0 := cy_Flow_lay (qm_good (List.mem_of_getElem? (i := 689) (by decide +kernel)) rfl)
theorem cv_Press_58 : qm_CV qr_Press 58 jy_Fitter_forget prog_2_method_2_code 2 none 0 := cy_Fitter_forget (qm_good (List.mem_of_getElem? (i := 716) (by decide +kernel)) rfl)
theorem cv_Press_70 : qm_CV qr_Press 70 jy_Run_setting prog_6_method_5_code 2 (some .int) 1 := cy_Run_setting (qm_good (List.mem_of_getElem? (i := 734) (by decide +kernel)) rfl)
theorem cv_Press_88 : qm_CN qr_Press 88 jy_Top_at "ColumnsLevelled" prog_1_method_36_code 2 (some .int) 2 := cyn_Top_at (by decide +kernel)
theorem cv_Press_98 : qm_CV qr_Press 98 jy_Press_putSpan prog_5_method_8_code 4 none 1 := cy_Press_putSpan (qm_good (List.mem_of_getElem? (i := 736) (by decide +kernel)) rfl)
theorem cv_Press_105 : qm_CV qr_Press 105 jy_Press_pourSection prog_5_method_9_code 5 none 1 := cy_Press_pourSection (qm_good (List.mem_of_getElem? (i := 748) (by decide +kernel)) rfl)
theorem cv_Press_108 : qm_CV qr_Press 108 jy_Press_answer prog_5_method_5_code 1 (some .int) 0 := cy_Press_answer (qm_good (List.mem_of_getElem? (i := 819) (by decide +kernel)) rfl)
theorem cv_Press_115 : qm_CV qr_Press 115 jy_Press_pageIsFree prog_5_method_7_code 1 (some .boolean) 0 := cy_Press_pageIsFree (qm_good (List.mem_of_getElem? (i := 740) (by decide +kernel)) rfl)
theorem cv_Press_119 : qm_CV qr_Press 119 jy_Press_turnPage prog_5_method_6_code 1 none 0 := cy_Press_turnPage (qm_good (List.mem_of_getElem? (i := 744) (by decide +kernel)) rfl)
theorem cv_Press_122 : qm_CV qr_Press 122 jy_Fitter_leastFrom prog_2_method_8_code 11 (some .int) 4 := cy_Fitter_leastFrom (qm_good (List.mem_of_getElem? (i := 752) (by decide +kernel)) rfl)
theorem cv_Press_126 : qm_CV qr_Press 126 jy_Press_level prog_5_method_10_code 6 none 2 := cy_Press_level (qm_good (List.mem_of_getElem? (i := 775) (by decide +kernel)) rfl)
theorem cv_Press_130 : qm_CV qr_Press 130 jy_Press_fill prog_5_method_11_code 9 (some .boolean) 1 := cy_Press_fill (qm_good (List.mem_of_getElem? (i := 815) (by decide +kernel)) rfl)
theorem cv_Press_134 : qm_CV qr_Press 134 jy_Fitter_measure prog_2_method_10_code 9 none 3 := cy_Fitter_measure (qm_good (List.mem_of_getElem? (i := 779) (by decide +kernel)) rfl)
theorem cv_Press_138 : qm_CV qr_Press 138 jy_Fitter_latest prog_2_method_12_code 8 (some .int) 5 := cy_Fitter_latest (qm_good (List.mem_of_getElem? (i := 780) (by decide +kernel)) rfl)
theorem cv_Press_142 : qm_CV qr_Press 142 jy_Press_putColumn prog_5_method_12_code 11 (some .boolean) 5 := cy_Press_putColumn (qm_good (List.mem_of_getElem? (i := 808) (by decide +kernel)) rfl)
theorem cv_Press_146 : qm_CV qr_Press 146 jy_Flow_ownLines prog_3_method_12_code 3 (some .int) 2 := cy_Flow_ownLines (qm_good (List.mem_of_getElem? (i := 812) (by decide +kernel)) rfl)
theorem cv_Press_149 : qm_CV qr_Press 149 jy_Fitter_leftOver prog_2_method_3_code 9 (some .int) 4 := cy_Fitter_leftOver (qm_good (List.mem_of_getElem? (i := 813) (by decide +kernel)) rfl)
theorem cv_Press_152 : qm_CV qr_Press 152 jy_Flow_text prog_3_method_14_code 3 (some .int) 2 := cy_Flow_text (qm_good (List.mem_of_getElem? (i := 814) (by decide +kernel)) rfl)
theorem cv_Press_155 : qm_CV qr_Press 155 jy_Press_cell prog_5_method_13_code 3 (some .int) 2 := cy_Press_cell (qm_good (List.mem_of_getElem? (i := 840) (by decide +kernel)) rfl)
theorem cv_Press_164 : qm_CV qr_Press 164 jy_Press_columnOf prog_5_method_17_code 3 (some .int) 1 := cy_Press_columnOf (qm_good (List.mem_of_getElem? (i := 1291) (by decide +kernel)) rfl)
theorem cv_Press_170 : qm_CV qr_Press 170 jy_Press_leftOfNote prog_5_method_18_code 4 (some .int) 2 := cy_Press_leftOfNote (qm_good (List.mem_of_getElem? (i := 1295) (by decide +kernel)) rfl)
theorem cv_Run_34 : qm_CS qr_Run 34 jy_Run_takes prog_6_method_2_code 2 (some .boolean) 2 := cys_Run_takes (qm_good (List.mem_of_getElem? (i := 539) (by decide +kernel)) rfl)
theorem cv_Run_38 : qm_CV qr_Run 38 jy_Run_has prog_6_method_7_code 2 (some .boolean) 1 := cy_Run_has (qm_good (List.mem_of_getElem? (i := 619) (by decide +kernel)) rfl)
theorem cv_Run_42 : qm_CV qr_Run 42 jy_Run_cell prog_6_method_9_code 3 (some .int) 2 := cy_Run_cell (qm_good (List.mem_of_getElem? (i := 552) (by decide +kernel)) rfl)
theorem cv_Run_46 : qm_CV qr_Run 46 jy_Run_putCell prog_6_method_10_code 4 none 3 := cy_Run_putCell (qm_good (List.mem_of_getElem? (i := 560) (by decide +kernel)) rfl)
theorem cv_Run_50 : qm_CV qr_Run 50 jy_Run_add prog_6_method_12_code 4 (some .int) 1 := cy_Run_add (qm_good (List.mem_of_getElem? (i := 647) (by decide +kernel)) rfl)
theorem cv_Run_54 : qm_CV qr_Run 54 jy_Run_copyCells prog_6_method_16_code 4 none 2 := cy_Run_copyCells (qm_good (List.mem_of_getElem? (i := 648) (by decide +kernel)) rfl)
theorem cv_Teller_48 : qm_CV qr_Teller 48 jy_Teller_sign prog_8_method_18_code 1 (some .int) 0 := cy_Teller_sign (qm_good (List.mem_of_getElem? (i := 499) (by decide +kernel)) rfl)
theorem cv_Teller_55 : qm_CV qr_Teller 55 jy_Teller_place prog_8_method_19_code 1 (some .int) 0 := cy_Teller_place (qm_good (List.mem_of_getElem? (i := 507) (by decide +kernel)) rfl)
theorem cv_Teller_58 : qm_CV qr_Teller 58 jy_Teller_wrong prog_8_method_17_code 3 none 2 := cy_Teller_wrong (qm_good (List.mem_of_getElem? (i := 515) (by decide +kernel)) rfl)
theorem cv_Teller_62 : qm_CV qr_Teller 62 jy_Run_allPieces prog_6_method_11_code 3 (some .int) 0 := cy_Run_allPieces (qm_good (List.mem_of_getElem? (i := 548) (by decide +kernel)) rfl)
theorem cv_Teller_73 : qm_CN qr_Teller 73 jy_Top_at "ColumnsLevelled" prog_1_method_36_code 2 (some .int) 2 := cyn_Top_at (by decide +kernel)
theorem cv_Teller_89 : qm_CS qr_Teller 89 jy_Math_min prog_18_method_69_code 2 (some .int) 2 := cys_Math_min (qm_good (List.mem_of_getElem? (i := 496) (by decide +kernel)) rfl)
theorem cv_Teller_108 : qm_CV qr_Teller 108 jy_Teller_readWord prog_8_method_15_code 2 (some .int) 0 := cy_Teller_readWord (qm_good (List.mem_of_getElem? (i := 511) (by decide +kernel)) rfl)
theorem cv_Teller_111 : qm_CV qr_Teller 111 jy_Teller_readSetting prog_8_method_9_code 4 none 2 := cy_Teller_readSetting (qm_good (List.mem_of_getElem? (i := 519) (by decide +kernel)) rfl)
theorem cv_Teller_114 : qm_CV qr_Teller 114 jy_Teller_readBlock prog_8_method_10_code 8 none 2 := cy_Teller_readBlock (qm_good (List.mem_of_getElem? (i := 544) (by decide +kernel)) rfl)
theorem cv_Teller_117 : qm_CV qr_Teller 117 jy_Teller_tellOnce prog_8_method_14_code 3 none 2 := cy_Teller_tellOnce (qm_good (List.mem_of_getElem? (i := 523) (by decide +kernel)) rfl)
theorem cv_Teller_126 : qm_CV qr_Teller 126 jy_Teller_readNumber prog_8_method_16_code 4 (some .int) 2 := cy_Teller_readNumber (qm_good (List.mem_of_getElem? (i := 531) (by decide +kernel)) rfl)
theorem cv_Teller_129 : qm_CV qr_Teller 129 jy_Run_put prog_6_method_6_code 3 none 2 := cy_Run_put (qm_good (List.mem_of_getElem? (i := 535) (by decide +kernel)) rfl)
theorem cv_Teller_135 : qm_CV qr_Teller 135 jy_Run_add prog_6_method_12_code 4 (some .int) 1 := cy_Run_add (qm_good (List.mem_of_getElem? (i := 556) (by decide +kernel)) rfl)
theorem cv_Teller_138 : qm_CV qr_Teller 138 jy_Run_putCell prog_6_method_10_code 4 none 3 := cy_Run_putCell (qm_good (List.mem_of_getElem? (i := 564) (by decide +kernel)) rfl)
theorem cv_Teller_142 : qm_CS qr_Teller 142 jy_Teller_mostHigh prog_8_method_11_code 1 (some .int) 1 := cys_Teller_mostHigh (qm_good (List.mem_of_getElem? (i := 565) (by decide +kernel)) rfl)
theorem cv_Teller_145 : qm_CV qr_Teller 145 jy_Teller_readWords prog_8_method_12_code 6 none 2 := cy_Teller_readWords (qm_good (List.mem_of_getElem? (i := 568) (by decide +kernel)) rfl)
theorem cv_Teller_148 : qm_CV qr_Teller 148 jy_Teller_readMark prog_8_method_13_code 6 none 2 := cy_Teller_readMark (qm_good (List.mem_of_getElem? (i := 572) (by decide +kernel)) rfl)
theorem cv_Teller_151 : qm_CV qr_Teller 151 jy_Run_cell prog_6_method_9_code 3 (some .int) 2 := cy_Run_cell (qm_good (List.mem_of_getElem? (i := 576) (by decide +kernel)) rfl)
theorem cv_Teller_154 : qm_CV qr_Teller 154 jy_Run_noteAt prog_6_method_17_code 5 (some .int) 2 := cy_Run_noteAt (qm_good (List.mem_of_getElem? (i := 577) (by decide +kernel)) rfl)
theorem cv_Teller_157 : qm_CV qr_Teller 157 jy_Run_addMark prog_6_method_18_code 5 none 3 := cy_Run_addMark (qm_good (List.mem_of_getElem? (i := 581) (by decide +kernel)) rfl)
theorem kc_Teller_88 : Cond.constant qr_Teller 88 100000 ∈ qm_tb := qm_good (List.mem_of_getElem? (i := 495) (by decide +kernel)) rfl
theorem kf_Fitter_0 {a : Nat} (h : (qm_kd a).1 = 10) : (qm_kd (qm_rf a 0)).1 = 14 := qm_kfl (t := 10) (by decide) (by decide +kernel) a h
theorem kf_Fitter_1 {a : Nat} (h : (qm_kd a).1 = 10) : (qm_kd (qm_rf a 1)).1 = 11 := qm_kfl (t := 10) (by decide) (by decide +kernel) a h
theorem kf_Fitter_4 {a : Nat} (h : (qm_kd a).1 = 10) : (qm_kd (qm_rf a 4)).1 = 4 := qm_kfl (t := 10) (by decide) (by decide +kernel) a h
theorem kf_Fitter_8 {a : Nat} (h : (qm_kd a).1 = 10) : (qm_kd (qm_rf a 8)).1 = 1 := qm_kfl (t := 10) (by decide) (by decide +kernel) a h
theorem kf_Flow_10 {a : Nat} (h : (qm_kd a).1 = 11) : (qm_kd (qm_rf a 10)).1 = 1 := qm_kfl (t := 11) (by decide) (by decide +kernel) a h
theorem kf_Flow_11 {a : Nat} (h : (qm_kd a).1 = 11) : (qm_kd (qm_rf a 11)).1 = 1 := qm_kfl (t := 11) (by decide) (by decide +kernel) a h
theorem kf_Flow_12 {a : Nat} (h : (qm_kd a).1 = 11) : (qm_kd (qm_rf a 12)).1 = 1 := qm_kfl (t := 11) (by decide) (by decide +kernel) a h
theorem kf_Flow_13 {a : Nat} (h : (qm_kd a).1 = 11) : (qm_kd (qm_rf a 13)).1 = 1 := qm_kfl (t := 11) (by decide) (by decide +kernel) a h
theorem kf_Flow_14 {a : Nat} (h : (qm_kd a).1 = 11) : (qm_kd (qm_rf a 14)).1 = 1 := qm_kfl (t := 11) (by decide) (by decide +kernel) a h
theorem kf_Flow_15 {a : Nat} (h : (qm_kd a).1 = 11) : (qm_kd (qm_rf a 15)).1 = 2 := qm_kfl (t := 11) (by decide) (by decide +kernel) a h
theorem kf_Flow_16 {a : Nat} (h : (qm_kd a).1 = 11) : (qm_kd (qm_rf a 16)).1 = 1 := qm_kfl (t := 11) (by decide) (by decide +kernel) a h
theorem kf_Flow_17 {a : Nat} (h : (qm_kd a).1 = 11) : (qm_kd (qm_rf a 17)).1 = 1 := qm_kfl (t := 11) (by decide) (by decide +kernel) a h
theorem kf_Flow_18 {a : Nat} (h : (qm_kd a).1 = 11) : (qm_kd (qm_rf a 18)).1 = 1 := qm_kfl (t := 11) (by decide) (by decide +kernel) a h
theorem kf_Flow_19 {a : Nat} (h : (qm_kd a).1 = 11) : (qm_kd (qm_rf a 19)).1 = 1 := qm_kfl (t := 11) (by decide) (by decide +kernel) a h
theorem kf_Flow_3 {a : Nat} (h : (qm_kd a).1 = 11) : (qm_kd (qm_rf a 3)).1 = 14 := qm_kfl (t := 11) (by decide) (by decide +kernel) a h
theorem kf_Flow_4 {a : Nat} (h : (qm_kd a).1 = 11) : (qm_kd (qm_rf a 4)).1 = 1 := qm_kfl (t := 11) (by decide) (by decide +kernel) a h
theorem kf_Flow_5 {a : Nat} (h : (qm_kd a).1 = 11) : (qm_kd (qm_rf a 5)).1 = 1 := qm_kfl (t := 11) (by decide) (by decide +kernel) a h
theorem kf_Flow_6 {a : Nat} (h : (qm_kd a).1 = 11) : (qm_kd (qm_rf a 6)).1 = 1 := qm_kfl (t := 11) (by decide) (by decide +kernel) a h
theorem kf_Flow_7 {a : Nat} (h : (qm_kd a).1 = 11) : (qm_kd (qm_rf a 7)).1 = 1 := qm_kfl (t := 11) (by decide) (by decide +kernel) a h
theorem kf_Flow_8 {a : Nat} (h : (qm_kd a).1 = 11) : (qm_kd (qm_rf a 8)).1 = 1 := qm_kfl (t := 11) (by decide) (by decide +kernel) a h
theorem kf_Flow_9 {a : Nat} (h : (qm_kd a).1 = 11) : (qm_kd (qm_rf a 9)).1 = 1 := qm_kfl (t := 11) (by decide) (by decide +kernel) a h
theorem kf_Past_0 {a : Nat} (h : (qm_kd a).1 = 12) : (qm_kd (qm_rf a 0)).1 = 5 := qm_kfl (t := 12) (by decide) (by decide +kernel) a h
theorem kf_Press_0 {a : Nat} (h : (qm_kd a).1 = 13) : (qm_kd (qm_rf a 0)).1 = 14 := qm_kfl (t := 13) (by decide) (by decide +kernel) a h
theorem kf_Press_1 {a : Nat} (h : (qm_kd a).1 = 13) : (qm_kd (qm_rf a 1)).1 = 11 := qm_kfl (t := 13) (by decide) (by decide +kernel) a h
theorem kf_Press_11 {a : Nat} (h : (qm_kd a).1 = 13) : (qm_kd (qm_rf a 11)).1 = 1 := qm_kfl (t := 13) (by decide) (by decide +kernel) a h
theorem kf_Press_12 {a : Nat} (h : (qm_kd a).1 = 13) : (qm_kd (qm_rf a 12)).1 = 1 := qm_kfl (t := 13) (by decide) (by decide +kernel) a h
theorem kf_Press_2 {a : Nat} (h : (qm_kd a).1 = 13) : (qm_kd (qm_rf a 2)).1 = 10 := qm_kfl (t := 13) (by decide) (by decide +kernel) a h
theorem kf_Press_3 {a : Nat} (h : (qm_kd a).1 = 13) : (qm_kd (qm_rf a 3)).1 = 4 := qm_kfl (t := 13) (by decide) (by decide +kernel) a h
theorem kf_Run_1 {a : Nat} (h : (qm_kd a).1 = 14) : (qm_kd (qm_rf a 1)).1 = 1 := qm_kfl (t := 14) (by decide) (by decide +kernel) a h
theorem kf_Run_2 {a : Nat} (h : (qm_kd a).1 = 14) : (qm_kd (qm_rf a 2)).1 = 1 := qm_kfl (t := 14) (by decide) (by decide +kernel) a h
theorem kf_Tape_0 {a : Nat} (h : (qm_kd a).1 = 15) : (qm_kd (qm_rf a 0)).1 = 1 := qm_kfl (t := 15) (by decide) (by decide +kernel) a h
theorem kf_Teller_0 {a : Nat} (h : (qm_kd a).1 = 16) : (qm_kd (qm_rf a 0)).1 = 15 := qm_kfl (t := 16) (by decide) (by decide +kernel) a h
theorem kf_Teller_1 {a : Nat} (h : (qm_kd a).1 = 16) : (qm_kd (qm_rf a 1)).1 = 14 := qm_kfl (t := 16) (by decide) (by decide +kernel) a h
theorem kf_Teller_2 {a : Nat} (h : (qm_kd a).1 = 16) : (qm_kd (qm_rf a 2)).1 = 1 := qm_kfl (t := 16) (by decide) (by decide +kernel) a h
theorem kf_Teller_3 {a : Nat} (h : (qm_kd a).1 = 16) : (qm_kd (qm_rf a 3)).1 = 1 := qm_kfl (t := 16) (by decide) (by decide +kernel) a h
theorem kf_Teller_4 {a : Nat} (h : (qm_kd a).1 = 16) : (qm_kd (qm_rf a 4)).1 = 1 := qm_kfl (t := 16) (by decide) (by decide +kernel) a h
theorem kf_Top_0 {a : Nat} (h : (qm_kd a).1 = 18) : (qm_kd (qm_rf a 0)).1 = 14 := qm_kfl (t := 18) (by decide) (by decide +kernel) a h
theorem kf_Top_1 {a : Nat} (h : (qm_kd a).1 = 18) : (qm_kd (qm_rf a 1)).1 = 15 := qm_kfl (t := 18) (by decide) (by decide +kernel) a h
theorem kf_Top_3 {a : Nat} (h : (qm_kd a).1 = 18) : (qm_kd (qm_rf a 3)).1 = 12 := qm_kfl (t := 18) (by decide) (by decide +kernel) a h
theorem kf_Top_4 {a : Nat} (h : (qm_kd a).1 = 18) : (qm_kd (qm_rf a 4)).1 = 5 := qm_kfl (t := 18) (by decide) (by decide +kernel) a h
theorem kf_Top_6 {a : Nat} (h : (qm_kd a).1 = 18) : (qm_kd (qm_rf a 6)).1 = 13 := qm_kfl (t := 18) (by decide) (by decide +kernel) a h
end
section
def jf_Math_max (x y : Int32) : qm_M Int32 := mP (if x < y then y else x)
def jf_Math_min (x y : Int32) : qm_M Int32 := mP (if y < x then y else x)
section
variable {X : qm_X} {own : String} {cc : ByteArray} {nL f lo : Nat} {il : List qm_I}
variable {α : Type} {pc pc' : Nat} {ρ : List (Option Value)} {st : List Value} {κ : α → qm_Mem → Prop}
theorem qb_mmax {g : Int32 → qm_M α} (hX : qm_ok X own cc nL f lo il) (k : Nat) {idx : Nat} {x y : Int32} (hd : qm_nth il k = some (pc, .invokestatic idx, 3, pc')) (hc : qm_CS own idx jy_Math_max prog_18_method_65_code 2 (some .int) 2) (hr : 1 ≤ f ∧ 21 ≤ lo) (h8 : (st.map fun v => v.category).sum ≤ 8) (h : ∀ r, qm_B X (g r) pc' ρ (.int r :: st) κ) : qm_B X (mB (jf_Math_max x y) g) pc ρ (.int y :: .int x :: st) κ := by
  cases qk_n hX hd
  obtain ⟨h1, h2, h4, h5, h6⟩ := hc
  have ht := qk_ts hX
  obtain ⟨r1, r2, r3, r4⟩ := qk_R hX
  intro σ z σ' e1 e2 H locs ls hH hS hL
  have e3 : g (if x < y then y else x) σ = some (z, σ') := e1
  exact va_mmax (qk_ex hX) (qk_by hX) hL.1.symm hX.1.2.2.2.1 (ht _ h1) (ht _ h2) (ht _ h4) (ht _ h5) (by rw [r1]; exact hr.1) (by rw [r2]; omega) r3 r4 (qk_d hX hd) (h _ σ z σ' e3 e2 H locs ls hH hS hL)
theorem qb_mmin {g : Int32 → qm_M α} (hX : qm_ok X own cc nL f lo il) (k : Nat) {idx : Nat} {x y : Int32} (hd : qm_nth il k = some (pc, .invokestatic idx, 3, pc')) (hc : qm_CS own idx jy_Math_min prog_18_method_69_code 2 (some .int) 2) (hr : 1 ≤ f ∧ 21 ≤ lo) (h8 : (st.map fun v => v.category).sum ≤ 8) (h : ∀ r, qm_B X (g r) pc' ρ (.int r :: st) κ) : qm_B X (mB (jf_Math_min x y) g) pc ρ (.int y :: .int x :: st) κ := by
  cases qk_n hX hd
  obtain ⟨h1, h2, h4, h5, h6⟩ := hc
  have ht := qk_ts hX
  obtain ⟨r1, r2, r3, r4⟩ := qk_R hX
  intro σ z σ' e1 e2 H locs ls hH hS hL
  have e3 : g (if y < x then y else x) σ = some (z, σ') := e1
  exact va_mmin (qk_ex hX) (qk_by hX) hL.1.symm hX.1.2.2.2.1 (ht _ h1) (ht _ h2) (ht _ h4) (ht _ h5) (by rw [r1]; exact hr.1) (by rw [r2]; omega) r3 r4 (qk_d hX hd) (h _ σ z σ' e3 e2 H locs ls hH hS hL)
end
end
section
def jy_Precond_checkIndex : MethodName := ⟨"jdk/internal/util/Preconditions", "checkIndex", "(IILjava/util/function/BiFunction;)I"⟩
def jy_Latin1_charAt : MethodName := ⟨"java/lang/StringLatin1", "charAt", "([BI)C"⟩
def jl_String_coder : List qm_I := [(0, .getstatic 38, 3, 3), (3, .ifCond .eq 10, 3, 6), (6, .aload_n 0, 1, 7), (7, .getfield 15, 3, 10), (10, .goto 4, 3, 13), (13, .iconst 1, 1, 14), (14, .ireturn, 1, 15)]
theorem jd_String_coder : qm_D prog_19_method_152_code jl_String_coder := qm_D_of (by decide +kernel)
def jl_String_isLatin1 : List qm_I := [(0, .getstatic 38, 3, 3), (3, .ifCond .eq 14, 3, 6), (6, .aload_n 0, 1, 7), (7, .getfield 15, 3, 10), (10, .ifCond .ne 7, 3, 13), (13, .iconst 1, 1, 14), (14, .goto 4, 3, 17), (17, .iconst 0, 1, 18), (18, .ireturn, 1, 19)]
theorem jd_String_isLatin1 : qm_D prog_19_method_154_code jl_String_isLatin1 := qm_D_of (by decide +kernel)
def jl_Precond_checkIndex : List qm_I := [(0, .iload_n 0, 1, 1), (1, .ifCond .lt 8, 3, 4), (4, .iload_n 0, 1, 5), (5, .iload_n 1, 1, 6), (6, .if_icmp .lt 10, 3, 9), (9, .aload_n 2, 1, 10), (10, .iload_n 0, 1, 11), (11, .iload_n 1, 1, 12), (12, .invokestatic 95, 3, 15), (15, .athrow, 1, 16), (16, .iload_n 0, 1, 17), (17, .ireturn, 1, 18)]
theorem jd_Precond_checkIndex : qm_D prog_26_method_11_code jl_Precond_checkIndex := qm_D_of (by decide +kernel)
def jl_String_checkIndex : List qm_I := [(0, .iload_n 0, 1, 1), (1, .iload_n 1, 1, 2), (2, .getstatic 1053, 3, 5), (5, .invokestatic 1059, 3, 8), (8, .pop, 1, 9), (9, .return_, 1, 10)]
theorem jd_String_checkIndex : qm_D prog_19_method_155_code jl_String_checkIndex := qm_D_of (by decide +kernel)
def jl_Latin1_charAt : List qm_I := [(0, .iload_n 1, 1, 1), (1, .aload_n 0, 1, 2), (2, .arraylength, 1, 3), (3, .invokestatic 9, 3, 6), (6, .aload_n 0, 1, 7), (7, .iload_n 1, 1, 8), (8, .baload, 1, 9), (9, .sipush 255, 3, 12), (12, .iand, 1, 13), (13, .i2c, 1, 14), (14, .ireturn, 1, 15)]
theorem jd_Latin1_charAt : qm_D prog_21_method_2_code jl_Latin1_charAt := qm_D_of (by decide +kernel)
def jl_String_length : List qm_I := [(0, .aload_n 0, 1, 1), (1, .getfield 9, 3, 4), (4, .arraylength, 1, 5), (5, .aload_n 0, 1, 6), (6, .invokevirtual 335, 3, 9), (9, .ishr, 1, 10), (10, .ireturn, 1, 11)]
theorem jd_String_length : qm_D prog_19_method_54_code jl_String_length := qm_D_of (by decide +kernel)
def jl_String_charAt : List qm_I := [(0, .aload_n 0, 1, 1), (1, .invokevirtual 492, 3, 4), (4, .ifCond .eq 12, 3, 7), (7, .aload_n 0, 1, 8), (8, .getfield 9, 3, 11), (11, .iload_n 1, 1, 12), (12, .invokestatic 495, 3, 15), (15, .ireturn, 1, 16), (16, .aload_n 0, 1, 17), (17, .getfield 9, 3, 20), (20, .iload_n 1, 1, 21), (21, .invokestatic 498, 3, 24), (24, .ireturn, 1, 25)]
theorem jd_String_charAt : qm_D prog_19_method_56_code jl_String_charAt := qm_D_of (by decide +kernel)
theorem sl_9 : Cond.fieldLink "java/lang/String" 9 "java/lang/String" "value" "[B" ∈ qm_tb := qm_good (List.mem_of_getElem? (i := 1137) (by decide +kernel)) rfl
theorem sl_15 : Cond.fieldLink "java/lang/String" 15 "java/lang/String" "coder" "B" ∈ qm_tb := qm_good (List.mem_of_getElem? (i := 1138) (by decide +kernel)) rfl
theorem sl_38 : Cond.fieldLink "java/lang/String" 38 "java/lang/String" "COMPACT_STRINGS" "Z" ∈ qm_tb := qm_good (List.mem_of_getElem? (i := 447) (by decide +kernel)) rfl
theorem sl_1053 : Cond.fieldLink "java/lang/String" 1053 "jdk/internal/util/Preconditions" "SIOOBE_FORMATTER" "Ljava/util/function/BiFunction;" ∈ qm_tb := qm_good (List.mem_of_getElem? (i := 463) (by decide +kernel)) rfl
theorem cy_String_length {own : String} {idx : Nat} (h : Cond.methodLink own idx jy_String_length ∈ qm_tb) : qm_CV own idx jy_String_length prog_19_method_54_code 1 (some .int) 0 := ⟨h, qm_good (List.mem_of_getElem? (i := 440) (by decide +kernel)) rfl, qm_good (List.mem_of_getElem? (i := 441) (by decide +kernel)) rfl, qm_good (List.mem_of_getElem? (i := 52) (by decide +kernel)) rfl, qm_good (List.mem_of_getElem? (i := 442) (by decide +kernel)) rfl, ⟨by decide +kernel, by decide +kernel, by decide +kernel⟩⟩
theorem cv_Teller_96 : qm_CV qr_Teller 96 jy_String_length prog_19_method_54_code 1 (some .int) 0 := cy_String_length (qm_good (List.mem_of_getElem? (i := 439) (by decide +kernel)) rfl)
theorem cy_String_coder {own : String} {idx : Nat} (h : Cond.methodLink own idx jy_String_coder ∈ qm_tb) : qm_CV own idx jy_String_coder prog_19_method_152_code 1 (some .byte) 0 := ⟨h, qm_good (List.mem_of_getElem? (i := 444) (by decide +kernel)) rfl, qm_good (List.mem_of_getElem? (i := 445) (by decide +kernel)) rfl, qm_good (List.mem_of_getElem? (i := 52) (by decide +kernel)) rfl, qm_good (List.mem_of_getElem? (i := 446) (by decide +kernel)) rfl, ⟨by decide +kernel, by decide +kernel, by decide +kernel⟩⟩
theorem cv_String_335 : qm_CV "java/lang/String" 335 jy_String_coder prog_19_method_152_code 1 (some .byte) 0 := cy_String_coder (qm_good (List.mem_of_getElem? (i := 443) (by decide +kernel)) rfl)
theorem cy_String_charAt {own : String} {idx : Nat} (h : Cond.methodLink own idx jy_String_charAt ∈ qm_tb) : qm_CV own idx jy_String_charAt prog_19_method_56_code 2 (some .char) 1 := ⟨h, qm_good (List.mem_of_getElem? (i := 450) (by decide +kernel)) rfl, qm_good (List.mem_of_getElem? (i := 451) (by decide +kernel)) rfl, qm_good (List.mem_of_getElem? (i := 52) (by decide +kernel)) rfl, qm_good (List.mem_of_getElem? (i := 452) (by decide +kernel)) rfl, ⟨by decide +kernel, by decide +kernel, by decide +kernel⟩⟩
theorem cv_Teller_100 : qm_CV qr_Teller 100 jy_String_charAt prog_19_method_56_code 2 (some .char) 1 := cy_String_charAt (qm_good (List.mem_of_getElem? (i := 449) (by decide +kernel)) rfl)
theorem cy_String_isLatin1 {own : String} {idx : Nat} (h : Cond.methodLink own idx jy_String_isLatin1 ∈ qm_tb) : qm_CV own idx jy_String_isLatin1 prog_19_method_154_code 1 (some .boolean) 0 := ⟨h, qm_good (List.mem_of_getElem? (i := 454) (by decide +kernel)) rfl, qm_good (List.mem_of_getElem? (i := 455) (by decide +kernel)) rfl, qm_good (List.mem_of_getElem? (i := 52) (by decide +kernel)) rfl, qm_good (List.mem_of_getElem? (i := 456) (by decide +kernel)) rfl, ⟨by decide +kernel, by decide +kernel, by decide +kernel⟩⟩
theorem cv_String_492 : qm_CV "java/lang/String" 492 jy_String_isLatin1 prog_19_method_154_code 1 (some .boolean) 0 := cy_String_isLatin1 (qm_good (List.mem_of_getElem? (i := 453) (by decide +kernel)) rfl)
theorem cys_Latin1_charAt {own : String} {idx : Nat} (h : Cond.methodLink own idx jy_Latin1_charAt ∈ qm_tb) : qm_CS own idx jy_Latin1_charAt prog_21_method_2_code 2 (some .char) 2 := ⟨h, qm_good (List.mem_of_getElem? (i := 458) (by decide +kernel)) rfl, qm_good (List.mem_of_getElem? (i := 57) (by decide +kernel)) rfl, qm_good (List.mem_of_getElem? (i := 459) (by decide +kernel)) rfl, ⟨by decide +kernel, by decide +kernel, by decide +kernel⟩⟩
theorem cv_String_495 : qm_CS "java/lang/String" 495 jy_Latin1_charAt prog_21_method_2_code 2 (some .char) 2 := cys_Latin1_charAt (qm_good (List.mem_of_getElem? (i := 457) (by decide +kernel)) rfl)
theorem cys_String_checkIndex {own : String} {idx : Nat} (h : Cond.methodLink own idx jy_String_checkIndex ∈ qm_tb) : qm_CS own idx jy_String_checkIndex prog_19_method_155_code 2 none 2 := ⟨h, qm_good (List.mem_of_getElem? (i := 461) (by decide +kernel)) rfl, qm_good (List.mem_of_getElem? (i := 52) (by decide +kernel)) rfl, qm_good (List.mem_of_getElem? (i := 462) (by decide +kernel)) rfl, ⟨by decide +kernel, by decide +kernel, by decide +kernel⟩⟩
theorem cv_Latin1_9 : qm_CS "java/lang/StringLatin1" 9 jy_String_checkIndex prog_19_method_155_code 2 none 2 := cys_String_checkIndex (qm_good (List.mem_of_getElem? (i := 460) (by decide +kernel)) rfl)
theorem cys_Precond_checkIndex {own : String} {idx : Nat} (h : Cond.methodLink own idx jy_Precond_checkIndex ∈ qm_tb) : qm_CS own idx jy_Precond_checkIndex prog_26_method_11_code 3 (some .int) 3 := ⟨h, qm_good (List.mem_of_getElem? (i := 466) (by decide +kernel)) rfl, qm_good (List.mem_of_getElem? (i := 56) (by decide +kernel)) rfl, qm_good (List.mem_of_getElem? (i := 467) (by decide +kernel)) rfl, ⟨by decide +kernel, by decide +kernel, by decide +kernel⟩⟩
theorem cv_String_1059 : qm_CS "java/lang/String" 1059 jy_Precond_checkIndex prog_26_method_11_code 3 (some .int) 3 := cys_Precond_checkIndex (qm_good (List.mem_of_getElem? (i := 465) (by decide +kernel)) rfl)
theorem ks_Teller_94 : (qr_Teller, 94, " columns height orphans widows follow note rule room lines solid head table span tied whole space mark ", 408) ∈ qs_all := by decide +kernel
section
variable {X : qm_X} {own : String} {cc : ByteArray} {nL f lo : Nat} {il : List qm_I}
variable {α : Type} {pc pc' : Nat} {ρ : List (Option Value)} {st : List Value} {κ : α → qm_Mem → Prop} {m : qm_M α}
theorem qb_F : qm_B X (mF : qm_M α) pc ρ st κ := fun σ a σ' h => by cases h
theorem qb_nret (hX : qm_ok X own cc nL f lo il) (k : Nat) {x r0 : Int32} {σ0 : qm_Mem} {a : α} {ty : FieldType} (hd : qm_nth il k = some (pc, .ireturn, 1, pc')) (hR : qm_RI X r0 σ0 ty) (hn : narrow ty (.int x) = .int x) (h : ∀ σ, κ a σ → x = r0 ∧ σ = σ0) : qm_B X (mP a) pc ρ [.int x] κ := by
  intro σ b σ' h1 h2
  cases h1
  exact qj_ret hX hd hR hn (h _ h2)
theorem qb_i2c (hX : qm_ok X own cc nL f lo il) (k : Nat) {x : Int32} (hd : qm_nth il k = some (pc, .i2c, 1, pc')) (h : qm_B X m pc' ρ (.int (x.toUInt32 % 65536).toInt32 :: st) κ) : qm_B X m pc ρ (.int x :: st) κ := by
  cases qk_n hX hd
  exact qb_0 (fun H locs ls hL hh => lv_i2c (qk_ex hX) (qk_by hX) (qk_d hX hd) rfl (hh ls hL)) h
theorem qb_sof (hX : qm_ok X own cc nL f lo il) (k : Nat) {idx q : Nat} {n d : String} {v : Value} (hd : qm_nth il k = some (pc, .getfield idx, 3, pc')) (hw : Cond.fieldLink own idx "java/lang/String" n d ∈ qm_tb) (hE : va_OF "java/lang/String" n d v q (qx_A X) (qx_s X) (qx_s X).heap) (h : qm_B X m pc' ρ (v :: st) κ) : qm_B X m pc ρ (.ref q :: st) κ := by
  cases qk_n hX hd
  intro σ r σ' h1 h2 H locs ls hH hS hL
  exact vk_getf (qk_ex hX) (qk_by hX) hE hS (qk_ow hX) (qk_ts hX _ hw) (fun x h => h) (qk_d hX hd) (h σ r σ' h1 h2 H locs ls hH hS hL)
theorem qb_sst (hX : qm_ok X own cc nL f lo il) (k : Nat) {idx : Nat} {C n d : String} {v : Value} (hd : qm_nth il k = some (pc, .getstatic idx, 3, pc')) (hw : Cond.fieldLink own idx C n d ∈ qm_tb) (hZ : va_Z C n d v (qx_A X) (qx_s X) (qx_s X).heap) (h : qm_B X m pc' ρ (v :: st) κ) : qm_B X m pc ρ st κ := by
  cases qk_n hX hd
  intro σ r σ' h1 h2 H locs ls hH hS hL
  exact va_gets (qk_ex hX) (qk_by hX) hZ hS (qk_ow hX) (qk_ts hX _ hw) (fun x h => h) (qk_d hX hd) (h σ r σ' h1 h2 H locs ls hH hS hL)
theorem qb_slen (hX : qm_ok X own cc nL f lo il) (k : Nat) {t N : Nat} {g : Nat → Value} (hd : qm_nth il k = some (pc, .arraylength, 1, pc')) (hT : va_T .byte t N g (qx_A X) (qx_s X) (qx_s X).heap) (h : qm_B X m pc' ρ (.int (Int32.ofNat N) :: st) κ) : qm_B X m pc ρ (.ref t :: st) κ := by
  cases qk_n hX hd
  intro σ r σ' h1 h2 H locs ls hH hS hL
  exact va_tlen (qk_ex hX) (qk_by hX) hT hS rfl (qk_d hX hd) (h σ r σ' h1 h2 H locs ls hH hS hL)
theorem qb_sbl (hX : qm_ok X own cc nL f lo il) (k : Nat) {t N : Nat} {g : Nat → Value} {i : Int32} (hd : qm_nth il k = some (pc, .baload, 1, pc')) (hT : va_T .byte t N g (qx_A X) (qx_s X) (qx_s X).heap) (hi : vp_in i N) (h : qm_B X m pc' ρ (g i.toNatClampNeg :: st) κ) : qm_B X m pc ρ (.int i :: .ref t :: st) κ := by
  cases qk_n hX hd
  intro σ r σ' h1 h2 H locs ls hH hS hL
  exact va_tb (qk_ex hX) (qk_by hX) hT hS hi rfl (qk_d hX hd) (h σ r σ' h1 h2 H locs ls hH hS hL)
theorem qs_six {a : Nat} (h : (qm_kd a).1 = 6) : ∃ i, i < 1 ∧ a = 408 + i := by
  have h1 : ∀ a, a < 500 → (qm_kd a).1 = 6 → 408 ≤ a ∧ a < 409 := by decide +kernel
  have h2 := h1 a (qm_near (by decide) h) h
  exact ⟨a - 408, by omega, by omega⟩
theorem qb_scal {m : qm_M Int32} {g : Int32 → qm_M α} (hX : qm_ok X own cc nL f lo il) (k : Nat) {idx nL' n f' lo' a : Nat} {y : MethodName} {b : ByteArray} {ret : Option FieldType} {As st0 : List Value} (hd : qm_nth il k = some (pc, .invokevirtual idx, 3, pc')) (hc : qm_CV own idx y b nL' ret n) (hM : qm_MI (qx_l X) (qx_G X) y b nL' ret f' lo' (.ref (qx_ad X a) :: As) m) (ha : (qm_kd a).1 = 6) (hr : y.cls = "java/lang/String" ∧ As.length = n ∧ f' + 1 ≤ f ∧ 8 + (nL' + 11) + lo' ≤ lo) (hst : st0 = As.reverse ++ .ref (qx_ad X a) :: st) (h8 : (st.map fun v => v.category).sum ≤ 8) (h : ∀ x, qm_B X (g x) pc' ρ (.int x :: st) κ) : qm_B X (mB m g) pc ρ st0 κ := by
  cases qk_n hX hd
  intro σ z σ' h1 h2 H locs ls hH hS hL
  obtain ⟨x, σ1, e1, e2⟩ := mB_some h1
  obtain ⟨i, hi, e⟩ := qs_six ha
  have hrec := vk_recv (qk_Z hX).2.1 hi hS
  rw [← hr.1] at hrec
  have hrec' : ∃ cell : Cell, H[qx_ad X a]? = some cell ∧ cell.vm.isStatics = false ∧ (qx_s X).vm.findClass y.cls = some cell.cls := by
    rw [e]
    exact hrec
  exact va_calli (va_runV (As := As) (rest := st) hX.1 (hM σ x σ1 e1 H.size) (qk_cw hX hc ⟨hr.2.2.1, hr.2.2.2⟩) ⟨qm_Pc_blind, hrec', qk_pre hX hH hS (.ref (qx_ad X a) :: As)⟩ rfl hr.2.1 (hL.1.trans (qk_ml hX)) hst (qk_room h8) (qk_d hX hd) (qk_cells hX)) hS (fun q _ hq => qk_sub hX hS.1 q hq) (qk_sub hX hS.1) (fun r' u t H1 locs1 ht hvm hp hB hz hk hS1 => by
    have hp : r' = x := hp
    subst hp
    subst ht
    exact h r' σ1 z σ' e2 h2 t.heap locs1 ls hB hS1 hL)
theorem qb_calSR {m : qm_M Nat} {g : Nat → qm_M α} (hX : qm_ok X own cc nL f lo il) (k : Nat) {idx nL' n f' lo' tt : Nat} {y : MethodName} {b : ByteArray} {ret : Option FieldType} {As st0 : List Value} (hd : qm_nth il k = some (pc, .invokestatic idx, 3, pc')) (hc : qm_CS own idx y b nL' ret n) (hM : qm_MR (qx_l X) (qx_G X) y b nL' ret f' lo' As m) (hr : As.length = n ∧ f' + 1 ≤ f ∧ 8 + (nL' + 11) + lo' ≤ lo) (hst : st0 = As.reverse ++ st) (h8 : (st.map fun v => v.category).sum ≤ 8) (h : ∀ x, (qm_kd x).1 = tt → qm_B X (g x) pc' ρ (.ref (qx_ad X x) :: st) κ) : qm_B X (mB (mK tt m) g) pc ρ st0 κ := by
  cases qk_n hX hd
  intro σ z σ' h1 h2 H locs ls hH hS hL
  obtain ⟨x, σ1, e1, e2⟩ := mB_some h1
  unfold mK at e1
  split at e1
  · cases e1
  · rename_i q hq
    split at e1
    · rename_i ht9
      cases e1
      exact va_callr (va_runS (As := As) (rest := st) hX.1 (hM σ x σ1 hq H.size) (qk_cs hX hc ⟨hr.2.1, hr.2.2⟩) ⟨qm_Pc_blind, qk_pre hX hH hS As⟩ rfl hr.1 (hL.1.trans (qk_ml hX)) hst (qk_room h8) (qk_d hX hd) (qk_cells hX)) hS (fun q _ hq => qk_sub hX hS.1 q hq) (qk_sub hX hS.1) (fun u ra t H1 locs1 ht hvm hp hB hz hk hS1 => by
        obtain ⟨hra, hB⟩ := hB
        subst hra
        subst ht
        exact h x ht9 σ1 z σ' e2 h2 t.heap locs1 ls hB hS1 hL)
    · cases e1
/-- ldc_w of a text -/
theorem qv_ldcwS {p : Program} {l : Launch} {e : Env} {R : Room} {s : State} {md : MethodId} {args : Array Value} {below : List Frame} {meth : Method} {c : Code} {H : Heap} {locs : List Loc} {cells slots : Nat} {Q : State → Prop} {cc : ByteArray} {pc : Nat} {ls : Array Slot} {rest : List Value} (hexec : p.tables.exec = Jvm.exec) (hb : c.code = cc) {own tx : String} {index q : Nat} (hown : s.vm.findClass own = some md.cls) (hZ : vk_R own index tx q s) (hdg : decode cc pc = .ok (.ldc_w index, 3))
    (kk : W p l e R s md args below meth c H locs cells slots Q (F0 md (pc + 3) ls (.ref q :: rest))) : W p l e R s md args below meth c H locs cells slots Q (F0 md pc ls rest) := by
  intro T hT X
  obtain ⟨t, a1, b1⟩ := kk T hT X
  refine ⟨t, ?_, b1⟩
  obtain ⟨k, cf, i, a', hk, hcf, hcp, -, hr, hev'⟩ := Cond.stringRef_spec hown hZ.1
  cases hZ.2.symm.trans hev'
  obtain ⟨k', hk', he⟩ := X.warmed.alike.2.2 _ _ hk
  have hr' : k'.resolved[index]? = some (some (.string q)) := by
    rcases X.warmed.entry hk hk' index with h | ⟨h, -⟩
    · rw [h]; exact hr
    · rw [hr] at h; cases h
  jvm_step X.here [hexec, hb, hdg, Op.ldc_w.wp_string (e := e) (s := T) (f := F0 md pc ls rest) X.here.top hk' (by rw [he]; exact hcf) hcp hr']
  exact a1
theorem qb_ldcS (hX : qm_ok X own cc nL f lo il) (k : Nat) (q : Nat) {idx : Nat} {tx : String} (hd : qm_nth il k = some (pc, .ldc idx, 2, pc')) (hk : (own, idx, tx, q) ∈ qs_all) (h : qm_B X m pc' ρ (.ref (qx_ad X q) :: st) κ) : qm_B X m pc ρ st κ := by
  cases qk_n hX hd
  intro σ r σ' h1 h2 H locs ls hH hS hL
  exact va_ldcS (qk_ex hX) (qk_by hX) (qk_ow hX) ((qk_Z hX).2.2.1 _ hk) (qk_d hX hd) (h σ r σ' h1 h2 H locs ls hH hS hL)
theorem qb_ldcwS (hX : qm_ok X own cc nL f lo il) (k : Nat) (q : Nat) {idx : Nat} {tx : String} (hd : qm_nth il k = some (pc, .ldc_w idx, 3, pc')) (hk : (own, idx, tx, q) ∈ qs_all) (h : qm_B X m pc' ρ (.ref (qx_ad X q) :: st) κ) : qm_B X m pc ρ st κ := by
  cases qk_n hX hd
  intro σ r σ' h1 h2 H locs ls hH hS hL
  exact qv_ldcwS (qk_ex hX) (qk_by hX) (qk_ow hX) ((qk_Z hX).2.2.1 _ hk) (qk_d hX hd) (h σ r σ' h1 h2 H locs ls hH hS hL)
end
def qs_inb (i : Int32) (n : Nat) : Bool := !(decide (i < 0) || decide (n ≤ i.toNatClampNeg))
theorem qs_inb_iff {i : Int32} {n : Nat} : qs_inb i n = true ↔ vp_in i n := by
  unfold qs_inb vp_in
  rw [Bool.not_eq_true', Bool.or_eq_false_iff, decide_eq_false_iff_not, decide_eq_false_iff_not, not_or]
theorem qs_is {i : Nat} (h : i < 1) : (qm_kd (408 + i)).1 = 6 := (by decide +kernel : ∀ i, i < 1 → (qm_kd (408 + i)).1 = 6) i h
def qs_ln (a : Nat) : Nat := qs_len.getD (a - 408) 0
def qs_ch (a j : Nat) : Int32 := (qs_byt.getD (a - 408) []).getD j 0
def qs_cv (a : Nat) (k : Int32) : Int32 := ((qs_ch a k.toNatClampNeg &&& 255).toUInt32 % 65536).toInt32
theorem qs_nar : ∀ i, i < 1 → ∀ j, j < qs_len.getD i 0 → narrow .char (.int (((qs_byt.getD i []).getD j 0 &&& 255).toUInt32 % 65536).toInt32) = .int (((qs_byt.getD i []).getD j 0 &&& 255).toUInt32 % 65536).toInt32 ∧ (((qs_byt.getD i []).getD j 0 &&& 255).toUInt32 % 65536).toInt32 = (qs_byt.getD i []).getD j 0 := by decide +kernel
noncomputable def mCh (y : Int32) : qm_M Int32 := fun σ => @ite _ (narrow .char (.int y) = .int y) (Classical.propDecidable _) (some (y, σ)) none
def jf_String_coder (_ : Nat) : qm_M Int32 := if (1 : Int32) = 0 then mF else mP 0
def jf_String_isLatin1 (_ : Nat) : qm_M Int32 := if (1 : Int32) = 0 then mF else if ¬ (0 : Int32) = 0 then mF else mP 1
def jf_Precond_checkIndex (i n : Int32) : qm_M Int32 := if i < 0 then mF else if i < n then mP i else mF
def jf_String_checkIndex (i n : Int32) : qm_M Unit := mB (jf_Precond_checkIndex i n) fun _ => mP ()
def jf_Latin1_charAt (a : Nat) (k : Int32) : qm_M Int32 := mB (jf_String_checkIndex k (Int32.ofNat (qs_ln a))) fun _ => if qs_inb k (qs_ln a) = true then mP (qs_cv a k) else mF
def jf_String_length (a : Nat) : qm_M Int32 := mB (jf_String_coder a) fun x => mP (Int32.ofNat (qs_ln a) >>> (x &&& 31))
noncomputable def jf_String_charAt (a : Nat) (k : Int32) : qm_M Int32 := mB (jf_String_isLatin1 a) fun x => if x = 0 then mF else mB (jf_Latin1_charAt a k) fun y => mB (mCh y) fun z => mP z
theorem jb_String_coder {X : qm_X} (hX : qm_ok X "java/lang/String" prog_19_method_152_code 1 0 0 jl_String_coder) {r0 : Int32} {σ0 : qm_Mem} (hR : qm_RI X r0 σ0 .byte) (i : Nat) (hi : i < 1) : qm_B X (jf_String_coder (408 + i)) 0 [some (.ref (qx_ad X (408 + i)))] [] (fun r σ1 => r = r0 ∧ σ1 = σ0) := by
  unfold jf_String_coder
  have hS := (qk_Z hX).2
  refine qb_sst hX 0 rfl sl_38 hS.2.2.1 ?_
  refine qb_ifeq hX 1 13 rfl (by decide) qb_F ?_
  refine qb_aload_n hX 2 rfl rfl ?_
  refine qb_sof hX 3 rfl sl_15 (hS.1.1 i hi).2.1 ?_
  refine qb_goto hX 4 (tgt := 14) rfl (by decide) ?_
  exact qb_nret hX 6 rfl hR rfl (fun _ h => h)
theorem jm_String_coder {l : Launch} {G : qm_G} (hG : qm_GI G) (a : Nat) (ha : (qm_kd a).1 = 6) : qm_MI l G jy_String_coder prog_19_method_152_code 1 (some .byte) 0 0 [.ref (G.1 a)] (jf_String_coder a) := by
  obtain ⟨i, hi, rfl⟩ := qs_six ha
  exact qm_metI (by decide +kernel) jd_String_coder (fun v hv => by simp only [List.mem_cons, List.not_mem_nil, or_false] at hv; rcases hv with rfl <;> rfl) (by exact Nat.le_of_ble_eq_true rfl) hG rfl (fun X hl hg hX r0 σ0 hR => by subst hl; subst hg; exact jb_String_coder hX hR i hi)
theorem jb_String_isLatin1 {X : qm_X} (hX : qm_ok X "java/lang/String" prog_19_method_154_code 1 0 0 jl_String_isLatin1) {r0 : Int32} {σ0 : qm_Mem} (hR : qm_RI X r0 σ0 .boolean) (i : Nat) (hi : i < 1) : qm_B X (jf_String_isLatin1 (408 + i)) 0 [some (.ref (qx_ad X (408 + i)))] [] (fun r σ1 => r = r0 ∧ σ1 = σ0) := by
  unfold jf_String_isLatin1
  have hS := (qk_Z hX).2
  refine qb_sst hX 0 rfl sl_38 hS.2.2.1 ?_
  refine qb_ifeq hX 1 17 rfl (by decide) qb_F ?_
  refine qb_aload_n hX 2 rfl rfl ?_
  refine qb_sof hX 3 rfl sl_15 (hS.1.1 i hi).2.1 ?_
  refine qb_ifne hX 4 17 rfl (by decide) qb_F ?_
  refine qb_iconst hX 5 1 rfl (by decide) ?_
  refine qb_goto hX 6 (tgt := 18) rfl (by decide) ?_
  exact qb_nret hX 8 rfl hR rfl (fun _ h => h)
theorem jm_String_isLatin1 {l : Launch} {G : qm_G} (hG : qm_GI G) (a : Nat) (ha : (qm_kd a).1 = 6) : qm_MI l G jy_String_isLatin1 prog_19_method_154_code 1 (some .boolean) 0 0 [.ref (G.1 a)] (jf_String_isLatin1 a) := by
  obtain ⟨i, hi, rfl⟩ := qs_six ha
  exact qm_metI (by decide +kernel) jd_String_isLatin1 (fun v hv => by simp only [List.mem_cons, List.not_mem_nil, or_false] at hv; rcases hv with rfl <;> rfl) (by exact Nat.le_of_ble_eq_true rfl) hG rfl (fun X hl hg hX r0 σ0 hR => by subst hl; subst hg; exact jb_String_isLatin1 hX hR i hi)
theorem jb_Precond_checkIndex {X : qm_X} (hX : qm_ok X "jdk/internal/util/Preconditions" prog_26_method_11_code 3 0 0 jl_Precond_checkIndex) {r0 : Int32} {σ0 : qm_Mem} (hR : qm_RI X r0 σ0 .int) (i n : Int32) (v : Value) : qm_B X (jf_Precond_checkIndex i n) 0 [some (.int i), some (.int n), some v] [] (fun r σ1 => r = r0 ∧ σ1 = σ0) := by
  unfold jf_Precond_checkIndex
  refine qb_iload_n hX 0 rfl rfl ?_
  refine qb_iflt hX 1 9 rfl (by decide) qb_F ?_
  refine qb_iload_n hX 2 rfl rfl ?_
  refine qb_iload_n hX 3 rfl rfl ?_
  refine qb_iclt hX 4 16 rfl (by decide) ?_ qb_F
  refine qb_iload_n hX 10 rfl rfl ?_
  exact qb_iret hX 11 rfl hR (fun _ h => h)
theorem jm_Precond_checkIndex {l : Launch} {G : qm_G} (hG : qm_GI G) (i n : Int32) (v : Value) (hv : v.category = 1) : qm_MI l G jy_Precond_checkIndex prog_26_method_11_code 3 (some .int) 0 0 [.int i, .int n, v] (jf_Precond_checkIndex i n) :=
  qm_metI (by decide +kernel) jd_Precond_checkIndex (fun w hw => by simp only [List.mem_cons, List.not_mem_nil, or_false] at hw; rcases hw with rfl | rfl | rfl; rfl; rfl; exact hv) (by exact Nat.le_of_ble_eq_true rfl) hG rfl (fun X hl hg hX r0 σ0 hR => by subst hl; subst hg; exact jb_Precond_checkIndex hX hR i n v)
theorem jb_String_checkIndex {X : qm_X} (hX : qm_ok X "java/lang/String" prog_19_method_155_code 2 1 22 jl_String_checkIndex) {σ0 : qm_Mem} (hR : qm_RV X σ0) (i n : Int32) : qm_B X (jf_String_checkIndex i n) 0 [some (.int i), some (.int n)] [] (fun _ σ1 => σ1 = σ0) := by
  unfold jf_String_checkIndex
  have main : ∀ v : Value, v.category = 1 → va_Z "jdk/internal/util/Preconditions" "SIOOBE_FORMATTER" "Ljava/util/function/BiFunction;" v (qx_A X) (qx_s X) (qx_s X).heap → qm_B X (mB (jf_Precond_checkIndex i n) fun _ => mP ()) 0 [some (.int i), some (.int n)] [] (fun _ σ1 => σ1 = σ0) := by
    intro v hv hz
    refine qb_iload_n hX 0 rfl rfl ?_
    refine qb_iload_n hX 1 rfl rfl ?_
    refine qb_sst hX 2 rfl sl_1053 hz ?_
    refine qb_calSI hX 3 rfl cv_String_1059 (jm_Precond_checkIndex (qk_GI hX) i n v hv) ⟨rfl, by decide, by decide⟩ rfl (by exact Nat.le_of_ble_eq_true rfl) (fun x => ?_)
    refine qb_pop hX 4 rfl rfl ?_
    exact qb_vret hX 5 rfl hR (fun _ h => h)
  rcases (qk_Z hX).2.2.2.2.1 with h | ⟨t, h⟩
  · exact main .null rfl h
  · exact main (.ref t) rfl h
theorem jm_String_checkIndex {l : Launch} {G : qm_G} (hG : qm_GI G) (i n : Int32) : qm_MV l G jy_String_checkIndex prog_19_method_155_code 2 1 22 [.int i, .int n] (jf_String_checkIndex i n) :=
  qm_metV (by decide +kernel) jd_String_checkIndex (fun w hw => by simp only [List.mem_cons, List.not_mem_nil, or_false] at hw; rcases hw with rfl | rfl <;> rfl) (by exact Nat.le_of_ble_eq_true rfl) hG (fun X hl hg hX σ0 hR => by subst hl; subst hg; exact jb_String_checkIndex hX hR i n)
theorem jb_Latin1_charAt {X : qm_X} (hX : qm_ok X "java/lang/StringLatin1" prog_21_method_2_code 2 2 43 jl_Latin1_charAt) {r0 : Int32} {σ0 : qm_Mem} (hR : qm_RI X r0 σ0 .char) (i : Nat) (hi : i < 1) (k : Int32) : qm_B X (jf_Latin1_charAt (408 + i) k) 0 [some (.ref (qx_ad X (426 + i))), some (.int k)] [] (fun r σ1 => r = r0 ∧ σ1 = σ0) := by
  unfold jf_Latin1_charAt
  have hT := ((qk_Z hX).2.1.1 i hi).2.2.2
  have el : qs_ln (408 + i) = qs_len.getD i 0 := by unfold qs_ln; rw [show 408 + i - 408 = i by omega]
  refine qb_iload_n hX 0 rfl rfl ?_
  refine qb_aload_n hX 1 rfl rfl ?_
  refine qb_slen hX 2 rfl hT ?_
  rw [← el]
  refine qb_calSV hX 3 rfl cv_Latin1_9 (jm_String_checkIndex (qk_GI hX) k _) ⟨rfl, by decide, by decide⟩ rfl (by exact Nat.le_of_ble_eq_true rfl) ?_
  refine qb_ite (fun c => ?_) (fun c => ?_)
  · have hk : vp_in k (qs_len.getD i 0) := by rw [← el]; exact qs_inb_iff.mp c
    refine qb_aload_n hX 4 rfl rfl ?_
    refine qb_iload_n hX 5 rfl rfl ?_
    refine qb_sbl hX 6 rfl hT hk ?_
    refine qb_sipush hX 7 255 rfl (by decide) ?_
    refine qb_iand hX 8 rfl ?_
    refine qb_i2c hX 9 rfl ?_
    have hn := (qs_nar i hi k.toNatClampNeg (Nat.not_le.mp (fun q => hk (Or.inr q)))).1
    have ec : qs_cv (408 + i) k = (((qs_byt.getD i []).getD k.toNatClampNeg 0 &&& 255).toUInt32 % 65536).toInt32 := by unfold qs_cv qs_ch; rw [show 408 + i - 408 = i by omega]
    rw [ec]
    exact qb_nret hX 10 rfl hR hn (fun _ h => h)
  · exact qb_F
theorem jm_Latin1_charAt {l : Launch} {G : qm_G} (hG : qm_GI G) (i : Nat) (hi : i < 1) (k : Int32) : qm_MI l G jy_Latin1_charAt prog_21_method_2_code 2 (some .char) 2 43 [.ref (G.1 (426 + i)), .int k] (jf_Latin1_charAt (408 + i) k) :=
  qm_metI (by decide +kernel) jd_Latin1_charAt (fun v hv => by simp only [List.mem_cons, List.not_mem_nil, or_false] at hv; rcases hv with rfl | rfl <;> rfl) (by exact Nat.le_of_ble_eq_true rfl) hG rfl (fun X hl hg hX r0 σ0 hR => by subst hl; subst hg; exact jb_Latin1_charAt hX hR i hi k)
theorem jb_String_length {X : qm_X} (hX : qm_ok X "java/lang/String" prog_19_method_54_code 1 1 20 jl_String_length) {r0 : Int32} {σ0 : qm_Mem} (hR : qm_RI X r0 σ0 .int) (i : Nat) (hi : i < 1) : qm_B X (jf_String_length (408 + i)) 0 [some (.ref (qx_ad X (408 + i)))] [] (fun r σ1 => r = r0 ∧ σ1 = σ0) := by
  unfold jf_String_length
  have hS := (qk_Z hX).2
  have el : qs_ln (408 + i) = qs_len.getD i 0 := by unfold qs_ln; rw [show 408 + i - 408 = i by omega]
  refine qb_aload_n hX 0 rfl rfl ?_
  refine qb_sof hX 1 rfl sl_9 (hS.1.1 i hi).2.2.1 ?_
  refine qb_slen hX 2 rfl (hS.1.1 i hi).2.2.2 ?_
  rw [← el]
  refine qb_aload_n hX 3 rfl rfl ?_
  refine qb_scal hX 4 rfl cv_String_335 (jm_String_coder (qk_GI hX) (408 + i) (qs_is hi)) (qs_is hi) ⟨rfl, rfl, by decide, by decide⟩ rfl (by exact Nat.le_of_ble_eq_true rfl) (fun x => ?_)
  refine qb_ishr hX 5 rfl ?_
  exact qb_iret hX 6 rfl hR (fun _ h => h)
theorem jm_String_length {l : Launch} {G : qm_G} (hG : qm_GI G) (a : Nat) (ha : (qm_kd a).1 = 6) : qm_MI l G jy_String_length prog_19_method_54_code 1 (some .int) 1 20 [.ref (G.1 a)] (jf_String_length a) := by
  obtain ⟨i, hi, rfl⟩ := qs_six ha
  exact qm_metI (by decide +kernel) jd_String_length (fun v hv => by simp only [List.mem_cons, List.not_mem_nil, or_false] at hv; rcases hv with rfl <;> rfl) (by exact Nat.le_of_ble_eq_true rfl) hG rfl (fun X hl hg hX r0 σ0 hR => by subst hl; subst hg; exact jb_String_length hX hR i hi)
theorem jb_String_charAt {X : qm_X} (hX : qm_ok X "java/lang/String" prog_19_method_56_code 2 4 85 jl_String_charAt) {r0 : Int32} {σ0 : qm_Mem} (hR : qm_RI X r0 σ0 .char) (i : Nat) (hi : i < 1) (k : Int32) : qm_B X (jf_String_charAt (408 + i) k) 0 [some (.ref (qx_ad X (408 + i))), some (.int k)] [] (fun r σ1 => r = r0 ∧ σ1 = σ0) := by
  unfold jf_String_charAt
  have hS := (qk_Z hX).2
  refine qb_aload_n hX 0 rfl rfl ?_
  refine qb_scal hX 1 rfl cv_String_492 (jm_String_isLatin1 (qk_GI hX) (408 + i) (qs_is hi)) (qs_is hi) ⟨rfl, rfl, by decide, by decide⟩ rfl (by exact Nat.le_of_ble_eq_true rfl) (fun x => ?_)
  refine qb_ifeq hX 2 16 rfl (by decide) qb_F ?_
  refine qb_aload_n hX 3 rfl rfl ?_
  refine qb_sof hX 4 rfl sl_9 (hS.1.1 i hi).2.2.1 ?_
  refine qb_iload_n hX 5 rfl rfl ?_
  refine qb_calSI hX 6 rfl cv_String_495 (jm_Latin1_charAt (qk_GI hX) i hi k) ⟨rfl, by decide, by decide⟩ rfl (by exact Nat.le_of_ble_eq_true rfl) (fun y => ?_)
  intro σ b σ' h1 h2
  obtain ⟨z, σ1, e1, e2⟩ := mB_some h1
  unfold mCh at e1
  split at e1
  · rename_i hn
    cases e1
    cases e2
    exact qj_ret hX (k := 7) rfl hR hn h2
  · cases e1
theorem jm_String_charAt {l : Launch} {G : qm_G} (hG : qm_GI G) (a : Nat) (k : Int32) (ha : (qm_kd a).1 = 6) : qm_MI l G jy_String_charAt prog_19_method_56_code 2 (some .char) 4 85 [.ref (G.1 a), .int k] (jf_String_charAt a k) := by
  obtain ⟨i, hi, rfl⟩ := qs_six ha
  exact qm_metI (by decide +kernel) jd_String_charAt (fun v hv => by simp only [List.mem_cons, List.not_mem_nil, or_false] at hv; rcases hv with rfl | rfl <;> rfl) (by exact Nat.le_of_ble_eq_true rfl) hG rfl (fun X hl hg hX r0 σ0 hR => by subst hl; subst hg; exact jb_String_charAt hX hR i hi k)
end
section
theorem fl_Top_28 : qm_FL qr_Top 28 8 2 := ⟨_, _, _, jc_8, by decide, qm_good (List.mem_of_getElem? (i := 383) (by decide +kernel)) rfl⟩
theorem fl_Top_76 : qm_FL qr_Top 76 6 1 := ⟨_, _, _, jc_6, by decide, qm_good (List.mem_of_getElem? (i := 119) (by decide +kernel)) rfl⟩
theorem cy_Run_clear {own : String} {idx : Nat} (h : Cond.methodLink own idx jy_Run_clear ∈ qm_tb) : qm_CV own idx jy_Run_clear prog_6_method_3_code 2 none 0 := ⟨h, qm_good (List.mem_of_getElem? (i := 74) (by decide +kernel)) rfl, qm_good (List.mem_of_getElem? (i := 75) (by decide +kernel)) rfl, qm_good (List.mem_of_getElem? (i := 38) (by decide +kernel)) rfl, qm_good (List.mem_of_getElem? (i := 76) (by decide +kernel)) rfl, ⟨by decide +kernel, by decide +kernel, by decide +kernel⟩⟩
theorem cy_Teller_isWord {own : String} {idx : Nat} (h : Cond.methodLink own idx jy_Teller_isWord ∈ qm_tb) : qm_CV own idx jy_Teller_isWord prog_8_method_7_code 6 (some .boolean) 3 := ⟨h, qm_good (List.mem_of_getElem? (i := 489) (by decide +kernel)) rfl, qm_good (List.mem_of_getElem? (i := 2) (by decide +kernel)) rfl, qm_good (List.mem_of_getElem? (i := 40) (by decide +kernel)) rfl, qm_good (List.mem_of_getElem? (i := 490) (by decide +kernel)) rfl, ⟨by decide +kernel, by decide +kernel, by decide +kernel⟩⟩
theorem cy_Teller_numberOf {own : String} {idx : Nat} (h : Cond.methodLink own idx jy_Teller_numberOf ∈ qm_tb) : qm_CV own idx jy_Teller_numberOf prog_8_method_5_code 5 (some .int) 2 := ⟨h, qm_good (List.mem_of_getElem? (i := 493) (by decide +kernel)) rfl, qm_good (List.mem_of_getElem? (i := 3) (by decide +kernel)) rfl, qm_good (List.mem_of_getElem? (i := 40) (by decide +kernel)) rfl, qm_good (List.mem_of_getElem? (i := 494) (by decide +kernel)) rfl, ⟨by decide +kernel, by decide +kernel, by decide +kernel⟩⟩
theorem cy_Teller_read {own : String} {idx : Nat} (h : Cond.methodLink own idx jy_Teller_read ∈ qm_tb) : qm_CV own idx jy_Teller_read prog_8_method_2_code 3 (some .int) 0 := ⟨h, qm_good (List.mem_of_getElem? (i := 420) (by decide +kernel)) rfl, qm_good (List.mem_of_getElem? (i := 421) (by decide +kernel)) rfl, qm_good (List.mem_of_getElem? (i := 40) (by decide +kernel)) rfl, qm_good (List.mem_of_getElem? (i := 422) (by decide +kernel)) rfl, ⟨by decide +kernel, by decide +kernel, by decide +kernel⟩⟩
theorem cy_Teller_readPart {own : String} {idx : Nat} (h : Cond.methodLink own idx jy_Teller_readPart ∈ qm_tb) : qm_CV own idx jy_Teller_readPart prog_8_method_8_code 3 none 0 := ⟨h, qm_good (List.mem_of_getElem? (i := 505) (by decide +kernel)) rfl, qm_good (List.mem_of_getElem? (i := 5) (by decide +kernel)) rfl, qm_good (List.mem_of_getElem? (i := 40) (by decide +kernel)) rfl, qm_good (List.mem_of_getElem? (i := 506) (by decide +kernel)) rfl, ⟨by decide +kernel, by decide +kernel, by decide +kernel⟩⟩
theorem cys_Teller_signOf {own : String} {idx : Nat} (h : Cond.methodLink own idx jy_Teller_signOf ∈ qm_tb) : qm_CS own idx jy_Teller_signOf prog_8_method_4_code 1 (some .int) 1 := ⟨h, qm_good (List.mem_of_getElem? (i := 432) (by decide +kernel)) rfl, qm_good (List.mem_of_getElem? (i := 40) (by decide +kernel)) rfl, qm_good (List.mem_of_getElem? (i := 433) (by decide +kernel)) rfl, ⟨by decide +kernel, by decide +kernel, by decide +kernel⟩⟩
theorem cy_Teller_split {own : String} {idx : Nat} (h : Cond.methodLink own idx jy_Teller_split ∈ qm_tb) : qm_CV own idx jy_Teller_split prog_8_method_3_code 5 none 0 := ⟨h, qm_good (List.mem_of_getElem? (i := 426) (by decide +kernel)) rfl, qm_good (List.mem_of_getElem? (i := 0) (by decide +kernel)) rfl, qm_good (List.mem_of_getElem? (i := 40) (by decide +kernel)) rfl, qm_good (List.mem_of_getElem? (i := 427) (by decide +kernel)) rfl, ⟨by decide +kernel, by decide +kernel, by decide +kernel⟩⟩
theorem cy_Teller_wordOf {own : String} {idx : Nat} (h : Cond.methodLink own idx jy_Teller_wordOf ∈ qm_tb) : qm_CV own idx jy_Teller_wordOf prog_8_method_6_code 5 (some .int) 2 := ⟨h, qm_good (List.mem_of_getElem? (i := 436) (by decide +kernel)) rfl, qm_good (List.mem_of_getElem? (i := 1) (by decide +kernel)) rfl, qm_good (List.mem_of_getElem? (i := 40) (by decide +kernel)) rfl, qm_good (List.mem_of_getElem? (i := 437) (by decide +kernel)) rfl, ⟨by decide +kernel, by decide +kernel, by decide +kernel⟩⟩
theorem cv_Top_72 : qm_CV qr_Top 72 jy_Teller_read prog_8_method_2_code 3 (some .int) 0 := cy_Teller_read (qm_good (List.mem_of_getElem? (i := 419) (by decide +kernel)) rfl)
theorem cv_Teller_32 : qm_CV qr_Teller 32 jy_Run_clear prog_6_method_3_code 2 none 0 := cy_Run_clear (qm_good (List.mem_of_getElem? (i := 423) (by decide +kernel)) rfl)
theorem cv_Teller_35 : qm_CV qr_Teller 35 jy_Teller_split prog_8_method_3_code 5 none 0 := cy_Teller_split (qm_good (List.mem_of_getElem? (i := 424) (by decide +kernel)) rfl)
theorem cv_Teller_52 : qm_CV qr_Teller 52 jy_Teller_readPart prog_8_method_8_code 3 none 0 := cy_Teller_readPart (qm_good (List.mem_of_getElem? (i := 503) (by decide +kernel)) rfl)
theorem cv_Teller_77 : qm_CS qr_Teller 77 jy_Teller_signOf prog_8_method_4_code 1 (some .int) 1 := cys_Teller_signOf (qm_good (List.mem_of_getElem? (i := 431) (by decide +kernel)) rfl)
theorem cv_Teller_81 : qm_CV qr_Teller 81 jy_Teller_wordOf prog_8_method_6_code 5 (some .int) 2 := cy_Teller_wordOf (qm_good (List.mem_of_getElem? (i := 434) (by decide +kernel)) rfl)
theorem cv_Teller_85 : qm_CV qr_Teller 85 jy_Teller_numberOf prog_8_method_5_code 5 (some .int) 2 := cy_Teller_numberOf (qm_good (List.mem_of_getElem? (i := 491) (by decide +kernel)) rfl)
theorem cv_Teller_104 : qm_CV qr_Teller 104 jy_Teller_isWord prog_8_method_7_code 6 (some .boolean) 3 := cy_Teller_isWord (qm_good (List.mem_of_getElem? (i := 487) (by decide +kernel)) rfl)
theorem kf_Top_2 {a : Nat} (h : (qm_kd a).1 = 18) : (qm_kd (qm_rf a 2)).1 = 16 := qm_kfl (t := 18) (by decide) (by decide +kernel) a h
end
section
def jl_Run_setting : List qm_I := [(0, .iload_n 1, 1, 1), (1, .ifCond .lt 18, 3, 4), (4, .iload_n 1, 1, 5), (5, .bipush 8, 2, 7), (7, .if_icmp .ge 12, 3, 10), (10, .aload_n 0, 1, 11), (11, .getfield 11, 3, 14), (14, .iload_n 1, 1, 15), (15, .iaload, 1, 16), (16, .goto 4, 3, 19), (19, .iconst 0, 1, 20), (20, .ireturn, 1, 21)]
theorem jd_Run_setting : qm_D prog_6_method_5_code jl_Run_setting := qm_D_of (by decide +kernel)
noncomputable def jf_Run_setting (this : Nat) (p1 : Int32) : qm_M Int32 :=
  if p1 < 0 then
    mP 0
  else
    if 8 ≤ p1 then
      mP 0
    else
      mB (mLd (qm_rf this 1) p1) fun x1 =>
      mP x1
set_option maxRecDepth 20000 in
set_option maxHeartbeats 4000000 in
theorem jb_Run_setting {X : qm_X} (hX : qm_ok X qr_Run prog_6_method_5_code 2 0 0 jl_Run_setting) {r0 : Int32} {σ0 : qm_Mem} (hR : qm_RI X r0 σ0 .int) (this : Nat) (p1 : Int32) (hthis : (qm_kd this).1 = 14) : qm_B X (jf_Run_setting this p1) 0 [some (.ref (qx_ad X this)), some (.int p1)] [] (fun r σ1 => r = r0 ∧ σ1 = σ0) := by
  unfold jf_Run_setting
  refine qb_iload_n hX 0 rfl rfl ?_
  refine qb_iflt hX 1 19 rfl (by decide) ?_ ?_
  ·
    refine qb_iconst hX 10 0 rfl (by decide) ?_
    exact qb_iret hX 11 rfl hR (fun _ h => h)
  ·
    refine qb_iload_n hX 2 rfl rfl ?_
    refine qb_bipush hX 3 8 rfl (by decide) ?_
    refine qb_icge hX 4 19 rfl (by decide) ?_ ?_
    ·
      refine qb_iconst hX 10 0 rfl (by decide) ?_
      exact qb_iret hX 11 rfl hR (fun _ h => h)
    ·
      refine qb_aload_n hX 5 rfl rfl ?_
      refine qb_getR hX 6 rfl fl_Run_11 hthis rfl ?_
      refine qb_iload_n hX 7 rfl rfl ?_
      refine qb_iald hX 8 rfl (kf_Run_1 hthis) (fun x1 => ?_)
      refine qb_goto hX 9 (tgt := 20) rfl (by decide) ?_
      exact qb_iret hX 11 rfl hR (fun _ h => h)
theorem jm_Run_setting {l : Launch} {G : qm_G} (hG : qm_GI G) (this : Nat) (p1 : Int32) (hthis : (qm_kd this).1 = 14) : qm_MI l G jy_Run_setting prog_6_method_5_code 2 (some .int) 0 0 [.ref (G.1 this), .int p1] (jf_Run_setting this p1) :=
  qm_metI (by decide +kernel) jd_Run_setting (fun v hv => by simp only [List.mem_cons, List.not_mem_nil, or_false] at hv; rcases hv with rfl | rfl <;> rfl) (by exact Nat.le_of_ble_eq_true rfl) hG rfl (fun X hl hg hX r0 σ0 hR => by subst hl; subst hg; exact jb_Run_setting hX hR this p1 hthis)
def jl_Fitter_forget : List qm_I := [(0, .aload_n 0, 1, 1), (1, .aload_n 0, 1, 2), (2, .getfield 9, 3, 5), (5, .bipush 6, 2, 7), (7, .invokevirtual 35, 3, 10), (10, .putfield 41, 3, 13), (13, .aload_n 0, 1, 14), (14, .aload_n 0, 1, 15), (15, .getfield 9, 3, 18), (18, .iconst 5, 1, 19), (19, .invokevirtual 35, 3, 22), (22, .putfield 45, 3, 25), (25, .aload_n 0, 1, 26), (26, .iconst (-1), 1, 27), (27, .putfield 48, 3, 30), (30, .aload_n 0, 1, 31), (31, .getfield 28, 3, 34), (34, .ifCond .eq 32, 3, 37), (37, .iconst 0, 1, 38), (38, .istore_n 1, 1, 39), (39, .iload_n 1, 1, 40), (40, .aload_n 0, 1, 41), (41, .getfield 24, 3, 44), (44, .arraylength, 1, 45), (45, .if_icmp .ge 16, 3, 48), (48, .aload_n 0, 1, 49), (49, .getfield 24, 3, 52), (52, .iload_n 1, 1, 53), (53, .iconst (-1), 1, 54), (54, .iastore, 1, 55), (55, .iinc 1 1, 3, 58), (58, .goto (-19), 3, 61), (61, .aload_n 0, 1, 62), (62, .iconst 0, 1, 63), (63, .putfield 28, 3, 66), (66, .return_, 1, 67)]
theorem jd_Fitter_forget : qm_D prog_2_method_2_code jl_Fitter_forget := qm_D_of (by decide +kernel)
noncomputable def jf_Fitter_forget (this : Nat) : qm_M Unit :=
  mB (jf_Run_setting (qm_rf this 0) 6) fun x1 =>
  mB (mPt this 2 x1) fun _ =>
  mB (jf_Run_setting (qm_rf this 0) 5) fun x2 =>
  mB (mPt this 3 x2) fun _ =>
  mB (mPt this 5 (-1)) fun _ =>
  mB (mGt this 9) fun x3 =>
  if x3 = 0 then
    mP ()
  else
    mB (α := Unit) (
      mW (S := Int32) (α := Unit) (fun s5 =>
        if (Int32.ofNat (qm_kd (qm_rf this 8)).2) ≤ s5 then
          mP (Sum.inr ())
        else
          mB (mSt (qm_rf this 8) s5 (-1)) fun _ =>
          mB (mP (s5 + 1)) fun x6 =>
          mP (Sum.inl x6)) 0) fun s4 =>
    mB (mPz this 9 0) fun _ =>
    mP ()
set_option maxRecDepth 20000 in
set_option maxHeartbeats 4000000 in
theorem jb_Fitter_forget {X : qm_X} (hX : qm_ok X qr_Fitter prog_2_method_2_code 2 1 21 jl_Fitter_forget) {σ0 : qm_Mem} (hR : qm_RV X σ0) (this : Nat) (hthis : (qm_kd this).1 = 10) : qm_B X (jf_Fitter_forget this) 0 [some (.ref (qx_ad X this)), none] [] (fun _ σ1 => σ1 = σ0) := by
  unfold jf_Fitter_forget
  refine qb_aload_n hX 0 rfl rfl ?_
  refine qb_aload_n hX 1 rfl rfl ?_
  refine qb_getR hX 2 rfl fl_Fitter_9 hthis rfl ?_
  refine qb_bipush hX 3 6 rfl (by decide) ?_
  refine qb_callI hX 4 rfl cv_Fitter_35 (jm_Run_setting (qk_GI hX) (qm_rf this 0) 6 (kf_Fitter_0 hthis) ) (ci := 4) (kf_Fitter_0 hthis) ⟨rfl, rfl, rfl, by decide, by decide⟩ rfl (by exact Nat.le_of_ble_eq_true rfl) (fun x1 => ?_)
  refine qb_put hX 5 rfl fp_Fitter_41 hthis ?_
  refine qb_aload_n hX 6 rfl rfl ?_
  refine qb_aload_n hX 7 rfl rfl ?_
  refine qb_getR hX 8 rfl fl_Fitter_9 hthis rfl ?_
  refine qb_iconst hX 9 5 rfl (by decide) ?_
  refine qb_callI hX 10 rfl cv_Fitter_35 (jm_Run_setting (qk_GI hX) (qm_rf this 0) 5 (kf_Fitter_0 hthis) ) (ci := 4) (kf_Fitter_0 hthis) ⟨rfl, rfl, rfl, by decide, by decide⟩ rfl (by exact Nat.le_of_ble_eq_true rfl) (fun x2 => ?_)
  refine qb_put hX 11 rfl fp_Fitter_45 hthis ?_
  refine qb_aload_n hX 12 rfl rfl ?_
  refine qb_iconst hX 13 (-1) rfl (by decide) ?_
  refine qb_put hX 14 rfl fp_Fitter_48 hthis ?_
  refine qb_aload_n hX 15 rfl rfl ?_
  refine qb_get hX 16 rfl fl_Fitter_28 hthis rfl (fun x3 => ?_)
  refine qb_ifeq hX 17 66 rfl (by decide) ?_ ?_
  ·
    exact qb_vret hX 35 rfl hR (fun _ h => h)
  ·
    refine qb_iconst hX 18 0 rfl (by decide) ?_
    refine qb_istore_n hX 19 ([some (.ref (qx_ad X this)), some (.int 0)]) rfl (by decide) rfl ?_
    refine qb_join 61 (fun s4 => [some (.ref (qx_ad X this)), none]) (fun s4 => []) ?_ ?_
    ·
      refine qb_loopw (0) (fun s5 => [some (.ref (qx_ad X this)), some (.int s5)]) (qw_s (qw_s (qw_0))) (fun s5 => ?_)
      refine qb_iload_n hX 20 rfl rfl ?_
      refine qb_aload_n hX 21 rfl rfl ?_
      refine qb_getR hX 22 rfl fl_Fitter_24 hthis rfl ?_
      refine qb_alen hX 23 (Int32.ofNat (qm_kd (qm_rf this 8)).2) rfl (Or.inl (kf_Fitter_8 hthis)) rfl ?_
      refine qb_icge hX 24 61 rfl (by decide) ?_ ?_
      ·
        exact qb_exit (fun σ h => qj_wk (ρ' := [some (.ref (qx_ad X this)), none]) (qw_s (qw_n (qw_0))) h)
      ·
        refine qb_aload_n hX 25 rfl rfl ?_
        refine qb_getR hX 26 rfl fl_Fitter_24 hthis rfl ?_
        refine qb_iload_n hX 27 rfl rfl ?_
        refine qb_iconst hX 28 (-1) rfl (by decide) ?_
        refine qb_iast hX 29 rfl (kf_Fitter_8 hthis) ?_
        refine qb_iinc hX 30 1 (fun x6 => [some (.ref (qx_ad X this)), some (.int x6)]) rfl (by decide) (by decide) rfl (fun _ => rfl) (fun x6 => ?_)
        exact qb_exit (fun σ h => qj_goto hX 31 rfl (by decide) (qj_wk (ρ' := [some (.ref (qx_ad X this)), some (.int x6)]) (qw_s (qw_s (qw_0))) h))
    · intro s4
      refine qb_aload_n hX 32 rfl rfl ?_
      refine qb_iconst hX 33 0 rfl (by decide) ?_
      refine qb_putZ hX 34 rfl fp_Fitter_28 hthis ?_
      exact qb_vret hX 35 rfl hR (fun _ h => h)
theorem jm_Fitter_forget {l : Launch} {G : qm_G} (hG : qm_GI G) (this : Nat) (hthis : (qm_kd this).1 = 10) : qm_MV l G jy_Fitter_forget prog_2_method_2_code 2 1 21 [.ref (G.1 this)] (jf_Fitter_forget this) :=
  qm_metV (by decide +kernel) jd_Fitter_forget (fun v hv => by simp only [List.mem_cons, List.not_mem_nil, or_false] at hv; rcases hv with rfl <;> rfl) (by exact Nat.le_of_ble_eq_true rfl) hG (fun X hl hg hX σ0 hR => by subst hl; subst hg; exact jb_Fitter_forget hX hR this hthis)
def jl_Flow_text : List qm_I := [(0, .iload_n 1, 1, 1), (1, .ifCond .lt 14, 3, 4), (4, .iload_n 1, 1, 5), (5, .iload_n 2, 1, 6), (6, .if_icmp .ge 9, 3, 9), (9, .iload_n 2, 1, 10), (10, .bipush 91, 2, 12), (12, .if_icmp .lt 5, 3, 15), (15, .iconst 0, 1, 16), (16, .ireturn, 1, 17), (17, .aload_n 0, 1, 18), (18, .getfield 40, 3, 21), (21, .iload_n 2, 1, 22), (22, .iaload, 1, 23), (23, .aload_n 0, 1, 24), (24, .getfield 40, 3, 27), (27, .iload_n 1, 1, 28), (28, .iaload, 1, 29), (29, .isub, 1, 30), (30, .aload_n 0, 1, 31), (31, .getfield 28, 3, 34), (34, .iload_n 1, 1, 35), (35, .iaload, 1, 36), (36, .isub, 1, 37), (37, .aload_n 0, 1, 38), (38, .getfield 37, 3, 41), (41, .iload_n 1, 1, 42), (42, .iaload, 1, 43), (43, .iadd, 1, 44), (44, .ireturn, 1, 45)]
theorem jd_Flow_text : qm_D prog_3_method_14_code jl_Flow_text := qm_D_of (by decide +kernel)
noncomputable def jf_Flow_text (this : Nat) (p1 : Int32) (p2 : Int32) : qm_M Int32 :=
  if p1 < 0 then
    mP 0
  else
    if p2 ≤ p1 then
      mP 0
    else
      if p2 < 91 then
        mB (mLd (qm_rf this 12) p2) fun x1 =>
        mB (mLd (qm_rf this 12) p1) fun x2 =>
        mB (mLd (qm_rf this 8) p1) fun x3 =>
        mB (mLd (qm_rf this 11) p1) fun x4 =>
        mP (((x1 - x2) - x3) + x4)
      else
        mP 0
set_option maxRecDepth 20000 in
set_option maxHeartbeats 4000000 in
theorem jb_Flow_text {X : qm_X} (hX : qm_ok X qr_Flow prog_3_method_14_code 3 0 0 jl_Flow_text) {r0 : Int32} {σ0 : qm_Mem} (hR : qm_RI X r0 σ0 .int) (this : Nat) (p1 : Int32) (p2 : Int32) (hthis : (qm_kd this).1 = 11) : qm_B X (jf_Flow_text this p1 p2) 0 [some (.ref (qx_ad X this)), some (.int p1), some (.int p2)] [] (fun r σ1 => r = r0 ∧ σ1 = σ0) := by
  unfold jf_Flow_text
  refine qb_iload_n hX 0 rfl rfl ?_
  refine qb_iflt hX 1 15 rfl (by decide) ?_ ?_
  ·
    refine qb_iconst hX 8 0 rfl (by decide) ?_
    exact qb_iret hX 9 rfl hR (fun _ h => h)
  ·
    refine qb_iload_n hX 2 rfl rfl ?_
    refine qb_iload_n hX 3 rfl rfl ?_
    refine qb_icge hX 4 15 rfl (by decide) ?_ ?_
    ·
      refine qb_iconst hX 8 0 rfl (by decide) ?_
      exact qb_iret hX 9 rfl hR (fun _ h => h)
    ·
      refine qb_iload_n hX 5 rfl rfl ?_
      refine qb_bipush hX 6 91 rfl (by decide) ?_
      refine qb_iclt hX 7 17 rfl (by decide) ?_ ?_
      ·
        refine qb_aload_n hX 10 rfl rfl ?_
        refine qb_getR hX 11 rfl fl_Flow_40 hthis rfl ?_
        refine qb_iload_n hX 12 rfl rfl ?_
        refine qb_iald hX 13 rfl (kf_Flow_12 hthis) (fun x1 => ?_)
        refine qb_aload_n hX 14 rfl rfl ?_
        refine qb_getR hX 15 rfl fl_Flow_40 hthis rfl ?_
        refine qb_iload_n hX 16 rfl rfl ?_
        refine qb_iald hX 17 rfl (kf_Flow_12 hthis) (fun x2 => ?_)
        refine qb_isub hX 18 rfl ?_
        refine qb_aload_n hX 19 rfl rfl ?_
        refine qb_getR hX 20 rfl fl_Flow_28 hthis rfl ?_
        refine qb_iload_n hX 21 rfl rfl ?_
        refine qb_iald hX 22 rfl (kf_Flow_8 hthis) (fun x3 => ?_)
        refine qb_isub hX 23 rfl ?_
        refine qb_aload_n hX 24 rfl rfl ?_
        refine qb_getR hX 25 rfl fl_Flow_37 hthis rfl ?_
        refine qb_iload_n hX 26 rfl rfl ?_
        refine qb_iald hX 27 rfl (kf_Flow_11 hthis) (fun x4 => ?_)
        refine qb_iadd hX 28 rfl ?_
        exact qb_iret hX 29 rfl hR (fun _ h => h)
      ·
        refine qb_iconst hX 8 0 rfl (by decide) ?_
        exact qb_iret hX 9 rfl hR (fun _ h => h)
theorem jm_Flow_text {l : Launch} {G : qm_G} (hG : qm_GI G) (this : Nat) (p1 : Int32) (p2 : Int32) (hthis : (qm_kd this).1 = 11) : qm_MI l G jy_Flow_text prog_3_method_14_code 3 (some .int) 0 0 [.ref (G.1 this), .int p1, .int p2] (jf_Flow_text this p1 p2) :=
  qm_metI (by decide +kernel) jd_Flow_text (fun v hv => by simp only [List.mem_cons, List.not_mem_nil, or_false] at hv; rcases hv with rfl | rfl | rfl <;> rfl) (by exact Nat.le_of_ble_eq_true rfl) hG rfl (fun X hl hg hX r0 σ0 hR => by subst hl; subst hg; exact jb_Flow_text hX hR this p1 p2 hthis)
def jl_Flow_ownLines : List qm_I := [(0, .iload_n 1, 1, 1), (1, .ifCond .lt 14, 3, 4), (4, .iload_n 1, 1, 5), (5, .iload_n 2, 1, 6), (6, .if_icmp .ge 9, 3, 9), (9, .iload_n 2, 1, 10), (10, .bipush 91, 2, 12), (12, .if_icmp .lt 5, 3, 15), (15, .iconst 0, 1, 16), (16, .ireturn, 1, 17), (17, .aload_n 0, 1, 18), (18, .getfield 43, 3, 21), (21, .iload_n 2, 1, 22), (22, .iaload, 1, 23), (23, .aload_n 0, 1, 24), (24, .getfield 43, 3, 27), (27, .iload_n 1, 1, 28), (28, .iaload, 1, 29), (29, .isub, 1, 30), (30, .ireturn, 1, 31)]
theorem jd_Flow_ownLines : qm_D prog_3_method_12_code jl_Flow_ownLines := qm_D_of (by decide +kernel)
noncomputable def jf_Flow_ownLines (this : Nat) (p1 : Int32) (p2 : Int32) : qm_M Int32 :=
  if p1 < 0 then
    mP 0
  else
    if p2 ≤ p1 then
      mP 0
    else
      if p2 < 91 then
        mB (mLd (qm_rf this 13) p2) fun x1 =>
        mB (mLd (qm_rf this 13) p1) fun x2 =>
        mP (x1 - x2)
      else
        mP 0
set_option maxRecDepth 20000 in
set_option maxHeartbeats 4000000 in
theorem jb_Flow_ownLines {X : qm_X} (hX : qm_ok X qr_Flow prog_3_method_12_code 3 0 0 jl_Flow_ownLines) {r0 : Int32} {σ0 : qm_Mem} (hR : qm_RI X r0 σ0 .int) (this : Nat) (p1 : Int32) (p2 : Int32) (hthis : (qm_kd this).1 = 11) : qm_B X (jf_Flow_ownLines this p1 p2) 0 [some (.ref (qx_ad X this)), some (.int p1), some (.int p2)] [] (fun r σ1 => r = r0 ∧ σ1 = σ0) := by
  unfold jf_Flow_ownLines
  refine qb_iload_n hX 0 rfl rfl ?_
  refine qb_iflt hX 1 15 rfl (by decide) ?_ ?_
  ·
    refine qb_iconst hX 8 0 rfl (by decide) ?_
    exact qb_iret hX 9 rfl hR (fun _ h => h)
  ·
    refine qb_iload_n hX 2 rfl rfl ?_
    refine qb_iload_n hX 3 rfl rfl ?_
    refine qb_icge hX 4 15 rfl (by decide) ?_ ?_
    ·
      refine qb_iconst hX 8 0 rfl (by decide) ?_
      exact qb_iret hX 9 rfl hR (fun _ h => h)
    ·
      refine qb_iload_n hX 5 rfl rfl ?_
      refine qb_bipush hX 6 91 rfl (by decide) ?_
      refine qb_iclt hX 7 17 rfl (by decide) ?_ ?_
      ·
        refine qb_aload_n hX 10 rfl rfl ?_
        refine qb_getR hX 11 rfl fl_Flow_43 hthis rfl ?_
        refine qb_iload_n hX 12 rfl rfl ?_
        refine qb_iald hX 13 rfl (kf_Flow_13 hthis) (fun x1 => ?_)
        refine qb_aload_n hX 14 rfl rfl ?_
        refine qb_getR hX 15 rfl fl_Flow_43 hthis rfl ?_
        refine qb_iload_n hX 16 rfl rfl ?_
        refine qb_iald hX 17 rfl (kf_Flow_13 hthis) (fun x2 => ?_)
        refine qb_isub hX 18 rfl ?_
        exact qb_iret hX 19 rfl hR (fun _ h => h)
      ·
        refine qb_iconst hX 8 0 rfl (by decide) ?_
        exact qb_iret hX 9 rfl hR (fun _ h => h)
theorem jm_Flow_ownLines {l : Launch} {G : qm_G} (hG : qm_GI G) (this : Nat) (p1 : Int32) (p2 : Int32) (hthis : (qm_kd this).1 = 11) : qm_MI l G jy_Flow_ownLines prog_3_method_12_code 3 (some .int) 0 0 [.ref (G.1 this), .int p1, .int p2] (jf_Flow_ownLines this p1 p2) :=
  qm_metI (by decide +kernel) jd_Flow_ownLines (fun v hv => by simp only [List.mem_cons, List.not_mem_nil, or_false] at hv; rcases hv with rfl | rfl | rfl <;> rfl) (by exact Nat.le_of_ble_eq_true rfl) hG rfl (fun X hl hg hX r0 σ0 hR => by subst hl; subst hg; exact jb_Flow_ownLines hX hR this p1 p2 hthis)
def jl_Fitter_linesIn : List qm_I := [(0, .iload_n 1, 1, 1), (1, .aload_n 0, 1, 2), (2, .getfield 41, 3, 5), (5, .if_icmp .lt 10, 3, 8), (8, .aload_n 0, 1, 9), (9, .getfield 45, 3, 12), (12, .ifCond .gt 7, 3, 15), (15, .iconst 0, 1, 16), (16, .goto 14, 3, 19), (19, .iload_n 1, 1, 20), (20, .aload_n 0, 1, 21), (21, .getfield 41, 3, 24), (24, .isub, 1, 25), (25, .aload_n 0, 1, 26), (26, .getfield 45, 3, 29), (29, .idiv, 1, 30), (30, .ireturn, 1, 31)]
theorem jd_Fitter_linesIn : qm_D prog_2_method_4_code jl_Fitter_linesIn := qm_D_of (by decide +kernel)
noncomputable def jf_Fitter_linesIn (this : Nat) (p1 : Int32) : qm_M Int32 :=
  mB (mGt this 2) fun x1 =>
  if p1 < x1 then
    mP 0
  else
    mB (mGt this 3) fun x2 =>
    if 0 < x2 then
      mB (mGt this 2) fun x3 =>
      mB (mGt this 3) fun x4 =>
      mB (mDv (p1 - x3) x4) fun x5 =>
      mP x5
    else
      mP 0
set_option maxRecDepth 20000 in
set_option maxHeartbeats 4000000 in
theorem jb_Fitter_linesIn {X : qm_X} (hX : qm_ok X qr_Fitter prog_2_method_4_code 2 0 0 jl_Fitter_linesIn) {r0 : Int32} {σ0 : qm_Mem} (hR : qm_RI X r0 σ0 .int) (this : Nat) (p1 : Int32) (hthis : (qm_kd this).1 = 10) : qm_B X (jf_Fitter_linesIn this p1) 0 [some (.ref (qx_ad X this)), some (.int p1)] [] (fun r σ1 => r = r0 ∧ σ1 = σ0) := by
  unfold jf_Fitter_linesIn
  refine qb_iload_n hX 0 rfl rfl ?_
  refine qb_aload_n hX 1 rfl rfl ?_
  refine qb_get hX 2 rfl fl_Fitter_41 hthis rfl (fun x1 => ?_)
  refine qb_iclt hX 3 15 rfl (by decide) ?_ ?_
  ·
    refine qb_iconst hX 7 0 rfl (by decide) ?_
    refine qb_goto hX 8 (tgt := 30) rfl (by decide) ?_
    exact qb_iret hX 16 rfl hR (fun _ h => h)
  ·
    refine qb_aload_n hX 4 rfl rfl ?_
    refine qb_get hX 5 rfl fl_Fitter_45 hthis rfl (fun x2 => ?_)
    refine qb_ifgt hX 6 19 rfl (by decide) ?_ ?_
    ·
      refine qb_iload_n hX 9 rfl rfl ?_
      refine qb_aload_n hX 10 rfl rfl ?_
      refine qb_get hX 11 rfl fl_Fitter_41 hthis rfl (fun x3 => ?_)
      refine qb_isub hX 12 rfl ?_
      refine qb_aload_n hX 13 rfl rfl ?_
      refine qb_get hX 14 rfl fl_Fitter_45 hthis rfl (fun x4 => ?_)
      refine qb_idiv hX 15 rfl (fun x5 => ?_)
      exact qb_iret hX 16 rfl hR (fun _ h => h)
    ·
      refine qb_iconst hX 7 0 rfl (by decide) ?_
      refine qb_goto hX 8 (tgt := 30) rfl (by decide) ?_
      exact qb_iret hX 16 rfl hR (fun _ h => h)
theorem jm_Fitter_linesIn {l : Launch} {G : qm_G} (hG : qm_GI G) (this : Nat) (p1 : Int32) (hthis : (qm_kd this).1 = 10) : qm_MI l G jy_Fitter_linesIn prog_2_method_4_code 2 (some .int) 0 0 [.ref (G.1 this), .int p1] (jf_Fitter_linesIn this p1) :=
  qm_metI (by decide +kernel) jd_Fitter_linesIn (fun v hv => by simp only [List.mem_cons, List.not_mem_nil, or_false] at hv; rcases hv with rfl | rfl <;> rfl) (by exact Nat.le_of_ble_eq_true rfl) hG rfl (fun X hl hg hX r0 σ0 hR => by subst hl; subst hg; exact jb_Fitter_linesIn hX hR this p1 hthis)
def jl_Flow_lastLinesAhead : List qm_I := [(0, .iload_n 1, 1, 1), (1, .ifCond .lt 18, 3, 4), (4, .iload_n 1, 1, 5), (5, .bipush 91, 2, 7), (7, .if_icmp .ge 12, 3, 10), (10, .aload_n 0, 1, 11), (11, .getfield 46, 3, 14), (14, .iload_n 1, 1, 15), (15, .iaload, 1, 16), (16, .goto 4, 3, 19), (19, .iconst 0, 1, 20), (20, .ireturn, 1, 21)]
theorem jd_Flow_lastLinesAhead : qm_D prog_3_method_13_code jl_Flow_lastLinesAhead := qm_D_of (by decide +kernel)
noncomputable def jf_Flow_lastLinesAhead (this : Nat) (p1 : Int32) : qm_M Int32 :=
  if p1 < 0 then
    mP 0
  else
    if 91 ≤ p1 then
      mP 0
    else
      mB (mLd (qm_rf this 14) p1) fun x1 =>
      mP x1
set_option maxRecDepth 20000 in
set_option maxHeartbeats 4000000 in
theorem jb_Flow_lastLinesAhead {X : qm_X} (hX : qm_ok X qr_Flow prog_3_method_13_code 2 0 0 jl_Flow_lastLinesAhead) {r0 : Int32} {σ0 : qm_Mem} (hR : qm_RI X r0 σ0 .int) (this : Nat) (p1 : Int32) (hthis : (qm_kd this).1 = 11) : qm_B X (jf_Flow_lastLinesAhead this p1) 0 [some (.ref (qx_ad X this)), some (.int p1)] [] (fun r σ1 => r = r0 ∧ σ1 = σ0) := by
  unfold jf_Flow_lastLinesAhead
  refine qb_iload_n hX 0 rfl rfl ?_
  refine qb_iflt hX 1 19 rfl (by decide) ?_ ?_
  ·
    refine qb_iconst hX 10 0 rfl (by decide) ?_
    exact qb_iret hX 11 rfl hR (fun _ h => h)
  ·
    refine qb_iload_n hX 2 rfl rfl ?_
    refine qb_bipush hX 3 91 rfl (by decide) ?_
    refine qb_icge hX 4 19 rfl (by decide) ?_ ?_
    ·
      refine qb_iconst hX 10 0 rfl (by decide) ?_
      exact qb_iret hX 11 rfl hR (fun _ h => h)
    ·
      refine qb_aload_n hX 5 rfl rfl ?_
      refine qb_getR hX 6 rfl fl_Flow_46 hthis rfl ?_
      refine qb_iload_n hX 7 rfl rfl ?_
      refine qb_iald hX 8 rfl (kf_Flow_14 hthis) (fun x1 => ?_)
      refine qb_goto hX 9 (tgt := 20) rfl (by decide) ?_
      exact qb_iret hX 11 rfl hR (fun _ h => h)
theorem jm_Flow_lastLinesAhead {l : Launch} {G : qm_G} (hG : qm_GI G) (this : Nat) (p1 : Int32) (hthis : (qm_kd this).1 = 11) : qm_MI l G jy_Flow_lastLinesAhead prog_3_method_13_code 2 (some .int) 0 0 [.ref (G.1 this), .int p1] (jf_Flow_lastLinesAhead this p1) :=
  qm_metI (by decide +kernel) jd_Flow_lastLinesAhead (fun v hv => by simp only [List.mem_cons, List.not_mem_nil, or_false] at hv; rcases hv with rfl | rfl <;> rfl) (by exact Nat.le_of_ble_eq_true rfl) hG rfl (fun X hl hg hX r0 σ0 hR => by subst hl; subst hg; exact jb_Flow_lastLinesAhead hX hR this p1 hthis)
def jl_Fitter_leftOver : List qm_I := [(0, .iload 4, 2, 2), (2, .aload_n 0, 1, 3), (3, .getfield 15, 3, 6), (6, .iload_n 1, 1, 7), (7, .iload_n 2, 1, 8), (8, .invokevirtual 51, 3, 11), (11, .isub, 1, 12), (12, .istore 5, 2, 14), (14, .aload_n 0, 1, 15), (15, .getfield 15, 3, 18), (18, .iload_n 1, 1, 19), (19, .iload_n 2, 1, 20), (20, .invokevirtual 57, 3, 23), (23, .istore 6, 2, 25), (25, .iload 6, 2, 27), (27, .iload_n 3, 1, 28), (28, .iadd, 1, 29), (29, .ifCond .ne 14, 3, 32), (32, .iload 5, 2, 34), (34, .ifCond .lt 7, 3, 37), (37, .iconst 0, 1, 38), (38, .goto 4, 3, 41), (41, .iconst (-1), 1, 42), (42, .ireturn, 1, 43), (43, .aload_n 0, 1, 44), (44, .iload 5, 2, 46), (46, .invokevirtual 60, 3, 49), (49, .istore 7, 2, 51), (51, .iload 6, 2, 53), (53, .ifCond .le 21, 3, 56), (56, .iload_n 3, 1, 57), (57, .iload 6, 2, 59), (59, .iadd, 1, 60), (60, .aload_n 0, 1, 61), (61, .getfield 15, 3, 64), (64, .iload_n 2, 1, 65), (65, .invokevirtual 63, 3, 68), (68, .isub, 1, 69), (69, .iconst 1, 1, 70), (70, .iadd, 1, 71), (71, .goto 4, 3, 74), (74, .iconst 1, 1, 75), (75, .istore 8, 2, 77), (77, .iload 8, 2, 79), (79, .iload 7, 2, 81), (81, .if_icmp .le 7, 3, 84), (84, .iconst (-1), 1, 85), (85, .goto 14, 3, 88), (88, .iconst 0, 1, 89), (89, .iload 6, 2, 91), (91, .iload_n 3, 1, 92), (92, .iadd, 1, 93), (93, .iload 7, 2, 95), (95, .isub, 1, 96), (96, .invokestatic 66, 3, 99), (99, .ireturn, 1, 100)]
theorem jd_Fitter_leftOver : qm_D prog_2_method_3_code jl_Fitter_leftOver := qm_D_of (by decide +kernel)
noncomputable def jf_Fitter_leftOver (this : Nat) (p1 : Int32) (p2 : Int32) (p3 : Int32) (p4 : Int32) : qm_M Int32 :=
  mB (jf_Flow_text (qm_rf this 1) p1 p2) fun x1 =>
  mB (mP (p4 - x1)) fun x2 =>
  mB (jf_Flow_ownLines (qm_rf this 1) p1 p2) fun x3 =>
  if ¬ (x3 + p3) = 0 then
    mB (jf_Fitter_linesIn this x2) fun x4 =>
    mB (α := Int32) (
      if x3 ≤ 0 then
        mP 1
      else
        mB (jf_Flow_lastLinesAhead (qm_rf this 1) p2) fun x6 =>
        mP (((p3 + x3) - x6) + 1)) fun s5 =>
    if s5 ≤ x4 then
      mB (jf_Math_max 0 ((x3 + p3) - x4)) fun x7 =>
      mP x7
    else
      mP (-1)
  else
    if x2 < 0 then
      mP (-1)
    else
      mP 0
set_option maxRecDepth 20000 in
set_option maxHeartbeats 4000000 in
theorem jb_Fitter_leftOver {X : qm_X} (hX : qm_ok X qr_Fitter prog_2_method_3_code 9 1 22 jl_Fitter_leftOver) {r0 : Int32} {σ0 : qm_Mem} (hR : qm_RI X r0 σ0 .int) (this : Nat) (p1 : Int32) (p2 : Int32) (p3 : Int32) (p4 : Int32) (hthis : (qm_kd this).1 = 10) : qm_B X (jf_Fitter_leftOver this p1 p2 p3 p4) 0 [some (.ref (qx_ad X this)), some (.int p1), some (.int p2), some (.int p3), some (.int p4), none, none, none, none] [] (fun r σ1 => r = r0 ∧ σ1 = σ0) := by
  unfold jf_Fitter_leftOver
  refine qb_iload hX 0 rfl rfl ?_
  refine qb_aload_n hX 1 rfl rfl ?_
  refine qb_getR hX 2 rfl fl_Fitter_15 hthis rfl ?_
  refine qb_iload_n hX 3 rfl rfl ?_
  refine qb_iload_n hX 4 rfl rfl ?_
  refine qb_callI hX 5 rfl cv_Fitter_51 (jm_Flow_text (qk_GI hX) (qm_rf this 1) p1 p2 (kf_Fitter_1 hthis) ) (ci := 1) (kf_Fitter_1 hthis) ⟨rfl, rfl, rfl, by decide, by decide⟩ rfl (by exact Nat.le_of_ble_eq_true rfl) (fun x1 => ?_)
  refine qb_isub hX 6 rfl ?_
  refine qb_istoreL hX 7 (fun x2 => [some (.ref (qx_ad X this)), some (.int p1), some (.int p2), some (.int p3), some (.int p4), some (.int x2), none, none, none]) rfl (by decide) (fun _ => rfl) (fun x2 => ?_)
  refine qb_aload_n hX 8 rfl rfl ?_
  refine qb_getR hX 9 rfl fl_Fitter_15 hthis rfl ?_
  refine qb_iload_n hX 10 rfl rfl ?_
  refine qb_iload_n hX 11 rfl rfl ?_
  refine qb_callI hX 12 rfl cv_Fitter_57 (jm_Flow_ownLines (qk_GI hX) (qm_rf this 1) p1 p2 (kf_Fitter_1 hthis) ) (ci := 1) (kf_Fitter_1 hthis) ⟨rfl, rfl, rfl, by decide, by decide⟩ rfl (by exact Nat.le_of_ble_eq_true rfl) (fun x3 => ?_)
  refine qb_istore hX 13 ([some (.ref (qx_ad X this)), some (.int p1), some (.int p2), some (.int p3), some (.int p4), some (.int x2), some (.int x3), none, none]) rfl (by decide) rfl ?_
  refine qb_iload hX 14 rfl rfl ?_
  refine qb_iload_n hX 15 rfl rfl ?_
  refine qb_iadd hX 16 rfl ?_
  refine qb_ifne hX 17 43 rfl (by decide) ?_ ?_
  ·
    refine qb_aload_n hX 24 rfl rfl ?_
    refine qb_iload hX 25 rfl rfl ?_
    refine qb_callI hX 26 rfl cv_Fitter_60 (jm_Fitter_linesIn (qk_GI hX) this x2 hthis ) (ci := 0) hthis ⟨rfl, rfl, rfl, by decide, by decide⟩ rfl (by exact Nat.le_of_ble_eq_true rfl) (fun x4 => ?_)
    refine qb_istore hX 27 ([some (.ref (qx_ad X this)), some (.int p1), some (.int p2), some (.int p3), some (.int p4), some (.int x2), some (.int x3), some (.int x4), none]) rfl (by decide) rfl ?_
    refine qb_iload hX 28 rfl rfl ?_
    refine qb_join 75 (fun s5 => [none, none, none, some (.int p3), none, none, some (.int x3), some (.int x4), none]) (fun s5 => [.int s5]) ?_ ?_
    ·
      refine qb_ifle hX 29 74 rfl (by decide) ?_ ?_
      ·
        refine qb_iconst hX 41 1 rfl (by decide) ?_
        exact qb_exit (fun σ h => qj_wk (ρ' := [none, none, none, some (.int p3), none, none, some (.int x3), some (.int x4), none]) (qw_n (qw_n (qw_n (qw_s (qw_n (qw_n (qw_s (qw_s (qw_n (qw_0)))))))))) h)
      ·
        refine qb_iload_n hX 30 rfl rfl ?_
        refine qb_iload hX 31 rfl rfl ?_
        refine qb_iadd hX 32 rfl ?_
        refine qb_aload_n hX 33 rfl rfl ?_
        refine qb_getR hX 34 rfl fl_Fitter_15 hthis rfl ?_
        refine qb_iload_n hX 35 rfl rfl ?_
        refine qb_callI hX 36 rfl cv_Fitter_63 (jm_Flow_lastLinesAhead (qk_GI hX) (qm_rf this 1) p2 (kf_Fitter_1 hthis) ) (ci := 1) (kf_Fitter_1 hthis) ⟨rfl, rfl, rfl, by decide, by decide⟩ rfl (by exact Nat.le_of_ble_eq_true rfl) (fun x6 => ?_)
        refine qb_isub hX 37 rfl ?_
        refine qb_iconst hX 38 1 rfl (by decide) ?_
        refine qb_iadd hX 39 rfl ?_
        exact qb_exit (fun σ h => qj_goto hX 40 rfl (by decide) (qj_wk (ρ' := [none, none, none, some (.int p3), none, none, some (.int x3), some (.int x4), none]) (qw_n (qw_n (qw_n (qw_s (qw_n (qw_n (qw_s (qw_s (qw_n (qw_0)))))))))) h))
    · intro s5
      refine qb_istore hX 42 ([none, none, none, some (.int p3), none, none, some (.int x3), some (.int x4), some (.int s5)]) rfl (by decide) rfl ?_
      refine qb_iload hX 43 rfl rfl ?_
      refine qb_iload hX 44 rfl rfl ?_
      refine qb_icle hX 45 88 rfl (by decide) ?_ ?_
      ·
        refine qb_iconst hX 48 0 rfl (by decide) ?_
        refine qb_iload hX 49 rfl rfl ?_
        refine qb_iload_n hX 50 rfl rfl ?_
        refine qb_iadd hX 51 rfl ?_
        refine qb_iload hX 52 rfl rfl ?_
        refine qb_isub hX 53 rfl ?_
        refine qb_mmax hX 54 rfl cv_Fitter_66 (by decide) (by exact Nat.le_of_ble_eq_true rfl) (fun x7 => ?_)
        exact qb_iret hX 55 rfl hR (fun _ h => h)
      ·
        refine qb_iconst hX 46 (-1) rfl (by decide) ?_
        refine qb_goto hX 47 (tgt := 99) rfl (by decide) ?_
        exact qb_iret hX 55 rfl hR (fun _ h => h)
  ·
    refine qb_iload hX 18 rfl rfl ?_
    refine qb_iflt hX 19 41 rfl (by decide) ?_ ?_
    ·
      refine qb_iconst hX 22 (-1) rfl (by decide) ?_
      exact qb_iret hX 23 rfl hR (fun _ h => h)
    ·
      refine qb_iconst hX 20 0 rfl (by decide) ?_
      refine qb_goto hX 21 (tgt := 42) rfl (by decide) ?_
      exact qb_iret hX 23 rfl hR (fun _ h => h)
theorem jm_Fitter_leftOver {l : Launch} {G : qm_G} (hG : qm_GI G) (this : Nat) (p1 : Int32) (p2 : Int32) (p3 : Int32) (p4 : Int32) (hthis : (qm_kd this).1 = 10) : qm_MI l G jy_Fitter_leftOver prog_2_method_3_code 9 (some .int) 1 22 [.ref (G.1 this), .int p1, .int p2, .int p3, .int p4] (jf_Fitter_leftOver this p1 p2 p3 p4) :=
  qm_metI (by decide +kernel) jd_Fitter_leftOver (fun v hv => by simp only [List.mem_cons, List.not_mem_nil, or_false] at hv; rcases hv with rfl | rfl | rfl | rfl | rfl <;> rfl) (by exact Nat.le_of_ble_eq_true rfl) hG rfl (fun X hl hg hX r0 σ0 hR => by subst hl; subst hg; exact jb_Fitter_leftOver hX hR this p1 p2 p3 p4 hthis)
def jl_Top_at : List qm_I := [(0, .iload_n 1, 1, 1), (1, .ifCond .lt 15, 3, 4), (4, .iload_n 1, 1, 5), (5, .aload_n 0, 1, 6), (6, .arraylength, 1, 7), (7, .if_icmp .ge 9, 3, 10), (10, .aload_n 0, 1, 11), (11, .iload_n 1, 1, 12), (12, .iaload, 1, 13), (13, .goto 4, 3, 16), (16, .iconst 0, 1, 17), (17, .ireturn, 1, 18)]
theorem jd_Top_at : qm_D prog_1_method_36_code jl_Top_at := qm_D_of (by decide +kernel)
noncomputable def jf_Top_at (p1 : Nat) (p2 : Int32) : qm_M Int32 :=
  if p2 < 0 then
    mP 0
  else
    if (Int32.ofNat (qm_kd p1).2) ≤ p2 then
      mP 0
    else
      mB (mLd p1 p2) fun x1 =>
      mP x1
set_option maxRecDepth 20000 in
set_option maxHeartbeats 4000000 in
theorem jb_Top_at {X : qm_X} (hX : qm_ok X qr_Top prog_1_method_36_code 2 0 0 jl_Top_at) {r0 : Int32} {σ0 : qm_Mem} (hR : qm_RI X r0 σ0 .int) (p1 : Nat) (p2 : Int32) (hp1 : (qm_kd p1).1 = 1) : qm_B X (jf_Top_at p1 p2) 0 [some (.ref (qx_ad X p1)), some (.int p2)] [] (fun r σ1 => r = r0 ∧ σ1 = σ0) := by
  unfold jf_Top_at
  refine qb_iload_n hX 0 rfl rfl ?_
  refine qb_iflt hX 1 16 rfl (by decide) ?_ ?_
  ·
    refine qb_iconst hX 10 0 rfl (by decide) ?_
    exact qb_iret hX 11 rfl hR (fun _ h => h)
  ·
    refine qb_iload_n hX 2 rfl rfl ?_
    refine qb_aload_n hX 3 rfl rfl ?_
    refine qb_alen hX 4 (Int32.ofNat (qm_kd p1).2) rfl (Or.inl hp1) rfl ?_
    refine qb_icge hX 5 16 rfl (by decide) ?_ ?_
    ·
      refine qb_iconst hX 10 0 rfl (by decide) ?_
      exact qb_iret hX 11 rfl hR (fun _ h => h)
    ·
      refine qb_aload_n hX 6 rfl rfl ?_
      refine qb_iload_n hX 7 rfl rfl ?_
      refine qb_iald hX 8 rfl hp1 (fun x1 => ?_)
      refine qb_goto hX 9 (tgt := 17) rfl (by decide) ?_
      exact qb_iret hX 11 rfl hR (fun _ h => h)
theorem jm_Top_at {l : Launch} {G : qm_G} (hG : qm_GI G) (p1 : Nat) (p2 : Int32) (hp1 : (qm_kd p1).1 = 1) : qm_MI l G jy_Top_at prog_1_method_36_code 2 (some .int) 0 0 [.ref (G.1 p1), .int p2] (jf_Top_at p1 p2) :=
  qm_metI (by decide +kernel) jd_Top_at (fun v hv => by simp only [List.mem_cons, List.not_mem_nil, or_false] at hv; rcases hv with rfl | rfl <;> rfl) (by exact Nat.le_of_ble_eq_true rfl) hG rfl (fun X hl hg hX r0 σ0 hR => by subst hl; subst hg; exact jb_Top_at hX hR p1 p2 hp1)
def jl_Fitter_bearsAt : List qm_I := [(0, .iload_n 1, 1, 1), (1, .ifCond .lt 21, 3, 4), (4, .iload_n 1, 1, 5), (5, .iconst 5, 1, 6), (6, .if_icmp .gt 16, 3, 9), (9, .aload_n 0, 1, 10), (10, .getfield 21, 3, 13), (13, .iload_n 1, 1, 14), (14, .aaload, 1, 15), (15, .iload_n 2, 1, 16), (16, .invokestatic 78, 3, 19), (19, .goto 4, 3, 22), (22, .iconst (-1), 1, 23), (23, .ireturn, 1, 24)]
theorem jd_Fitter_bearsAt : qm_D prog_2_method_6_code jl_Fitter_bearsAt := qm_D_of (by decide +kernel)
noncomputable def jf_Fitter_bearsAt (this : Nat) (p1 : Int32) (p2 : Int32) : qm_M Int32 :=
  if p1 < 0 then
    mP (-1)
  else
    if 5 < p1 then
      mP (-1)
    else
      mB (mLr (qm_rf this 4) p1) fun r1 =>
      mB (jf_Top_at r1 p2) fun x2 =>
      mP x2
set_option maxRecDepth 20000 in
set_option maxHeartbeats 4000000 in
theorem jb_Fitter_bearsAt {X : qm_X} (hX : qm_ok X qr_Fitter prog_2_method_6_code 3 1 21 jl_Fitter_bearsAt) {r0 : Int32} {σ0 : qm_Mem} (hR : qm_RI X r0 σ0 .int) (this : Nat) (p1 : Int32) (p2 : Int32) (hthis : (qm_kd this).1 = 10) : qm_B X (jf_Fitter_bearsAt this p1 p2) 0 [some (.ref (qx_ad X this)), some (.int p1), some (.int p2)] [] (fun r σ1 => r = r0 ∧ σ1 = σ0) := by
  unfold jf_Fitter_bearsAt
  refine qb_iload_n hX 0 rfl rfl ?_
  refine qb_iflt hX 1 22 rfl (by decide) ?_ ?_
  ·
    refine qb_iconst hX 12 (-1) rfl (by decide) ?_
    exact qb_iret hX 13 rfl hR (fun _ h => h)
  ·
    refine qb_iload_n hX 2 rfl rfl ?_
    refine qb_iconst hX 3 5 rfl (by decide) ?_
    refine qb_icgt hX 4 22 rfl (by decide) ?_ ?_
    ·
      refine qb_iconst hX 12 (-1) rfl (by decide) ?_
      exact qb_iret hX 13 rfl hR (fun _ h => h)
    ·
      refine qb_aload_n hX 5 rfl rfl ?_
      refine qb_getR hX 6 rfl fl_Fitter_21 hthis rfl ?_
      refine qb_iload_n hX 7 rfl rfl ?_
      refine qb_aald hX 8 rfl (Or.inl (kf_Fitter_4 hthis)) (ka_4 (kf_Fitter_4 hthis)) (fun r1 hr1 => ?_)
      refine qb_iload_n hX 9 rfl rfl ?_
      refine qb_calNI hX 10 rfl cv_Fitter_78 (jm_Top_at (qk_GI hX) r1 p2 hr1) ⟨rfl, by decide, by decide⟩ rfl (by exact Nat.le_of_ble_eq_true rfl) (fun x2 => ?_)
      refine qb_goto hX 11 (tgt := 23) rfl (by decide) ?_
      exact qb_iret hX 13 rfl hR (fun _ h => h)
theorem jm_Fitter_bearsAt {l : Launch} {G : qm_G} (hG : qm_GI G) (this : Nat) (p1 : Int32) (p2 : Int32) (hthis : (qm_kd this).1 = 10) : qm_MI l G jy_Fitter_bearsAt prog_2_method_6_code 3 (some .int) 1 21 [.ref (G.1 this), .int p1, .int p2] (jf_Fitter_bearsAt this p1 p2) :=
  qm_metI (by decide +kernel) jd_Fitter_bearsAt (fun v hv => by simp only [List.mem_cons, List.not_mem_nil, or_false] at hv; rcases hv with rfl | rfl | rfl <;> rfl) (by exact Nat.le_of_ble_eq_true rfl) hG rfl (fun X hl hg hX r0 σ0 hR => by subst hl; subst hg; exact jb_Fitter_bearsAt hX hR this p1 p2 hthis)
def jl_Fitter_slotOf : List qm_I := [(0, .iload_n 2, 1, 1), (1, .ifCond .lt 22, 3, 4), (4, .iload_n 2, 1, 5), (5, .aload_n 0, 1, 6), (6, .getfield 15, 3, 9), (9, .getfield 93, 3, 12), (12, .iload_n 1, 1, 13), (13, .invokestatic 78, 3, 16), (16, .if_icmp .ge 7, 3, 19), (19, .iconst 1, 1, 20), (20, .goto 4, 3, 23), (23, .iconst 0, 1, 24), (24, .istore 4, 2, 26), (26, .iload 4, 2, 28), (28, .ifCond .eq 22, 3, 31), (31, .iload_n 3, 1, 32), (32, .ifCond .lt 18, 3, 35), (35, .iload_n 3, 1, 36), (36, .bipush 20, 2, 38), (38, .if_icmp .ge 12, 3, 41), (41, .iload_n 2, 1, 42), (42, .bipush 20, 2, 44), (44, .imul, 1, 45), (45, .iload_n 3, 1, 46), (46, .iadd, 1, 47), (47, .goto 4, 3, 50), (50, .iconst (-1), 1, 51), (51, .ireturn, 1, 52)]
theorem jd_Fitter_slotOf : qm_D prog_2_method_9_code jl_Fitter_slotOf := qm_D_of (by decide +kernel)
noncomputable def jf_Fitter_slotOf (this : Nat) (p1 : Int32) (p2 : Int32) (p3 : Int32) : qm_M Int32 :=
  mB (α := Int32) (
    mB (α := (Unit ⊕ Int32)) (
      if p2 < 0 then
        mP (Sum.inl ())
      else
        mB (jf_Top_at (qm_rf (qm_rf this 1) 17) p1) fun x3 =>
        if x3 ≤ p2 then
          mP (Sum.inl ())
        else
          mP (Sum.inr 1)) (Sum.elim (fun s2 =>
      mP 0) mP)) fun s1 =>
  if s1 = 0 then
    mP (-1)
  else
    if p3 < 0 then
      mP (-1)
    else
      if 20 ≤ p3 then
        mP (-1)
      else
        mP ((p2 * 20) + p3)
set_option maxRecDepth 20000 in
set_option maxHeartbeats 4000000 in
theorem jb_Fitter_slotOf {X : qm_X} (hX : qm_ok X qr_Fitter prog_2_method_9_code 5 1 21 jl_Fitter_slotOf) {r0 : Int32} {σ0 : qm_Mem} (hR : qm_RI X r0 σ0 .int) (this : Nat) (p1 : Int32) (p2 : Int32) (p3 : Int32) (hthis : (qm_kd this).1 = 10) : qm_B X (jf_Fitter_slotOf this p1 p2 p3) 0 [some (.ref (qx_ad X this)), some (.int p1), some (.int p2), some (.int p3), none] [] (fun r σ1 => r = r0 ∧ σ1 = σ0) := by
  unfold jf_Fitter_slotOf
  refine qb_iload_n hX 0 rfl rfl ?_
  refine qb_join 24 (fun s1 => [none, none, some (.int p2), some (.int p3), none]) (fun s1 => [.int s1]) ?_ ?_
  ·
    refine qb_join2 23 (fun s2 => [none, none, some (.int p2), some (.int p3), none]) (fun s2 => []) ?_ ?_
    ·
      refine qb_iflt hX 1 23 rfl (by decide) ?_ ?_
      ·
        exact qb_exit (fun σ h => qj_wk (ρ' := [none, none, some (.int p2), some (.int p3), none]) (qw_n (qw_n (qw_s (qw_s (qw_n (qw_0)))))) h)
      ·
        refine qb_iload_n hX 2 rfl rfl ?_
        refine qb_aload_n hX 3 rfl rfl ?_
        refine qb_getR hX 4 rfl fl_Fitter_15 hthis rfl ?_
        refine qb_getR hX 5 rfl fl_Fitter_93 (kf_Fitter_1 hthis) rfl ?_
        refine qb_iload_n hX 6 rfl rfl ?_
        refine qb_calNI hX 7 rfl cv_Fitter_78 (jm_Top_at (qk_GI hX) (qm_rf (qm_rf this 1) 17) p1 (kf_Flow_17 (kf_Fitter_1 hthis))) ⟨rfl, by decide, by decide⟩ rfl (by exact Nat.le_of_ble_eq_true rfl) (fun x3 => ?_)
        refine qb_icge hX 8 23 rfl (by decide) ?_ ?_
        ·
          exact qb_exit (fun σ h => qj_wk (ρ' := [none, none, some (.int p2), some (.int p3), none]) (qw_n (qw_n (qw_s (qw_s (qw_n (qw_0)))))) h)
        ·
          refine qb_iconst hX 9 1 rfl (by decide) ?_
          exact qb_exit (fun σ h => qj_goto hX 10 rfl (by decide) (qj_wk (ρ' := [none, none, some (.int p2), some (.int p3), none]) (qw_n (qw_n (qw_s (qw_s (qw_n (qw_0)))))) h))
    · intro s2
      refine qb_iconst hX 11 0 rfl (by decide) ?_
      exact qb_exit (fun σ h => qj_wk (ρ' := [none, none, some (.int p2), some (.int p3), none]) (qw_n (qw_n (qw_s (qw_s (qw_n (qw_0)))))) h)
  · intro s1
    refine qb_istore hX 12 ([none, none, some (.int p2), some (.int p3), some (.int s1)]) rfl (by decide) rfl ?_
    refine qb_iload hX 13 rfl rfl ?_
    refine qb_ifeq hX 14 50 rfl (by decide) ?_ ?_
    ·
      refine qb_iconst hX 26 (-1) rfl (by decide) ?_
      exact qb_iret hX 27 rfl hR (fun _ h => h)
    ·
      refine qb_iload_n hX 15 rfl rfl ?_
      refine qb_iflt hX 16 50 rfl (by decide) ?_ ?_
      ·
        refine qb_iconst hX 26 (-1) rfl (by decide) ?_
        exact qb_iret hX 27 rfl hR (fun _ h => h)
      ·
        refine qb_iload_n hX 17 rfl rfl ?_
        refine qb_bipush hX 18 20 rfl (by decide) ?_
        refine qb_icge hX 19 50 rfl (by decide) ?_ ?_
        ·
          refine qb_iconst hX 26 (-1) rfl (by decide) ?_
          exact qb_iret hX 27 rfl hR (fun _ h => h)
        ·
          refine qb_iload_n hX 20 rfl rfl ?_
          refine qb_bipush hX 21 20 rfl (by decide) ?_
          refine qb_imul hX 22 rfl ?_
          refine qb_iload_n hX 23 rfl rfl ?_
          refine qb_iadd hX 24 rfl ?_
          refine qb_goto hX 25 (tgt := 51) rfl (by decide) ?_
          exact qb_iret hX 27 rfl hR (fun _ h => h)
theorem jm_Fitter_slotOf {l : Launch} {G : qm_G} (hG : qm_GI G) (this : Nat) (p1 : Int32) (p2 : Int32) (p3 : Int32) (hthis : (qm_kd this).1 = 10) : qm_MI l G jy_Fitter_slotOf prog_2_method_9_code 5 (some .int) 1 21 [.ref (G.1 this), .int p1, .int p2, .int p3] (jf_Fitter_slotOf this p1 p2 p3) :=
  qm_metI (by decide +kernel) jd_Fitter_slotOf (fun v hv => by simp only [List.mem_cons, List.not_mem_nil, or_false] at hv; rcases hv with rfl | rfl | rfl | rfl <;> rfl) (by exact Nat.le_of_ble_eq_true rfl) hG rfl (fun X hl hg hX r0 σ0 hR => by subst hl; subst hg; exact jb_Fitter_slotOf hX hR this p1 p2 p3 hthis)
def jl_Fitter_bearsFrom : List qm_I := [(0, .iconst (-1), 1, 1), (1, .istore 4, 2, 3), (3, .iload_n 1, 1, 4), (4, .ifCond .lt 20, 3, 7), (7, .iload_n 1, 1, 8), (8, .iload_n 2, 1, 9), (9, .if_icmp .gt 15, 3, 12), (12, .iload_n 2, 1, 13), (13, .bipush 91, 2, 15), (15, .if_icmp .ge 9, 3, 18), (18, .iload_n 2, 1, 19), (19, .aload_n 3, 1, 20), (20, .arraylength, 1, 21), (21, .if_icmp .lt 6, 3, 24), (24, .iload 4, 2, 26), (26, .ireturn, 1, 27), (27, .aload_n 0, 1, 28), (28, .getfield 15, 3, 31), (31, .getfield 113, 3, 34), (34, .iload_n 1, 1, 35), (35, .iaload, 1, 36), (36, .aload_n 0, 1, 37), (37, .getfield 15, 3, 40), (40, .getfield 116, 3, 43), (43, .iload_n 1, 1, 44), (44, .iaload, 1, 45), (45, .iadd, 1, 46), (46, .aload_n 0, 1, 47), (47, .getfield 15, 3, 50), (50, .getfield 119, 3, 53), (53, .iload_n 1, 1, 54), (54, .iaload, 1, 55), (55, .isub, 1, 56), (56, .istore 5, 2, 58), (58, .iload_n 1, 1, 59), (59, .istore 6, 2, 61), (61, .iload 6, 2, 63), (63, .iload_n 2, 1, 64), (64, .if_icmp .gt 183, 3, 67), (67, .aload_n 0, 1, 68), (68, .getfield 99, 3, 71), (71, .iload 6, 2, 73), (73, .iload_n 1, 1, 74), (74, .if_icmp .ne 7, 3, 77), (77, .iconst 0, 1, 78), (78, .goto 16, 3, 81), (81, .aload_n 0, 1, 82), (82, .getfield 15, 3, 85), (85, .getfield 113, 3, 88), (88, .iload 6, 2, 90), (90, .iaload, 1, 91), (91, .iload 5, 2, 93), (93, .isub, 1, 94), (94, .isub, 1, 95), (95, .istore 7, 2, 97), (97, .iload 7, 2, 99), (99, .ifCond .ge 6, 3, 102), (102, .goto 145, 3, 105), (105, .aload_n 0, 1, 106), (106, .getfield 15, 3, 109), (109, .getfield 105, 3, 112), (112, .iload 6, 2, 114), (114, .baload, 1, 115), (115, .ifCond .eq 126, 3, 118), (118, .aload_n 3, 1, 119), (119, .iload 6, 2, 121), (121, .iaload, 1, 122), (122, .iconst (-1), 1, 123), (123, .if_icmp .eq 118, 3, 126), (126, .aload_n 0, 1, 127), (127, .getfield 15, 3, 130), (130, .getfield 122, 3, 133), (133, .iload 6, 2, 135), (135, .iaload, 1, 136), (136, .aload_n 0, 1, 137), (137, .getfield 15, 3, 140), (140, .getfield 122, 3, 143), (143, .iload_n 1, 1, 144), (144, .iaload, 1, 145), (145, .isub, 1, 146), (146, .istore 8, 2, 148), (148, .iload 7, 2, 150), (150, .aload_n 0, 1, 151), (151, .getfield 41, 3, 154), (154, .if_icmp .lt 10, 3, 157), (157, .aload_n 0, 1, 158), (158, .getfield 45, 3, 161), (161, .ifCond .gt 7, 3, 164), (164, .iconst 0, 1, 165), (165, .goto 15, 3, 168), (168, .iload 7, 2, 170), (170, .aload_n 0, 1, 171), (171, .getfield 41, 3, 174), (174, .isub, 1, 175), (175, .aload_n 0, 1, 176), (176, .getfield 45, 3, 179), (179, .idiv, 1, 180), (180, .istore 9, 2, 182), (182, .iload 9, 2, 184), (184, .ifCond .ne 7, 3, 187), (187, .iconst 0, 1, 188), (188, .goto 10, 3, 191), (191, .iload 9, 2, 193), (193, .aload_n 3, 1, 194), (194, .iload 6, 2, 196), (196, .iaload, 1, 197), (197, .iadd, 1, 198), (198, .istore 10, 2, 200), (200, .iload 8, 2, 202), (202, .ifCond .le 30, 3, 205), (205, .iload 9, 2, 207), (207, .iload 8, 2, 209), (209, .isub, 1, 210), (210, .aload_n 3, 1, 211), (211, .iload 6, 2, 213), (213, .iaload, 1, 214), (214, .aload_n 0, 1, 215), (215, .getfield 15, 3, 218), (218, .getfield 125, 3, 221), (221, .iload 6, 2, 223), (223, .iaload, 1, 224), (224, .iconst 1, 1, 225), (225, .isub, 1, 226), (226, .invokestatic 96, 3, 229), (229, .iadd, 1, 230), (230, .istore 10, 2, 232), (232, .iload 4, 2, 234), (234, .iload 10, 2, 236), (236, .invokestatic 66, 3, 239), (239, .istore 4, 2, 241), (241, .iinc 6 1, 3, 244), (244, .goto (-183), 3, 247), (247, .iload 4, 2, 249), (249, .ireturn, 1, 250)]
theorem jd_Fitter_bearsFrom : qm_D prog_2_method_11_code jl_Fitter_bearsFrom := qm_D_of (by decide +kernel)
noncomputable def jf_Fitter_bearsFrom (this : Nat) (p1 : Int32) (p2 : Int32) (p3 : Nat) : qm_M Int32 :=
  if p1 < 0 then
    mP (-1)
  else
    if p2 < p1 then
      mP (-1)
    else
      if 91 ≤ p2 then
        mP (-1)
      else
        if p2 < (Int32.ofNat (qm_kd p3).2) then
          mB (mLd (qm_rf (qm_rf this 1) 12) p1) fun x1 =>
          mB (mLd (qm_rf (qm_rf this 1) 8) p1) fun x2 =>
          mB (mLd (qm_rf (qm_rf this 1) 11) p1) fun x3 =>
          mB (mP ((x1 + x2) - x3)) fun x4 =>
          mB (α := Int32) (
            mB (α := (Int32 ⊕ Int32)) (
              mW (S := Int32 × Int32) (α := (Int32 ⊕ Int32)) (fun s7 =>
                if p2 < s7.2 then
                  mP (Sum.inr (Sum.inr s7.1))
                else
                  mB (mGt this 6) fun x8 =>
                  mB (α := Int32) (
                    if ¬ s7.2 = p1 then
                      mB (mLd (qm_rf (qm_rf this 1) 12) s7.2) fun x10 =>
                      mP (x10 - x4)
                    else
                      mP 0) fun s9 =>
                  mB (mP (x8 - s9)) fun x11 =>
                  if 0 ≤ x11 then
                    mB (mLd (qm_rf (qm_rf this 1) 15) s7.2) fun x12 =>
                    mB (α := Int32) (
                      if x12 = 0 then
                        mP s7.1
                      else
                        mB (mLd p3 s7.2) fun x14 =>
                        if x14 = (-1) then
                          mP s7.1
                        else
                          mB (mLd (qm_rf (qm_rf this 1) 13) s7.2) fun x15 =>
                          mB (mLd (qm_rf (qm_rf this 1) 13) p1) fun x16 =>
                          mB (mP (x15 - x16)) fun x17 =>
                          mB (mGt this 2) fun x18 =>
                          mB (α := Int32) (
                            mB (α := (Unit ⊕ Int32)) (
                              if x11 < x18 then
                                mP (Sum.inl ())
                              else
                                mB (mGt this 3) fun x21 =>
                                if 0 < x21 then
                                  mB (mGt this 2) fun x22 =>
                                  mB (mGt this 3) fun x23 =>
                                  mB (mDv (x11 - x22) x23) fun x24 =>
                                  mP (Sum.inr x24)
                                else
                                  mP (Sum.inl ())) (Sum.elim (fun s20 =>
                              mP 0) mP)) fun s19 =>
                          mB (α := Int32) (
                            if ¬ s19 = 0 then
                              mB (mLd p3 s7.2) fun x26 =>
                              mP (s19 + x26)
                            else
                              mP 0) fun s25 =>
                          mB (α := Int32) (
                            if x17 ≤ 0 then
                              mP s25
                            else
                              mB (mLd p3 s7.2) fun x28 =>
                              mB (mLd (qm_rf (qm_rf this 1) 14) s7.2) fun x29 =>
                              mB (jf_Math_min x28 (x29 - 1)) fun x30 =>
                              mB (mP ((s19 - x17) + x30)) fun x31 =>
                              mP x31) fun s27 =>
                          mB (jf_Math_max s7.1 s27) fun x32 =>
                          mP x32) fun s13 =>
                    mB (mP (s7.2 + 1)) fun x33 =>
                    mP (Sum.inl (s13, x33))
                  else
                    mP (Sum.inr (Sum.inl s7.1))) ((-1), p1)) (Sum.elim (fun s6 =>
              mP s6) mP)) fun s5 =>
          mP s5
        else
          mP (-1)
set_option maxRecDepth 20000 in
set_option maxHeartbeats 4000000 in
theorem jb_Fitter_bearsFrom {X : qm_X} (hX : qm_ok X qr_Fitter prog_2_method_11_code 11 1 21 jl_Fitter_bearsFrom) {r0 : Int32} {σ0 : qm_Mem} (hR : qm_RI X r0 σ0 .int) (this : Nat) (p1 : Int32) (p2 : Int32) (p3 : Nat) (hthis : (qm_kd this).1 = 10) (hp3 : (qm_kd p3).1 = 1) : qm_B X (jf_Fitter_bearsFrom this p1 p2 p3) 0 [some (.ref (qx_ad X this)), some (.int p1), some (.int p2), some (.ref (qx_ad X p3)), none, none, none, none, none, none, none] [] (fun r σ1 => r = r0 ∧ σ1 = σ0) := by
  unfold jf_Fitter_bearsFrom
  refine qb_iconst hX 0 (-1) rfl (by decide) ?_
  refine qb_istore hX 1 ([some (.ref (qx_ad X this)), some (.int p1), some (.int p2), some (.ref (qx_ad X p3)), some (.int (-1)), none, none, none, none, none, none]) rfl (by decide) rfl ?_
  refine qb_iload_n hX 2 rfl rfl ?_
  refine qb_iflt hX 3 24 rfl (by decide) ?_ ?_
  ·
    refine qb_iload hX 14 rfl rfl ?_
    exact qb_iret hX 15 rfl hR (fun _ h => h)
  ·
    refine qb_iload_n hX 4 rfl rfl ?_
    refine qb_iload_n hX 5 rfl rfl ?_
    refine qb_icgt hX 6 24 rfl (by decide) ?_ ?_
    ·
      refine qb_iload hX 14 rfl rfl ?_
      exact qb_iret hX 15 rfl hR (fun _ h => h)
    ·
      refine qb_iload_n hX 7 rfl rfl ?_
      refine qb_bipush hX 8 91 rfl (by decide) ?_
      refine qb_icge hX 9 24 rfl (by decide) ?_ ?_
      ·
        refine qb_iload hX 14 rfl rfl ?_
        exact qb_iret hX 15 rfl hR (fun _ h => h)
      ·
        refine qb_iload_n hX 10 rfl rfl ?_
        refine qb_aload_n hX 11 rfl rfl ?_
        refine qb_alen hX 12 (Int32.ofNat (qm_kd p3).2) rfl (Or.inl hp3) rfl ?_
        refine qb_iclt hX 13 27 rfl (by decide) ?_ ?_
        ·
          refine qb_aload_n hX 16 rfl rfl ?_
          refine qb_getR hX 17 rfl fl_Fitter_15 hthis rfl ?_
          refine qb_getR hX 18 rfl fl_Fitter_113 (kf_Fitter_1 hthis) rfl ?_
          refine qb_iload_n hX 19 rfl rfl ?_
          refine qb_iald hX 20 rfl (kf_Flow_12 (kf_Fitter_1 hthis)) (fun x1 => ?_)
          refine qb_aload_n hX 21 rfl rfl ?_
          refine qb_getR hX 22 rfl fl_Fitter_15 hthis rfl ?_
          refine qb_getR hX 23 rfl fl_Fitter_116 (kf_Fitter_1 hthis) rfl ?_
          refine qb_iload_n hX 24 rfl rfl ?_
          refine qb_iald hX 25 rfl (kf_Flow_8 (kf_Fitter_1 hthis)) (fun x2 => ?_)
          refine qb_iadd hX 26 rfl ?_
          refine qb_aload_n hX 27 rfl rfl ?_
          refine qb_getR hX 28 rfl fl_Fitter_15 hthis rfl ?_
          refine qb_getR hX 29 rfl fl_Fitter_119 (kf_Fitter_1 hthis) rfl ?_
          refine qb_iload_n hX 30 rfl rfl ?_
          refine qb_iald hX 31 rfl (kf_Flow_11 (kf_Fitter_1 hthis)) (fun x3 => ?_)
          refine qb_isub hX 32 rfl ?_
          refine qb_istoreL hX 33 (fun x4 => [some (.ref (qx_ad X this)), some (.int p1), some (.int p2), some (.ref (qx_ad X p3)), some (.int (-1)), some (.int x4), none, none, none, none, none]) rfl (by decide) (fun _ => rfl) (fun x4 => ?_)
          refine qb_iload_n hX 34 rfl rfl ?_
          refine qb_istore hX 35 ([some (.ref (qx_ad X this)), some (.int p1), some (.int p2), some (.ref (qx_ad X p3)), some (.int (-1)), some (.int x4), some (.int p1), none, none, none, none]) rfl (by decide) rfl ?_
          refine qb_join 247 (fun s5 => [none, none, none, none, some (.int s5), none, none, none, none, none, none]) (fun s5 => []) ?_ ?_
          ·
            refine qb_join2 102 (fun s6 => [none, none, none, none, some (.int s6), none, none, none, none, none, none]) (fun s6 => []) ?_ ?_
            ·
              refine qb_loopw (((-1), p1)) (fun s7 => [some (.ref (qx_ad X this)), some (.int p1), some (.int p2), some (.ref (qx_ad X p3)), some (.int s7.1), some (.int x4), some (.int s7.2), none, none, none, none]) (qw_s (qw_s (qw_s (qw_s (qw_s (qw_s (qw_s (qw_n (qw_n (qw_n (qw_n (qw_0)))))))))))) (fun s7 => ?_)
              refine qb_iload hX 36 rfl rfl ?_
              refine qb_iload_n hX 37 rfl rfl ?_
              refine qb_icgt hX 38 247 rfl (by decide) ?_ ?_
              ·
                exact qb_exit (fun σ h => qj_wk (ρ' := [none, none, none, none, some (.int s7.1), none, none, none, none, none, none]) (qw_n (qw_n (qw_n (qw_n (qw_s (qw_n (qw_n (qw_n (qw_n (qw_n (qw_n (qw_0)))))))))))) h)
              ·
                refine qb_aload_n hX 39 rfl rfl ?_
                refine qb_get hX 40 rfl fl_Fitter_99 hthis rfl (fun x8 => ?_)
                refine qb_iload hX 41 rfl rfl ?_
                refine qb_iload_n hX 42 rfl rfl ?_
                refine qb_join 94 (fun s9 => [some (.ref (qx_ad X this)), some (.int p1), some (.int p2), some (.ref (qx_ad X p3)), some (.int s7.1), some (.int x4), some (.int s7.2), none, none, none, none]) (fun s9 => [.int s9, .int x8]) ?_ ?_
                ·
                  refine qb_icne hX 43 81 rfl (by decide) ?_ ?_
                  ·
                    refine qb_aload_n hX 46 rfl rfl ?_
                    refine qb_getR hX 47 rfl fl_Fitter_15 hthis rfl ?_
                    refine qb_getR hX 48 rfl fl_Fitter_113 (kf_Fitter_1 hthis) rfl ?_
                    refine qb_iload hX 49 rfl rfl ?_
                    refine qb_iald hX 50 rfl (kf_Flow_12 (kf_Fitter_1 hthis)) (fun x10 => ?_)
                    refine qb_iload hX 51 rfl rfl ?_
                    refine qb_isub hX 52 rfl ?_
                    exact qb_exit (fun σ h => qj_wk (ρ' := [some (.ref (qx_ad X this)), some (.int p1), some (.int p2), some (.ref (qx_ad X p3)), some (.int s7.1), some (.int x4), some (.int s7.2), none, none, none, none]) (qw_s (qw_s (qw_s (qw_s (qw_s (qw_s (qw_s (qw_n (qw_n (qw_n (qw_n (qw_0)))))))))))) h)
                  ·
                    refine qb_iconst hX 44 0 rfl (by decide) ?_
                    exact qb_exit (fun σ h => qj_goto hX 45 rfl (by decide) (qj_wk (ρ' := [some (.ref (qx_ad X this)), some (.int p1), some (.int p2), some (.ref (qx_ad X p3)), some (.int s7.1), some (.int x4), some (.int s7.2), none, none, none, none]) (qw_s (qw_s (qw_s (qw_s (qw_s (qw_s (qw_s (qw_n (qw_n (qw_n (qw_n (qw_0)))))))))))) h))
                · intro s9
                  refine qb_isub hX 53 rfl ?_
                  refine qb_istoreL hX 54 (fun x11 => [some (.ref (qx_ad X this)), some (.int p1), some (.int p2), some (.ref (qx_ad X p3)), some (.int s7.1), some (.int x4), some (.int s7.2), some (.int x11), none, none, none]) rfl (by decide) (fun _ => rfl) (fun x11 => ?_)
                  refine qb_iload hX 55 rfl rfl ?_
                  refine qb_ifge hX 56 105 rfl (by decide) ?_ ?_
                  ·
                    refine qb_aload_n hX 58 rfl rfl ?_
                    refine qb_getR hX 59 rfl fl_Fitter_15 hthis rfl ?_
                    refine qb_getR hX 60 rfl fl_Fitter_105 (kf_Fitter_1 hthis) rfl ?_
                    refine qb_iload hX 61 rfl rfl ?_
                    refine qb_zald hX 62 rfl (kf_Flow_15 (kf_Fitter_1 hthis)) (fun x12 => ?_)
                    refine qb_join 241 (fun s13 => [some (.ref (qx_ad X this)), some (.int p1), some (.int p2), some (.ref (qx_ad X p3)), some (.int s13), some (.int x4), some (.int s7.2), none, none, none, none]) (fun s13 => []) ?_ ?_
                    ·
                      refine qb_ifeq hX 63 241 rfl (by decide) ?_ ?_
                      ·
                        exact qb_exit (fun σ h => qj_wk (ρ' := [some (.ref (qx_ad X this)), some (.int p1), some (.int p2), some (.ref (qx_ad X p3)), some (.int s7.1), some (.int x4), some (.int s7.2), none, none, none, none]) (qw_s (qw_s (qw_s (qw_s (qw_s (qw_s (qw_s (qw_n (qw_n (qw_n (qw_n (qw_0)))))))))))) h)
                      ·
                        refine qb_aload_n hX 64 rfl rfl ?_
                        refine qb_iload hX 65 rfl rfl ?_
                        refine qb_iald hX 66 rfl hp3 (fun x14 => ?_)
                        refine qb_iconst hX 67 (-1) rfl (by decide) ?_
                        refine qb_iceq hX 68 241 rfl (by decide) ?_ ?_
                        ·
                          exact qb_exit (fun σ h => qj_wk (ρ' := [some (.ref (qx_ad X this)), some (.int p1), some (.int p2), some (.ref (qx_ad X p3)), some (.int s7.1), some (.int x4), some (.int s7.2), none, none, none, none]) (qw_s (qw_s (qw_s (qw_s (qw_s (qw_s (qw_s (qw_n (qw_n (qw_n (qw_n (qw_0)))))))))))) h)
                        ·
                          refine qb_aload_n hX 69 rfl rfl ?_
                          refine qb_getR hX 70 rfl fl_Fitter_15 hthis rfl ?_
                          refine qb_getR hX 71 rfl fl_Fitter_122 (kf_Fitter_1 hthis) rfl ?_
                          refine qb_iload hX 72 rfl rfl ?_
                          refine qb_iald hX 73 rfl (kf_Flow_13 (kf_Fitter_1 hthis)) (fun x15 => ?_)
                          refine qb_aload_n hX 74 rfl rfl ?_
                          refine qb_getR hX 75 rfl fl_Fitter_15 hthis rfl ?_
                          refine qb_getR hX 76 rfl fl_Fitter_122 (kf_Fitter_1 hthis) rfl ?_
                          refine qb_iload_n hX 77 rfl rfl ?_
                          refine qb_iald hX 78 rfl (kf_Flow_13 (kf_Fitter_1 hthis)) (fun x16 => ?_)
                          refine qb_isub hX 79 rfl ?_
                          refine qb_istoreL hX 80 (fun x17 => [some (.ref (qx_ad X this)), some (.int p1), some (.int p2), some (.ref (qx_ad X p3)), some (.int s7.1), some (.int x4), some (.int s7.2), some (.int x11), some (.int x17), none, none]) rfl (by decide) (fun _ => rfl) (fun x17 => ?_)
                          refine qb_iload hX 81 rfl rfl ?_
                          refine qb_aload_n hX 82 rfl rfl ?_
                          refine qb_get hX 83 rfl fl_Fitter_41 hthis rfl (fun x18 => ?_)
                          refine qb_join 180 (fun s19 => [some (.ref (qx_ad X this)), some (.int p1), some (.int p2), some (.ref (qx_ad X p3)), some (.int s7.1), some (.int x4), some (.int s7.2), none, some (.int x17), none, none]) (fun s19 => [.int s19]) ?_ ?_
                          ·
                            refine qb_join2 164 (fun s20 => [some (.ref (qx_ad X this)), some (.int p1), some (.int p2), some (.ref (qx_ad X p3)), some (.int s7.1), some (.int x4), some (.int s7.2), none, some (.int x17), none, none]) (fun s20 => []) ?_ ?_
                            ·
                              refine qb_iclt hX 84 164 rfl (by decide) ?_ ?_
                              ·
                                exact qb_exit (fun σ h => qj_wk (ρ' := [some (.ref (qx_ad X this)), some (.int p1), some (.int p2), some (.ref (qx_ad X p3)), some (.int s7.1), some (.int x4), some (.int s7.2), none, some (.int x17), none, none]) (qw_s (qw_s (qw_s (qw_s (qw_s (qw_s (qw_s (qw_n (qw_s (qw_n (qw_n (qw_0)))))))))))) h)
                              ·
                                refine qb_aload_n hX 85 rfl rfl ?_
                                refine qb_get hX 86 rfl fl_Fitter_45 hthis rfl (fun x21 => ?_)
                                refine qb_ifgt hX 87 168 rfl (by decide) ?_ ?_
                                ·
                                  refine qb_iload hX 90 rfl rfl ?_
                                  refine qb_aload_n hX 91 rfl rfl ?_
                                  refine qb_get hX 92 rfl fl_Fitter_41 hthis rfl (fun x22 => ?_)
                                  refine qb_isub hX 93 rfl ?_
                                  refine qb_aload_n hX 94 rfl rfl ?_
                                  refine qb_get hX 95 rfl fl_Fitter_45 hthis rfl (fun x23 => ?_)
                                  refine qb_idiv hX 96 rfl (fun x24 => ?_)
                                  exact qb_exit (fun σ h => qj_wk (ρ' := [some (.ref (qx_ad X this)), some (.int p1), some (.int p2), some (.ref (qx_ad X p3)), some (.int s7.1), some (.int x4), some (.int s7.2), none, some (.int x17), none, none]) (qw_s (qw_s (qw_s (qw_s (qw_s (qw_s (qw_s (qw_n (qw_s (qw_n (qw_n (qw_0)))))))))))) h)
                                ·
                                  exact qb_exit (fun σ h => qj_wk (ρ' := [some (.ref (qx_ad X this)), some (.int p1), some (.int p2), some (.ref (qx_ad X p3)), some (.int s7.1), some (.int x4), some (.int s7.2), none, some (.int x17), none, none]) (qw_s (qw_s (qw_s (qw_s (qw_s (qw_s (qw_s (qw_n (qw_s (qw_n (qw_n (qw_0)))))))))))) h)
                            · intro s20
                              refine qb_iconst hX 88 0 rfl (by decide) ?_
                              exact qb_exit (fun σ h => qj_goto hX 89 rfl (by decide) (qj_wk (ρ' := [some (.ref (qx_ad X this)), some (.int p1), some (.int p2), some (.ref (qx_ad X p3)), some (.int s7.1), some (.int x4), some (.int s7.2), none, some (.int x17), none, none]) (qw_s (qw_s (qw_s (qw_s (qw_s (qw_s (qw_s (qw_n (qw_s (qw_n (qw_n (qw_0)))))))))))) h))
                          · intro s19
                            refine qb_istore hX 97 ([some (.ref (qx_ad X this)), some (.int p1), some (.int p2), some (.ref (qx_ad X p3)), some (.int s7.1), some (.int x4), some (.int s7.2), none, some (.int x17), some (.int s19), none]) rfl (by decide) rfl ?_
                            refine qb_iload hX 98 rfl rfl ?_
                            refine qb_join 198 (fun s25 => [some (.ref (qx_ad X this)), some (.int p1), some (.int p2), some (.ref (qx_ad X p3)), some (.int s7.1), some (.int x4), some (.int s7.2), none, some (.int x17), some (.int s19), none]) (fun s25 => [.int s25]) ?_ ?_
                            ·
                              refine qb_ifne hX 99 191 rfl (by decide) ?_ ?_
                              ·
                                refine qb_iload hX 102 rfl rfl ?_
                                refine qb_aload_n hX 103 rfl rfl ?_
                                refine qb_iload hX 104 rfl rfl ?_
                                refine qb_iald hX 105 rfl hp3 (fun x26 => ?_)
                                refine qb_iadd hX 106 rfl ?_
                                exact qb_exit (fun σ h => qj_wk (ρ' := [some (.ref (qx_ad X this)), some (.int p1), some (.int p2), some (.ref (qx_ad X p3)), some (.int s7.1), some (.int x4), some (.int s7.2), none, some (.int x17), some (.int s19), none]) (qw_s (qw_s (qw_s (qw_s (qw_s (qw_s (qw_s (qw_n (qw_s (qw_s (qw_n (qw_0)))))))))))) h)
                              ·
                                refine qb_iconst hX 100 0 rfl (by decide) ?_
                                exact qb_exit (fun σ h => qj_goto hX 101 rfl (by decide) (qj_wk (ρ' := [some (.ref (qx_ad X this)), some (.int p1), some (.int p2), some (.ref (qx_ad X p3)), some (.int s7.1), some (.int x4), some (.int s7.2), none, some (.int x17), some (.int s19), none]) (qw_s (qw_s (qw_s (qw_s (qw_s (qw_s (qw_s (qw_n (qw_s (qw_s (qw_n (qw_0)))))))))))) h))
                            · intro s25
                              refine qb_istore hX 107 ([some (.ref (qx_ad X this)), some (.int p1), some (.int p2), some (.ref (qx_ad X p3)), some (.int s7.1), some (.int x4), some (.int s7.2), none, some (.int x17), some (.int s19), some (.int s25)]) rfl (by decide) rfl ?_
                              refine qb_iload hX 108 rfl rfl ?_
                              refine qb_join 232 (fun s27 => [some (.ref (qx_ad X this)), some (.int p1), some (.int p2), some (.ref (qx_ad X p3)), some (.int s7.1), some (.int x4), some (.int s7.2), none, none, none, some (.int s27)]) (fun s27 => []) ?_ ?_
                              ·
                                refine qb_ifle hX 109 232 rfl (by decide) ?_ ?_
                                ·
                                  exact qb_exit (fun σ h => qj_wk (ρ' := [some (.ref (qx_ad X this)), some (.int p1), some (.int p2), some (.ref (qx_ad X p3)), some (.int s7.1), some (.int x4), some (.int s7.2), none, none, none, some (.int s25)]) (qw_s (qw_s (qw_s (qw_s (qw_s (qw_s (qw_s (qw_n (qw_n (qw_n (qw_s (qw_0)))))))))))) h)
                                ·
                                  refine qb_iload hX 110 rfl rfl ?_
                                  refine qb_iload hX 111 rfl rfl ?_
                                  refine qb_isub hX 112 rfl ?_
                                  refine qb_aload_n hX 113 rfl rfl ?_
                                  refine qb_iload hX 114 rfl rfl ?_
                                  refine qb_iald hX 115 rfl hp3 (fun x28 => ?_)
                                  refine qb_aload_n hX 116 rfl rfl ?_
                                  refine qb_getR hX 117 rfl fl_Fitter_15 hthis rfl ?_
                                  refine qb_getR hX 118 rfl fl_Fitter_125 (kf_Fitter_1 hthis) rfl ?_
                                  refine qb_iload hX 119 rfl rfl ?_
                                  refine qb_iald hX 120 rfl (kf_Flow_14 (kf_Fitter_1 hthis)) (fun x29 => ?_)
                                  refine qb_iconst hX 121 1 rfl (by decide) ?_
                                  refine qb_isub hX 122 rfl ?_
                                  refine qb_mmin hX 123 rfl cv_Fitter_96 (by decide) (by exact Nat.le_of_ble_eq_true rfl) (fun x30 => ?_)
                                  refine qb_iadd hX 124 rfl ?_
                                  refine qb_istoreL hX 125 (fun x31 => [some (.ref (qx_ad X this)), some (.int p1), some (.int p2), some (.ref (qx_ad X p3)), some (.int s7.1), some (.int x4), some (.int s7.2), none, some (.int x17), some (.int s19), some (.int x31)]) rfl (by decide) (fun _ => rfl) (fun x31 => ?_)
                                  exact qb_exit (fun σ h => qj_wk (ρ' := [some (.ref (qx_ad X this)), some (.int p1), some (.int p2), some (.ref (qx_ad X p3)), some (.int s7.1), some (.int x4), some (.int s7.2), none, none, none, some (.int x31)]) (qw_s (qw_s (qw_s (qw_s (qw_s (qw_s (qw_s (qw_n (qw_n (qw_n (qw_s (qw_0)))))))))))) h)
                              · intro s27
                                refine qb_iload hX 126 rfl rfl ?_
                                refine qb_iload hX 127 rfl rfl ?_
                                refine qb_mmax hX 128 rfl cv_Fitter_66 (by decide) (by exact Nat.le_of_ble_eq_true rfl) (fun x32 => ?_)
                                refine qb_istore hX 129 ([some (.ref (qx_ad X this)), some (.int p1), some (.int p2), some (.ref (qx_ad X p3)), some (.int x32), some (.int x4), some (.int s7.2), none, none, none, some (.int s27)]) rfl (by decide) rfl ?_
                                exact qb_exit (fun σ h => qj_wk (ρ' := [some (.ref (qx_ad X this)), some (.int p1), some (.int p2), some (.ref (qx_ad X p3)), some (.int x32), some (.int x4), some (.int s7.2), none, none, none, none]) (qw_s (qw_s (qw_s (qw_s (qw_s (qw_s (qw_s (qw_n (qw_n (qw_n (qw_n (qw_0)))))))))))) h)
                    · intro s13
                      refine qb_iinc hX 130 1 (fun x33 => [some (.ref (qx_ad X this)), some (.int p1), some (.int p2), some (.ref (qx_ad X p3)), some (.int s13), some (.int x4), some (.int x33), none, none, none, none]) rfl (by decide) (by decide) rfl (fun _ => rfl) (fun x33 => ?_)
                      exact qb_exit (fun σ h => qj_goto hX 131 rfl (by decide) (qj_wk (ρ' := [some (.ref (qx_ad X this)), some (.int p1), some (.int p2), some (.ref (qx_ad X p3)), some (.int s13), some (.int x4), some (.int x33), none, none, none, none]) (qw_s (qw_s (qw_s (qw_s (qw_s (qw_s (qw_s (qw_n (qw_n (qw_n (qw_n (qw_0)))))))))))) h))
                  ·
                    exact qb_exit (fun σ h => qj_wk (ρ' := [none, none, none, none, some (.int s7.1), none, none, none, none, none, none]) (qw_n (qw_n (qw_n (qw_n (qw_s (qw_n (qw_n (qw_n (qw_n (qw_n (qw_n (qw_0)))))))))))) h)
            · intro s6
              exact qb_exit (fun σ h => qj_goto hX 57 rfl (by decide) (qj_wk (ρ' := [none, none, none, none, some (.int s6), none, none, none, none, none, none]) (qw_n (qw_n (qw_n (qw_n (qw_s (qw_n (qw_n (qw_n (qw_n (qw_n (qw_n (qw_0)))))))))))) h))
          · intro s5
            refine qb_iload hX 132 rfl rfl ?_
            exact qb_iret hX 133 rfl hR (fun _ h => h)
        ·
          refine qb_iload hX 14 rfl rfl ?_
          exact qb_iret hX 15 rfl hR (fun _ h => h)
theorem jm_Fitter_bearsFrom {l : Launch} {G : qm_G} (hG : qm_GI G) (this : Nat) (p1 : Int32) (p2 : Int32) (p3 : Nat) (hthis : (qm_kd this).1 = 10) (hp3 : (qm_kd p3).1 = 1) : qm_MI l G jy_Fitter_bearsFrom prog_2_method_11_code 11 (some .int) 1 21 [.ref (G.1 this), .int p1, .int p2, .ref (G.1 p3)] (jf_Fitter_bearsFrom this p1 p2 p3) :=
  qm_metI (by decide +kernel) jd_Fitter_bearsFrom (fun v hv => by simp only [List.mem_cons, List.not_mem_nil, or_false] at hv; rcases hv with rfl | rfl | rfl | rfl <;> rfl) (by exact Nat.le_of_ble_eq_true rfl) hG rfl (fun X hl hg hX r0 σ0 hR => by subst hl; subst hg; exact jb_Fitter_bearsFrom hX hR this p1 p2 p3 hthis hp3)
def jl_Fitter_measure : List qm_I := [(0, .iconst 0, 1, 1), (1, .aload_n 0, 1, 2), (2, .getfield 15, 3, 5), (5, .getfield 75, 3, 8), (8, .iload_n 1, 1, 9), (9, .invokestatic 78, 3, 12), (12, .invokestatic 66, 3, 15), (15, .istore 4, 2, 17), (17, .bipush 90, 2, 19), (19, .aload_n 0, 1, 20), (20, .getfield 15, 3, 23), (23, .getfield 93, 3, 26), (26, .iload_n 1, 1, 27), (27, .invokestatic 78, 3, 30), (30, .invokestatic 96, 3, 33), (33, .istore 5, 2, 35), (35, .iload_n 1, 1, 36), (36, .aload_n 0, 1, 37), (37, .getfield 48, 3, 40), (40, .if_icmp .ne 11, 3, 43), (43, .iload_n 3, 1, 44), (44, .aload_n 0, 1, 45), (45, .getfield 99, 3, 48), (48, .if_icmp .eq 56, 3, 51), (51, .aload_n 0, 1, 52), (52, .iload_n 1, 1, 53), (53, .putfield 48, 3, 56), (56, .aload_n 0, 1, 57), (57, .iload_n 3, 1, 58), (58, .putfield 99, 3, 61), (61, .aload_n 0, 1, 62), (62, .iconst 0, 1, 63), (63, .putfield 102, 3, 66), (66, .iload 4, 2, 68), (68, .istore 6, 2, 70), (70, .iload 6, 2, 72), (72, .iload 5, 2, 74), (74, .if_icmp .gt 30, 3, 77), (77, .aload_n 0, 1, 78), (78, .getfield 21, 3, 81), (81, .iconst 0, 1, 82), (82, .aaload, 1, 83), (83, .iload 6, 2, 85), (85, .iload 6, 2, 87), (87, .iload 5, 2, 89), (89, .if_icmp .ne 7, 3, 92), (92, .iconst 0, 1, 93), (93, .goto 4, 3, 96), (96, .iconst (-1), 1, 97), (97, .iastore, 1, 98), (98, .iinc 6 1, 3, 101), (101, .goto (-31), 3, 104), (104, .aload_n 0, 1, 105), (105, .getfield 102, 3, 108), (108, .iload_n 2, 1, 109), (109, .if_icmp .ge 95, 3, 112), (112, .aload_n 0, 1, 113), (113, .getfield 102, 3, 116), (116, .iconst 5, 1, 117), (117, .if_icmp .ge 87, 3, 120), (120, .aload_n 0, 1, 121), (121, .getfield 21, 3, 124), (124, .aload_n 0, 1, 125), (125, .getfield 102, 3, 128), (128, .aaload, 1, 129), (129, .astore 6, 2, 131), (131, .aload_n 0, 1, 132), (132, .dup, 1, 133), (133, .getfield 102, 3, 136), (136, .iconst 1, 1, 137), (137, .iadd, 1, 138), (138, .putfield 102, 3, 141), (141, .aload_n 0, 1, 142), (142, .getfield 21, 3, 145), (145, .aload_n 0, 1, 146), (146, .getfield 102, 3, 149), (149, .aaload, 1, 150), (150, .astore 7, 2, 152), (152, .iload 4, 2, 154), (154, .istore 8, 2, 156), (156, .iload 8, 2, 158), (158, .iload 5, 2, 160), (160, .if_icmp .gt 41, 3, 163), (163, .aload 7, 2, 165), (165, .iload 8, 2, 167), (167, .aload_n 0, 1, 168), (168, .getfield 15, 3, 171), (171, .getfield 105, 3, 174), (174, .iload 8, 2, 176), (176, .baload, 1, 177), (177, .ifCond .eq 16, 3, 180), (180, .aload_n 0, 1, 181), (181, .iload 8, 2, 183), (183, .iload 5, 2, 185), (185, .aload 6, 2, 187), (187, .invokevirtual 109, 3, 190), (190, .goto 4, 3, 193), (193, .iconst (-1), 1, 194), (194, .iastore, 1, 195), (195, .iinc 8 1, 3, 198), (198, .goto (-42), 3, 201), (201, .goto (-97), 3, 204), (204, .return_, 1, 205)]
theorem jd_Fitter_measure : qm_D prog_2_method_10_code jl_Fitter_measure := qm_D_of (by decide +kernel)
noncomputable def jf_Fitter_measure (this : Nat) (p1 : Int32) (p2 : Int32) (p3 : Int32) : qm_M Unit :=
  mB (jf_Top_at (qm_rf (qm_rf this 1) 16) p1) fun x1 =>
  mB (jf_Math_max 0 x1) fun x2 =>
  mB (jf_Top_at (qm_rf (qm_rf this 1) 17) p1) fun x3 =>
  mB (jf_Math_min 90 x3) fun x4 =>
  mB (mGt this 5) fun x5 =>
  mB (α := Unit) (
    mB (α := (Unit ⊕ Unit)) (
      if ¬ p1 = x5 then
        mP (Sum.inl ())
      else
        mB (mGt this 6) fun x8 =>
        if p3 = x8 then
          mP (Sum.inr ())
        else
          mP (Sum.inl ())) (Sum.elim (fun s7 =>
      mB (mPt this 5 p1) fun _ =>
      mB (mPt this 6 p3) fun _ =>
      mB (mPt this 7 0) fun _ =>
      mW (S := Int32) (α := Unit) (fun s9 =>
        if x4 < s9 then
          mP (Sum.inr ())
        else
          mB (mLr (qm_rf this 4) 0) fun r10 =>
          mB (α := Int32) (
            if ¬ s9 = x4 then
              mP (-1)
            else
              mP 0) fun s11 =>
          mB (mSt r10 s9 s11) fun _ =>
          mB (mP (s9 + 1)) fun x12 =>
          mP (Sum.inl x12)) x2) mP)) fun s6 =>
  mB (α := Unit) (
    mW (S := Unit) (α := Unit) (fun s14 =>
      mB (mGt this 7) fun x15 =>
      if p2 ≤ x15 then
        mP (Sum.inr ())
      else
        mB (mGt this 7) fun x16 =>
        if 5 ≤ x16 then
          mP (Sum.inr ())
        else
          mB (mGt this 7) fun x17 =>
          mB (mLr (qm_rf this 4) x17) fun r18 =>
          mB (mGt this 7) fun x19 =>
          mB (mPt this 7 (x19 + 1)) fun _ =>
          mB (mGt this 7) fun x20 =>
          mB (mLr (qm_rf this 4) x20) fun r21 =>
          mB (α := Unit) (
            mW (S := Int32) (α := Unit) (fun s23 =>
              if x4 < s23 then
                mP (Sum.inr ())
              else
                mB (mLd (qm_rf (qm_rf this 1) 15) s23) fun x24 =>
                mB (α := Int32) (
                  if x24 = 0 then
                    mP (-1)
                  else
                    mB (jf_Fitter_bearsFrom this s23 x4 r18) fun x26 =>
                    mP x26) fun s25 =>
                mB (mSt r21 s23 s25) fun _ =>
                mB (mP (s23 + 1)) fun x27 =>
                mP (Sum.inl x27)) x2) fun s22 =>
          mP (Sum.inl ())) ()) fun s13 =>
  mP ()
set_option maxRecDepth 20000 in
set_option maxHeartbeats 4000000 in
theorem jb_Fitter_measure {X : qm_X} (hX : qm_ok X qr_Fitter prog_2_method_10_code 9 2 51 jl_Fitter_measure) {σ0 : qm_Mem} (hR : qm_RV X σ0) (this : Nat) (p1 : Int32) (p2 : Int32) (p3 : Int32) (hthis : (qm_kd this).1 = 10) : qm_B X (jf_Fitter_measure this p1 p2 p3) 0 [some (.ref (qx_ad X this)), some (.int p1), some (.int p2), some (.int p3), none, none, none, none, none] [] (fun _ σ1 => σ1 = σ0) := by
  unfold jf_Fitter_measure
  refine qb_iconst hX 0 0 rfl (by decide) ?_
  refine qb_aload_n hX 1 rfl rfl ?_
  refine qb_getR hX 2 rfl fl_Fitter_15 hthis rfl ?_
  refine qb_getR hX 3 rfl fl_Fitter_75 (kf_Fitter_1 hthis) rfl ?_
  refine qb_iload_n hX 4 rfl rfl ?_
  refine qb_calNI hX 5 rfl cv_Fitter_78 (jm_Top_at (qk_GI hX) (qm_rf (qm_rf this 1) 16) p1 (kf_Flow_16 (kf_Fitter_1 hthis))) ⟨rfl, by decide, by decide⟩ rfl (by exact Nat.le_of_ble_eq_true rfl) (fun x1 => ?_)
  refine qb_mmax hX 6 rfl cv_Fitter_66 (by decide) (by exact Nat.le_of_ble_eq_true rfl) (fun x2 => ?_)
  refine qb_istore hX 7 ([some (.ref (qx_ad X this)), some (.int p1), some (.int p2), some (.int p3), some (.int x2), none, none, none, none]) rfl (by decide) rfl ?_
  refine qb_bipush hX 8 90 rfl (by decide) ?_
  refine qb_aload_n hX 9 rfl rfl ?_
  refine qb_getR hX 10 rfl fl_Fitter_15 hthis rfl ?_
  refine qb_getR hX 11 rfl fl_Fitter_93 (kf_Fitter_1 hthis) rfl ?_
  refine qb_iload_n hX 12 rfl rfl ?_
  refine qb_calNI hX 13 rfl cv_Fitter_78 (jm_Top_at (qk_GI hX) (qm_rf (qm_rf this 1) 17) p1 (kf_Flow_17 (kf_Fitter_1 hthis))) ⟨rfl, by decide, by decide⟩ rfl (by exact Nat.le_of_ble_eq_true rfl) (fun x3 => ?_)
  refine qb_mmin hX 14 rfl cv_Fitter_96 (by decide) (by exact Nat.le_of_ble_eq_true rfl) (fun x4 => ?_)
  refine qb_istore hX 15 ([some (.ref (qx_ad X this)), some (.int p1), some (.int p2), some (.int p3), some (.int x2), some (.int x4), none, none, none]) rfl (by decide) rfl ?_
  refine qb_iload_n hX 16 rfl rfl ?_
  refine qb_aload_n hX 17 rfl rfl ?_
  refine qb_get hX 18 rfl fl_Fitter_48 hthis rfl (fun x5 => ?_)
  refine qb_join 104 (fun s6 => [some (.ref (qx_ad X this)), none, some (.int p2), none, some (.int x2), some (.int x4), none, none, none]) (fun s6 => []) ?_ ?_
  ·
    refine qb_join2 51 (fun s7 => [some (.ref (qx_ad X this)), some (.int p1), some (.int p2), some (.int p3), some (.int x2), some (.int x4), none, none, none]) (fun s7 => []) ?_ ?_
    ·
      refine qb_icne hX 19 51 rfl (by decide) ?_ ?_
      ·
        exact qb_exit (fun σ h => qj_wk (ρ' := [some (.ref (qx_ad X this)), some (.int p1), some (.int p2), some (.int p3), some (.int x2), some (.int x4), none, none, none]) (qw_s (qw_s (qw_s (qw_s (qw_s (qw_s (qw_n (qw_n (qw_n (qw_0)))))))))) h)
      ·
        refine qb_iload_n hX 20 rfl rfl ?_
        refine qb_aload_n hX 21 rfl rfl ?_
        refine qb_get hX 22 rfl fl_Fitter_99 hthis rfl (fun x8 => ?_)
        refine qb_iceq hX 23 104 rfl (by decide) ?_ ?_
        ·
          exact qb_exit (fun σ h => qj_wk (ρ' := [some (.ref (qx_ad X this)), none, some (.int p2), none, some (.int x2), some (.int x4), none, none, none]) (qw_s (qw_n (qw_s (qw_n (qw_s (qw_s (qw_n (qw_n (qw_n (qw_0)))))))))) h)
        ·
          exact qb_exit (fun σ h => qj_wk (ρ' := [some (.ref (qx_ad X this)), some (.int p1), some (.int p2), some (.int p3), some (.int x2), some (.int x4), none, none, none]) (qw_s (qw_s (qw_s (qw_s (qw_s (qw_s (qw_n (qw_n (qw_n (qw_0)))))))))) h)
    · intro s7
      refine qb_aload_n hX 24 rfl rfl ?_
      refine qb_iload_n hX 25 rfl rfl ?_
      refine qb_put hX 26 rfl fp_Fitter_48 hthis ?_
      refine qb_aload_n hX 27 rfl rfl ?_
      refine qb_iload_n hX 28 rfl rfl ?_
      refine qb_put hX 29 rfl fp_Fitter_99 hthis ?_
      refine qb_aload_n hX 30 rfl rfl ?_
      refine qb_iconst hX 31 0 rfl (by decide) ?_
      refine qb_put hX 32 rfl fp_Fitter_102 hthis ?_
      refine qb_iload hX 33 rfl rfl ?_
      refine qb_istore hX 34 ([some (.ref (qx_ad X this)), some (.int p1), some (.int p2), some (.int p3), some (.int x2), some (.int x4), some (.int x2), none, none]) rfl (by decide) rfl ?_
      refine qb_loopw (x2) (fun s9 => [some (.ref (qx_ad X this)), none, some (.int p2), none, some (.int x2), some (.int x4), some (.int s9), none, none]) (qw_s (qw_n (qw_s (qw_n (qw_s (qw_s (qw_s (qw_n (qw_n (qw_0)))))))))) (fun s9 => ?_)
      refine qb_iload hX 35 rfl rfl ?_
      refine qb_iload hX 36 rfl rfl ?_
      refine qb_icgt hX 37 104 rfl (by decide) ?_ ?_
      ·
        exact qb_exit (fun σ h => qj_wk (ρ' := [some (.ref (qx_ad X this)), none, some (.int p2), none, some (.int x2), some (.int x4), none, none, none]) (qw_s (qw_n (qw_s (qw_n (qw_s (qw_s (qw_n (qw_n (qw_n (qw_0)))))))))) h)
      ·
        refine qb_aload_n hX 38 rfl rfl ?_
        refine qb_getR hX 39 rfl fl_Fitter_21 hthis rfl ?_
        refine qb_iconst hX 40 0 rfl (by decide) ?_
        refine qb_aald hX 41 rfl (Or.inl (kf_Fitter_4 hthis)) (ka_4 (kf_Fitter_4 hthis)) (fun r10 hr10 => ?_)
        refine qb_iload hX 42 rfl rfl ?_
        refine qb_iload hX 43 rfl rfl ?_
        refine qb_iload hX 44 rfl rfl ?_
        refine qb_join 97 (fun s11 => [some (.ref (qx_ad X this)), none, some (.int p2), none, some (.int x2), some (.int x4), some (.int s9), none, none]) (fun s11 => [.int s11, .int s9, .ref (qx_ad X r10)]) ?_ ?_
        ·
          refine qb_icne hX 45 96 rfl (by decide) ?_ ?_
          ·
            refine qb_iconst hX 48 (-1) rfl (by decide) ?_
            exact qb_exit (fun σ h => qj_wk (ρ' := [some (.ref (qx_ad X this)), none, some (.int p2), none, some (.int x2), some (.int x4), some (.int s9), none, none]) (qw_s (qw_n (qw_s (qw_n (qw_s (qw_s (qw_s (qw_n (qw_n (qw_0)))))))))) h)
          ·
            refine qb_iconst hX 46 0 rfl (by decide) ?_
            exact qb_exit (fun σ h => qj_goto hX 47 rfl (by decide) (qj_wk (ρ' := [some (.ref (qx_ad X this)), none, some (.int p2), none, some (.int x2), some (.int x4), some (.int s9), none, none]) (qw_s (qw_n (qw_s (qw_n (qw_s (qw_s (qw_s (qw_n (qw_n (qw_0)))))))))) h))
        · intro s11
          refine qb_iast hX 49 rfl hr10 ?_
          refine qb_iinc hX 50 1 (fun x12 => [some (.ref (qx_ad X this)), none, some (.int p2), none, some (.int x2), some (.int x4), some (.int x12), none, none]) rfl (by decide) (by decide) rfl (fun _ => rfl) (fun x12 => ?_)
          exact qb_exit (fun σ h => qj_goto hX 51 rfl (by decide) (qj_wk (ρ' := [some (.ref (qx_ad X this)), none, some (.int p2), none, some (.int x2), some (.int x4), some (.int x12), none, none]) (qw_s (qw_n (qw_s (qw_n (qw_s (qw_s (qw_s (qw_n (qw_n (qw_0)))))))))) h))
  · intro s6
    refine qb_join 204 (fun s13 => [none, none, none, none, none, none, none, none, none]) (fun s13 => []) ?_ ?_
    ·
      refine qb_loopw (()) (fun s14 => [some (.ref (qx_ad X this)), none, some (.int p2), none, some (.int x2), some (.int x4), none, none, none]) (qw_s (qw_n (qw_s (qw_n (qw_s (qw_s (qw_n (qw_n (qw_n (qw_0)))))))))) (fun s14 => ?_)
      refine qb_aload_n hX 52 rfl rfl ?_
      refine qb_get hX 53 rfl fl_Fitter_102 hthis rfl (fun x15 => ?_)
      refine qb_iload_n hX 54 rfl rfl ?_
      refine qb_icge hX 55 204 rfl (by decide) ?_ ?_
      ·
        exact qb_exit (fun σ h => qj_wk (ρ' := [none, none, none, none, none, none, none, none, none]) (qw_n (qw_n (qw_n (qw_n (qw_n (qw_n (qw_n (qw_n (qw_n (qw_0)))))))))) h)
      ·
        refine qb_aload_n hX 56 rfl rfl ?_
        refine qb_get hX 57 rfl fl_Fitter_102 hthis rfl (fun x16 => ?_)
        refine qb_iconst hX 58 5 rfl (by decide) ?_
        refine qb_icge hX 59 204 rfl (by decide) ?_ ?_
        ·
          exact qb_exit (fun σ h => qj_wk (ρ' := [none, none, none, none, none, none, none, none, none]) (qw_n (qw_n (qw_n (qw_n (qw_n (qw_n (qw_n (qw_n (qw_n (qw_0)))))))))) h)
        ·
          refine qb_aload_n hX 60 rfl rfl ?_
          refine qb_getR hX 61 rfl fl_Fitter_21 hthis rfl ?_
          refine qb_aload_n hX 62 rfl rfl ?_
          refine qb_get hX 63 rfl fl_Fitter_102 hthis rfl (fun x17 => ?_)
          refine qb_aald hX 64 rfl (Or.inl (kf_Fitter_4 hthis)) (ka_4 (kf_Fitter_4 hthis)) (fun r18 hr18 => ?_)
          refine qb_astore hX 65 ([some (.ref (qx_ad X this)), none, some (.int p2), none, some (.int x2), some (.int x4), some (.ref (qx_ad X r18)), none, none]) rfl (by decide) rfl ?_
          refine qb_aload_n hX 66 rfl rfl ?_
          refine qb_dup hX 67 rfl rfl ?_
          refine qb_get hX 68 rfl fl_Fitter_102 hthis rfl (fun x19 => ?_)
          refine qb_iconst hX 69 1 rfl (by decide) ?_
          refine qb_iadd hX 70 rfl ?_
          refine qb_put hX 71 rfl fp_Fitter_102 hthis ?_
          refine qb_aload_n hX 72 rfl rfl ?_
          refine qb_getR hX 73 rfl fl_Fitter_21 hthis rfl ?_
          refine qb_aload_n hX 74 rfl rfl ?_
          refine qb_get hX 75 rfl fl_Fitter_102 hthis rfl (fun x20 => ?_)
          refine qb_aald hX 76 rfl (Or.inl (kf_Fitter_4 hthis)) (ka_4 (kf_Fitter_4 hthis)) (fun r21 hr21 => ?_)
          refine qb_astore hX 77 ([some (.ref (qx_ad X this)), none, some (.int p2), none, some (.int x2), some (.int x4), some (.ref (qx_ad X r18)), some (.ref (qx_ad X r21)), none]) rfl (by decide) rfl ?_
          refine qb_iload hX 78 rfl rfl ?_
          refine qb_istore hX 79 ([some (.ref (qx_ad X this)), none, some (.int p2), none, some (.int x2), some (.int x4), some (.ref (qx_ad X r18)), some (.ref (qx_ad X r21)), some (.int x2)]) rfl (by decide) rfl ?_
          refine qb_join 201 (fun s22 => [some (.ref (qx_ad X this)), none, some (.int p2), none, some (.int x2), some (.int x4), none, none, none]) (fun s22 => []) ?_ ?_
          ·
            refine qb_loopw (x2) (fun s23 => [some (.ref (qx_ad X this)), none, some (.int p2), none, some (.int x2), some (.int x4), some (.ref (qx_ad X r18)), some (.ref (qx_ad X r21)), some (.int s23)]) (qw_s (qw_n (qw_s (qw_n (qw_s (qw_s (qw_s (qw_s (qw_s (qw_0)))))))))) (fun s23 => ?_)
            refine qb_iload hX 80 rfl rfl ?_
            refine qb_iload hX 81 rfl rfl ?_
            refine qb_icgt hX 82 201 rfl (by decide) ?_ ?_
            ·
              exact qb_exit (fun σ h => qj_wk (ρ' := [some (.ref (qx_ad X this)), none, some (.int p2), none, some (.int x2), some (.int x4), none, none, none]) (qw_s (qw_n (qw_s (qw_n (qw_s (qw_s (qw_n (qw_n (qw_n (qw_0)))))))))) h)
            ·
              refine qb_aload hX 83 rfl rfl ?_
              refine qb_iload hX 84 rfl rfl ?_
              refine qb_aload_n hX 85 rfl rfl ?_
              refine qb_getR hX 86 rfl fl_Fitter_15 hthis rfl ?_
              refine qb_getR hX 87 rfl fl_Fitter_105 (kf_Fitter_1 hthis) rfl ?_
              refine qb_iload hX 88 rfl rfl ?_
              refine qb_zald hX 89 rfl (kf_Flow_15 (kf_Fitter_1 hthis)) (fun x24 => ?_)
              refine qb_join 194 (fun s25 => [some (.ref (qx_ad X this)), none, some (.int p2), none, some (.int x2), some (.int x4), some (.ref (qx_ad X r18)), some (.ref (qx_ad X r21)), some (.int s23)]) (fun s25 => [.int s25, .int s23, .ref (qx_ad X r21)]) ?_ ?_
              ·
                refine qb_ifeq hX 90 193 rfl (by decide) ?_ ?_
                ·
                  refine qb_iconst hX 97 (-1) rfl (by decide) ?_
                  exact qb_exit (fun σ h => qj_wk (ρ' := [some (.ref (qx_ad X this)), none, some (.int p2), none, some (.int x2), some (.int x4), some (.ref (qx_ad X r18)), some (.ref (qx_ad X r21)), some (.int s23)]) (qw_s (qw_n (qw_s (qw_n (qw_s (qw_s (qw_s (qw_s (qw_s (qw_0)))))))))) h)
                ·
                  refine qb_aload_n hX 91 rfl rfl ?_
                  refine qb_iload hX 92 rfl rfl ?_
                  refine qb_iload hX 93 rfl rfl ?_
                  refine qb_aload hX 94 rfl rfl ?_
                  refine qb_callI hX 95 rfl cv_Fitter_109 (jm_Fitter_bearsFrom (qk_GI hX) this s23 x4 r18 hthis hr18) (ci := 0) hthis ⟨rfl, rfl, rfl, by decide, by decide⟩ rfl (by exact Nat.le_of_ble_eq_true rfl) (fun x26 => ?_)
                  exact qb_exit (fun σ h => qj_goto hX 96 rfl (by decide) (qj_wk (ρ' := [some (.ref (qx_ad X this)), none, some (.int p2), none, some (.int x2), some (.int x4), some (.ref (qx_ad X r18)), some (.ref (qx_ad X r21)), some (.int s23)]) (qw_s (qw_n (qw_s (qw_n (qw_s (qw_s (qw_s (qw_s (qw_s (qw_0)))))))))) h))
              · intro s25
                refine qb_iast hX 98 rfl hr21 ?_
                refine qb_iinc hX 99 1 (fun x27 => [some (.ref (qx_ad X this)), none, some (.int p2), none, some (.int x2), some (.int x4), some (.ref (qx_ad X r18)), some (.ref (qx_ad X r21)), some (.int x27)]) rfl (by decide) (by decide) rfl (fun _ => rfl) (fun x27 => ?_)
                exact qb_exit (fun σ h => qj_goto hX 100 rfl (by decide) (qj_wk (ρ' := [some (.ref (qx_ad X this)), none, some (.int p2), none, some (.int x2), some (.int x4), some (.ref (qx_ad X r18)), some (.ref (qx_ad X r21)), some (.int x27)]) (qw_s (qw_n (qw_s (qw_n (qw_s (qw_s (qw_s (qw_s (qw_s (qw_0)))))))))) h))
          · intro s22
            exact qb_exit (fun σ h => qj_goto hX 101 rfl (by decide) (qj_wk (ρ' := [some (.ref (qx_ad X this)), none, some (.int p2), none, some (.int x2), some (.int x4), none, none, none]) (qw_s (qw_n (qw_s (qw_n (qw_s (qw_s (qw_n (qw_n (qw_n (qw_0)))))))))) h))
    · intro s13
      exact qb_vret hX 102 rfl hR (fun _ h => h)
theorem jm_Fitter_measure {l : Launch} {G : qm_G} (hG : qm_GI G) (this : Nat) (p1 : Int32) (p2 : Int32) (p3 : Int32) (hthis : (qm_kd this).1 = 10) : qm_MV l G jy_Fitter_measure prog_2_method_10_code 9 2 51 [.ref (G.1 this), .int p1, .int p2, .int p3] (jf_Fitter_measure this p1 p2 p3) :=
  qm_metV (by decide +kernel) jd_Fitter_measure (fun v hv => by simp only [List.mem_cons, List.not_mem_nil, or_false] at hv; rcases hv with rfl | rfl | rfl | rfl <;> rfl) (by exact Nat.le_of_ble_eq_true rfl) hG (fun X hl hg hX σ0 hR => by subst hl; subst hg; exact jb_Fitter_measure hX hR this p1 p2 p3 hthis)
def jl_Fitter_leastFrom : List qm_I := [(0, .aload_n 0, 1, 1), (1, .iload_n 1, 1, 2), (2, .iload_n 2, 1, 3), (3, .iload_n 3, 1, 4), (4, .invokevirtual 89, 3, 7), (7, .istore 5, 2, 9), (9, .iload 5, 2, 11), (11, .iconst (-1), 1, 12), (12, .if_icmp .ne 7, 3, 15), (15, .iconst (-1), 1, 16), (16, .goto 12, 3, 19), (19, .aload_n 0, 1, 20), (20, .getfield 24, 3, 23), (23, .iload 5, 2, 25), (25, .invokestatic 78, 3, 28), (28, .istore 6, 2, 30), (30, .iload 6, 2, 32), (32, .iconst (-1), 1, 33), (33, .if_icmp .eq 18, 3, 36), (36, .iload 6, 2, 38), (38, .iload 4, 2, 40), (40, .if_icmp .gt 8, 3, 43), (43, .iload 6, 2, 45), (45, .goto 5, 3, 48), (48, .bipush (-2), 2, 50), (50, .ireturn, 1, 51), (51, .aload_n 0, 1, 52), (52, .getfield 9, 3, 55), (55, .iconst 0, 1, 56), (56, .invokevirtual 35, 3, 59), (59, .istore 7, 2, 61), (61, .aload_n 0, 1, 62), (62, .iload_n 1, 1, 63), (63, .iload 7, 2, 65), (65, .iload 4, 2, 67), (67, .invokevirtual 71, 3, 70), (70, .aload_n 0, 1, 71), (71, .iload 7, 2, 73), (73, .iload_n 2, 1, 74), (74, .invokevirtual 82, 3, 77), (77, .iload_n 3, 1, 78), (78, .if_icmp .ge 6, 3, 81), (81, .bipush (-2), 2, 83), (83, .ireturn, 1, 84), (84, .iconst 0, 1, 85), (85, .istore 8, 2, 87), (87, .iload 4, 2, 89), (89, .istore 6, 2, 91), (91, .iconst 0, 1, 92), (92, .istore 9, 2, 94), (94, .iload 9, 2, 96), (96, .sipush 2000, 3, 99), (99, .if_icmp .ge 58, 3, 102), (102, .iload 8, 2, 104), (104, .iload 6, 2, 106), (106, .if_icmp .ge 51, 3, 109), (109, .iload 8, 2, 111), (111, .iload 6, 2, 113), (113, .iadd, 1, 114), (114, .iconst 2, 1, 115), (115, .idiv, 1, 116), (116, .istore 10, 2, 118), (118, .aload_n 0, 1, 119), (119, .iload_n 1, 1, 120), (120, .iload 7, 2, 122), (122, .iload 10, 2, 124), (124, .invokevirtual 71, 3, 127), (127, .aload_n 0, 1, 128), (128, .iload 7, 2, 130), (130, .iload_n 2, 1, 131), (131, .invokevirtual 82, 3, 134), (134, .iload_n 3, 1, 135), (135, .if_icmp .lt 10, 3, 138), (138, .iload 10, 2, 140), (140, .istore 6, 2, 142), (142, .goto 9, 3, 145), (145, .iload 10, 2, 147), (147, .iconst 1, 1, 148), (148, .iadd, 1, 149), (149, .istore 8, 2, 151), (151, .iinc 9 1, 3, 154), (154, .goto (-60), 3, 157), (157, .iload 5, 2, 159), (159, .ifCond .lt 27, 3, 162), (162, .iload 5, 2, 164), (164, .aload_n 0, 1, 165), (165, .getfield 24, 3, 168), (168, .arraylength, 1, 169), (169, .if_icmp .ge 17, 3, 172), (172, .aload_n 0, 1, 173), (173, .getfield 24, 3, 176), (176, .iload 5, 2, 178), (178, .iload 6, 2, 180), (180, .iastore, 1, 181), (181, .aload_n 0, 1, 182), (182, .iconst 1, 1, 183), (183, .putfield 28, 3, 186), (186, .iload 6, 2, 188), (188, .ireturn, 1, 189)]
theorem jd_Fitter_leastFrom : qm_D prog_2_method_8_code jl_Fitter_leastFrom := qm_D_of (by decide +kernel)
noncomputable def jf_Fitter_leastFrom (this : Nat) (p1 : Int32) (p2 : Int32) (p3 : Int32) (p4 : Int32) : qm_M Int32 :=
  mB (jf_Fitter_slotOf this p1 p2 p3) fun x1 =>
  mB (α := Int32) (
    if ¬ x1 = (-1) then
      mB (jf_Top_at (qm_rf this 8) x1) fun x3 =>
      mP x3
    else
      mP (-1)) fun s2 =>
  if s2 = (-1) then
    mB (jf_Run_setting (qm_rf this 0) 0) fun x4 =>
    mB (jf_Fitter_measure this p1 x4 p4) fun _ =>
    mB (jf_Fitter_bearsAt this x4 p2) fun x5 =>
    if p3 ≤ x5 then
      mB (α := Int32) (
        mW (S := Int32 × Int32 × Int32) (α := Int32) (fun s7 =>
          if 2000 ≤ s7.2.2 then
            mP (Sum.inr s7.1)
          else
            if s7.1 ≤ s7.2.1 then
              mP (Sum.inr s7.1)
            else
              mB (mDv (s7.2.1 + s7.1) 2) fun x8 =>
              mB (jf_Fitter_measure this p1 x4 x8) fun _ =>
              mB (jf_Fitter_bearsAt this x4 p2) fun x9 =>
              mB (α := Int32 × Int32) (
                if x9 < p3 then
                  mB (mP (x8 + 1)) fun x11 =>
                  mP (s7.1, x11)
                else
                  mP (x8, s7.2.1)) fun s10 =>
              mB (mP (s7.2.2 + 1)) fun x12 =>
              mP (Sum.inl (s10.1, s10.2, x12))) (p4, 0, 0)) fun s6 =>
      if x1 < 0 then
        mP s6
      else
        if (Int32.ofNat (qm_kd (qm_rf this 8)).2) ≤ x1 then
          mP s6
        else
          mB (mSt (qm_rf this 8) x1 s6) fun _ =>
          mB (mPz this 9 1) fun _ =>
          mP s6
    else
      mP (-2)
  else
    if p4 < s2 then
      mP (-2)
    else
      mP s2
set_option maxRecDepth 20000 in
set_option maxHeartbeats 4000000 in
theorem jb_Fitter_leastFrom {X : qm_X} (hX : qm_ok X qr_Fitter prog_2_method_8_code 11 3 79 jl_Fitter_leastFrom) {r0 : Int32} {σ0 : qm_Mem} (hR : qm_RI X r0 σ0 .int) (this : Nat) (p1 : Int32) (p2 : Int32) (p3 : Int32) (p4 : Int32) (hthis : (qm_kd this).1 = 10) : qm_B X (jf_Fitter_leastFrom this p1 p2 p3 p4) 0 [some (.ref (qx_ad X this)), some (.int p1), some (.int p2), some (.int p3), some (.int p4), none, none, none, none, none, none] [] (fun r σ1 => r = r0 ∧ σ1 = σ0) := by
  unfold jf_Fitter_leastFrom
  refine qb_aload_n hX 0 rfl rfl ?_
  refine qb_iload_n hX 1 rfl rfl ?_
  refine qb_iload_n hX 2 rfl rfl ?_
  refine qb_iload_n hX 3 rfl rfl ?_
  refine qb_callI hX 4 rfl cv_Fitter_89 (jm_Fitter_slotOf (qk_GI hX) this p1 p2 p3 hthis ) (ci := 0) hthis ⟨rfl, rfl, rfl, by decide, by decide⟩ rfl (by exact Nat.le_of_ble_eq_true rfl) (fun x1 => ?_)
  refine qb_istore hX 5 ([some (.ref (qx_ad X this)), some (.int p1), some (.int p2), some (.int p3), some (.int p4), some (.int x1), none, none, none, none, none]) rfl (by decide) rfl ?_
  refine qb_iload hX 6 rfl rfl ?_
  refine qb_iconst hX 7 (-1) rfl (by decide) ?_
  refine qb_join 28 (fun s2 => [some (.ref (qx_ad X this)), some (.int p1), some (.int p2), some (.int p3), some (.int p4), some (.int x1), none, none, none, none, none]) (fun s2 => [.int s2]) ?_ ?_
  ·
    refine qb_icne hX 8 19 rfl (by decide) ?_ ?_
    ·
      refine qb_aload_n hX 11 rfl rfl ?_
      refine qb_getR hX 12 rfl fl_Fitter_24 hthis rfl ?_
      refine qb_iload hX 13 rfl rfl ?_
      refine qb_calNI hX 14 rfl cv_Fitter_78 (jm_Top_at (qk_GI hX) (qm_rf this 8) x1 (kf_Fitter_8 hthis)) ⟨rfl, by decide, by decide⟩ rfl (by exact Nat.le_of_ble_eq_true rfl) (fun x3 => ?_)
      exact qb_exit (fun σ h => qj_wk (ρ' := [some (.ref (qx_ad X this)), some (.int p1), some (.int p2), some (.int p3), some (.int p4), some (.int x1), none, none, none, none, none]) (qw_s (qw_s (qw_s (qw_s (qw_s (qw_s (qw_n (qw_n (qw_n (qw_n (qw_n (qw_0)))))))))))) h)
    ·
      refine qb_iconst hX 9 (-1) rfl (by decide) ?_
      exact qb_exit (fun σ h => qj_goto hX 10 rfl (by decide) (qj_wk (ρ' := [some (.ref (qx_ad X this)), some (.int p1), some (.int p2), some (.int p3), some (.int p4), some (.int x1), none, none, none, none, none]) (qw_s (qw_s (qw_s (qw_s (qw_s (qw_s (qw_n (qw_n (qw_n (qw_n (qw_n (qw_0)))))))))))) h))
  · intro s2
    refine qb_istore hX 15 ([some (.ref (qx_ad X this)), some (.int p1), some (.int p2), some (.int p3), some (.int p4), some (.int x1), some (.int s2), none, none, none, none]) rfl (by decide) rfl ?_
    refine qb_iload hX 16 rfl rfl ?_
    refine qb_iconst hX 17 (-1) rfl (by decide) ?_
    refine qb_iceq hX 18 51 rfl (by decide) ?_ ?_
    ·
      refine qb_aload_n hX 26 rfl rfl ?_
      refine qb_getR hX 27 rfl fl_Fitter_9 hthis rfl ?_
      refine qb_iconst hX 28 0 rfl (by decide) ?_
      refine qb_callI hX 29 rfl cv_Fitter_35 (jm_Run_setting (qk_GI hX) (qm_rf this 0) 0 (kf_Fitter_0 hthis) ) (ci := 4) (kf_Fitter_0 hthis) ⟨rfl, rfl, rfl, by decide, by decide⟩ rfl (by exact Nat.le_of_ble_eq_true rfl) (fun x4 => ?_)
      refine qb_istore hX 30 ([some (.ref (qx_ad X this)), some (.int p1), some (.int p2), some (.int p3), some (.int p4), some (.int x1), some (.int s2), some (.int x4), none, none, none]) rfl (by decide) rfl ?_
      refine qb_aload_n hX 31 rfl rfl ?_
      refine qb_iload_n hX 32 rfl rfl ?_
      refine qb_iload hX 33 rfl rfl ?_
      refine qb_iload hX 34 rfl rfl ?_
      refine qb_callV hX 35 rfl cv_Fitter_71 (jm_Fitter_measure (qk_GI hX) this p1 x4 p4 hthis ) (ci := 0) hthis ⟨rfl, rfl, rfl, by decide, by decide⟩ rfl (by exact Nat.le_of_ble_eq_true rfl) ?_
      refine qb_aload_n hX 36 rfl rfl ?_
      refine qb_iload hX 37 rfl rfl ?_
      refine qb_iload_n hX 38 rfl rfl ?_
      refine qb_callI hX 39 rfl cv_Fitter_82 (jm_Fitter_bearsAt (qk_GI hX) this x4 p2 hthis ) (ci := 0) hthis ⟨rfl, rfl, rfl, by decide, by decide⟩ rfl (by exact Nat.le_of_ble_eq_true rfl) (fun x5 => ?_)
      refine qb_iload_n hX 40 rfl rfl ?_
      refine qb_icge hX 41 84 rfl (by decide) ?_ ?_
      ·
        refine qb_iconst hX 44 0 rfl (by decide) ?_
        refine qb_istore hX 45 ([some (.ref (qx_ad X this)), some (.int p1), some (.int p2), some (.int p3), some (.int p4), some (.int x1), some (.int s2), some (.int x4), some (.int 0), none, none]) rfl (by decide) rfl ?_
        refine qb_iload hX 46 rfl rfl ?_
        refine qb_istore hX 47 ([some (.ref (qx_ad X this)), some (.int p1), some (.int p2), some (.int p3), some (.int p4), some (.int x1), some (.int p4), some (.int x4), some (.int 0), none, none]) rfl (by decide) rfl ?_
        refine qb_iconst hX 48 0 rfl (by decide) ?_
        refine qb_istore hX 49 ([some (.ref (qx_ad X this)), some (.int p1), some (.int p2), some (.int p3), some (.int p4), some (.int x1), some (.int p4), some (.int x4), some (.int 0), some (.int 0), none]) rfl (by decide) rfl ?_
        refine qb_join 157 (fun s6 => [some (.ref (qx_ad X this)), none, none, none, none, some (.int x1), some (.int s6), none, none, none, none]) (fun s6 => []) ?_ ?_
        ·
          refine qb_loopw ((p4, 0, 0)) (fun s7 => [some (.ref (qx_ad X this)), some (.int p1), some (.int p2), some (.int p3), none, some (.int x1), some (.int s7.1), some (.int x4), some (.int s7.2.1), some (.int s7.2.2), none]) (qw_s (qw_s (qw_s (qw_s (qw_n (qw_s (qw_s (qw_s (qw_s (qw_s (qw_n (qw_0)))))))))))) (fun s7 => ?_)
          refine qb_iload hX 50 rfl rfl ?_
          refine qb_sipush hX 51 2000 rfl (by decide) ?_
          refine qb_icge hX 52 157 rfl (by decide) ?_ ?_
          ·
            exact qb_exit (fun σ h => qj_wk (ρ' := [some (.ref (qx_ad X this)), none, none, none, none, some (.int x1), some (.int s7.1), none, none, none, none]) (qw_s (qw_n (qw_n (qw_n (qw_n (qw_s (qw_s (qw_n (qw_n (qw_n (qw_n (qw_0)))))))))))) h)
          ·
            refine qb_iload hX 53 rfl rfl ?_
            refine qb_iload hX 54 rfl rfl ?_
            refine qb_icge hX 55 157 rfl (by decide) ?_ ?_
            ·
              exact qb_exit (fun σ h => qj_wk (ρ' := [some (.ref (qx_ad X this)), none, none, none, none, some (.int x1), some (.int s7.1), none, none, none, none]) (qw_s (qw_n (qw_n (qw_n (qw_n (qw_s (qw_s (qw_n (qw_n (qw_n (qw_n (qw_0)))))))))))) h)
            ·
              refine qb_iload hX 56 rfl rfl ?_
              refine qb_iload hX 57 rfl rfl ?_
              refine qb_iadd hX 58 rfl ?_
              refine qb_iconst hX 59 2 rfl (by decide) ?_
              refine qb_idiv hX 60 rfl (fun x8 => ?_)
              refine qb_istore hX 61 ([some (.ref (qx_ad X this)), some (.int p1), some (.int p2), some (.int p3), none, some (.int x1), some (.int s7.1), some (.int x4), some (.int s7.2.1), some (.int s7.2.2), some (.int x8)]) rfl (by decide) rfl ?_
              refine qb_aload_n hX 62 rfl rfl ?_
              refine qb_iload_n hX 63 rfl rfl ?_
              refine qb_iload hX 64 rfl rfl ?_
              refine qb_iload hX 65 rfl rfl ?_
              refine qb_callV hX 66 rfl cv_Fitter_71 (jm_Fitter_measure (qk_GI hX) this p1 x4 x8 hthis ) (ci := 0) hthis ⟨rfl, rfl, rfl, by decide, by decide⟩ rfl (by exact Nat.le_of_ble_eq_true rfl) ?_
              refine qb_aload_n hX 67 rfl rfl ?_
              refine qb_iload hX 68 rfl rfl ?_
              refine qb_iload_n hX 69 rfl rfl ?_
              refine qb_callI hX 70 rfl cv_Fitter_82 (jm_Fitter_bearsAt (qk_GI hX) this x4 p2 hthis ) (ci := 0) hthis ⟨rfl, rfl, rfl, by decide, by decide⟩ rfl (by exact Nat.le_of_ble_eq_true rfl) (fun x9 => ?_)
              refine qb_iload_n hX 71 rfl rfl ?_
              refine qb_join 151 (fun s10 => [some (.ref (qx_ad X this)), some (.int p1), some (.int p2), some (.int p3), none, some (.int x1), some (.int s10.1), some (.int x4), some (.int s10.2), some (.int s7.2.2), none]) (fun s10 => []) ?_ ?_
              ·
                refine qb_iclt hX 72 145 rfl (by decide) ?_ ?_
                ·
                  refine qb_iload hX 76 rfl rfl ?_
                  refine qb_iconst hX 77 1 rfl (by decide) ?_
                  refine qb_iadd hX 78 rfl ?_
                  refine qb_istoreL hX 79 (fun x11 => [some (.ref (qx_ad X this)), some (.int p1), some (.int p2), some (.int p3), none, some (.int x1), some (.int s7.1), some (.int x4), some (.int x11), some (.int s7.2.2), some (.int x8)]) rfl (by decide) (fun _ => rfl) (fun x11 => ?_)
                  exact qb_exit (fun σ h => qj_wk (ρ' := [some (.ref (qx_ad X this)), some (.int p1), some (.int p2), some (.int p3), none, some (.int x1), some (.int s7.1), some (.int x4), some (.int x11), some (.int s7.2.2), none]) (qw_s (qw_s (qw_s (qw_s (qw_n (qw_s (qw_s (qw_s (qw_s (qw_s (qw_n (qw_0)))))))))))) h)
                ·
                  refine qb_iload hX 73 rfl rfl ?_
                  refine qb_istore hX 74 ([some (.ref (qx_ad X this)), some (.int p1), some (.int p2), some (.int p3), none, some (.int x1), some (.int x8), some (.int x4), some (.int s7.2.1), some (.int s7.2.2), some (.int x8)]) rfl (by decide) rfl ?_
                  exact qb_exit (fun σ h => qj_goto hX 75 rfl (by decide) (qj_wk (ρ' := [some (.ref (qx_ad X this)), some (.int p1), some (.int p2), some (.int p3), none, some (.int x1), some (.int x8), some (.int x4), some (.int s7.2.1), some (.int s7.2.2), none]) (qw_s (qw_s (qw_s (qw_s (qw_n (qw_s (qw_s (qw_s (qw_s (qw_s (qw_n (qw_0)))))))))))) h))
              · intro s10
                refine qb_iinc hX 80 1 (fun x12 => [some (.ref (qx_ad X this)), some (.int p1), some (.int p2), some (.int p3), none, some (.int x1), some (.int s10.1), some (.int x4), some (.int s10.2), some (.int x12), none]) rfl (by decide) (by decide) rfl (fun _ => rfl) (fun x12 => ?_)
                exact qb_exit (fun σ h => qj_goto hX 81 rfl (by decide) (qj_wk (ρ' := [some (.ref (qx_ad X this)), some (.int p1), some (.int p2), some (.int p3), none, some (.int x1), some (.int s10.1), some (.int x4), some (.int s10.2), some (.int x12), none]) (qw_s (qw_s (qw_s (qw_s (qw_n (qw_s (qw_s (qw_s (qw_s (qw_s (qw_n (qw_0)))))))))))) h))
        · intro s6
          refine qb_iload hX 82 rfl rfl ?_
          refine qb_iflt hX 83 186 rfl (by decide) ?_ ?_
          ·
            refine qb_iload hX 97 rfl rfl ?_
            exact qb_iret hX 98 rfl hR (fun _ h => h)
          ·
            refine qb_iload hX 84 rfl rfl ?_
            refine qb_aload_n hX 85 rfl rfl ?_
            refine qb_getR hX 86 rfl fl_Fitter_24 hthis rfl ?_
            refine qb_alen hX 87 (Int32.ofNat (qm_kd (qm_rf this 8)).2) rfl (Or.inl (kf_Fitter_8 hthis)) rfl ?_
            refine qb_icge hX 88 186 rfl (by decide) ?_ ?_
            ·
              refine qb_iload hX 97 rfl rfl ?_
              exact qb_iret hX 98 rfl hR (fun _ h => h)
            ·
              refine qb_aload_n hX 89 rfl rfl ?_
              refine qb_getR hX 90 rfl fl_Fitter_24 hthis rfl ?_
              refine qb_iload hX 91 rfl rfl ?_
              refine qb_iload hX 92 rfl rfl ?_
              refine qb_iast hX 93 rfl (kf_Fitter_8 hthis) ?_
              refine qb_aload_n hX 94 rfl rfl ?_
              refine qb_iconst hX 95 1 rfl (by decide) ?_
              refine qb_putZ hX 96 rfl fp_Fitter_28 hthis ?_
              refine qb_iload hX 97 rfl rfl ?_
              exact qb_iret hX 98 rfl hR (fun _ h => h)
      ·
        refine qb_bipush hX 42 (-2) rfl (by decide) ?_
        exact qb_iret hX 43 rfl hR (fun _ h => h)
    ·
      refine qb_iload hX 19 rfl rfl ?_
      refine qb_iload hX 20 rfl rfl ?_
      refine qb_icgt hX 21 48 rfl (by decide) ?_ ?_
      ·
        refine qb_bipush hX 24 (-2) rfl (by decide) ?_
        exact qb_iret hX 25 rfl hR (fun _ h => h)
      ·
        refine qb_iload hX 22 rfl rfl ?_
        refine qb_goto hX 23 (tgt := 50) rfl (by decide) ?_
        exact qb_iret hX 25 rfl hR (fun _ h => h)
theorem jm_Fitter_leastFrom {l : Launch} {G : qm_G} (hG : qm_GI G) (this : Nat) (p1 : Int32) (p2 : Int32) (p3 : Int32) (p4 : Int32) (hthis : (qm_kd this).1 = 10) : qm_MI l G jy_Fitter_leastFrom prog_2_method_8_code 11 (some .int) 3 79 [.ref (G.1 this), .int p1, .int p2, .int p3, .int p4] (jf_Fitter_leastFrom this p1 p2 p3 p4) :=
  qm_metI (by decide +kernel) jd_Fitter_leastFrom (fun v hv => by simp only [List.mem_cons, List.not_mem_nil, or_false] at hv; rcases hv with rfl | rfl | rfl | rfl | rfl <;> rfl) (by exact Nat.le_of_ble_eq_true rfl) hG rfl (fun X hl hg hX r0 σ0 hR => by subst hl; subst hg; exact jb_Fitter_leastFrom hX hR this p1 p2 p3 p4 hthis)
def jl_Fitter_leastOf : List qm_I := [(0, .aload_n 0, 1, 1), (1, .iload_n 1, 1, 2), (2, .aload_n 0, 1, 3), (3, .getfield 15, 3, 6), (6, .getfield 75, 3, 9), (9, .iload_n 1, 1, 10), (10, .invokestatic 78, 3, 13), (13, .iconst 0, 1, 14), (14, .sipush 2000, 3, 17), (17, .invokevirtual 85, 3, 20), (20, .ireturn, 1, 21)]
theorem jd_Fitter_leastOf : qm_D prog_2_method_7_code jl_Fitter_leastOf := qm_D_of (by decide +kernel)
noncomputable def jf_Fitter_leastOf (this : Nat) (p1 : Int32) : qm_M Int32 :=
  mB (jf_Top_at (qm_rf (qm_rf this 1) 16) p1) fun x1 =>
  mB (jf_Fitter_leastFrom this p1 x1 0 2000) fun x2 =>
  mP x2
set_option maxRecDepth 20000 in
set_option maxHeartbeats 4000000 in
theorem jb_Fitter_leastOf {X : qm_X} (hX : qm_ok X qr_Fitter prog_2_method_7_code 2 4 109 jl_Fitter_leastOf) {r0 : Int32} {σ0 : qm_Mem} (hR : qm_RI X r0 σ0 .int) (this : Nat) (p1 : Int32) (hthis : (qm_kd this).1 = 10) : qm_B X (jf_Fitter_leastOf this p1) 0 [some (.ref (qx_ad X this)), some (.int p1)] [] (fun r σ1 => r = r0 ∧ σ1 = σ0) := by
  unfold jf_Fitter_leastOf
  refine qb_aload_n hX 0 rfl rfl ?_
  refine qb_iload_n hX 1 rfl rfl ?_
  refine qb_aload_n hX 2 rfl rfl ?_
  refine qb_getR hX 3 rfl fl_Fitter_15 hthis rfl ?_
  refine qb_getR hX 4 rfl fl_Fitter_75 (kf_Fitter_1 hthis) rfl ?_
  refine qb_iload_n hX 5 rfl rfl ?_
  refine qb_calNI hX 6 rfl cv_Fitter_78 (jm_Top_at (qk_GI hX) (qm_rf (qm_rf this 1) 16) p1 (kf_Flow_16 (kf_Fitter_1 hthis))) ⟨rfl, by decide, by decide⟩ rfl (by exact Nat.le_of_ble_eq_true rfl) (fun x1 => ?_)
  refine qb_iconst hX 7 0 rfl (by decide) ?_
  refine qb_sipush hX 8 2000 rfl (by decide) ?_
  refine qb_callI hX 9 rfl cv_Fitter_85 (jm_Fitter_leastFrom (qk_GI hX) this p1 x1 0 2000 hthis ) (ci := 0) hthis ⟨rfl, rfl, rfl, by decide, by decide⟩ rfl (by exact Nat.le_of_ble_eq_true rfl) (fun x2 => ?_)
  exact qb_iret hX 10 rfl hR (fun _ h => h)
theorem jm_Fitter_leastOf {l : Launch} {G : qm_G} (hG : qm_GI G) (this : Nat) (p1 : Int32) (hthis : (qm_kd this).1 = 10) : qm_MI l G jy_Fitter_leastOf prog_2_method_7_code 2 (some .int) 4 109 [.ref (G.1 this), .int p1] (jf_Fitter_leastOf this p1) :=
  qm_metI (by decide +kernel) jd_Fitter_leastOf (fun v hv => by simp only [List.mem_cons, List.not_mem_nil, or_false] at hv; rcases hv with rfl | rfl <;> rfl) (by exact Nat.le_of_ble_eq_true rfl) hG rfl (fun X hl hg hX r0 σ0 hR => by subst hl; subst hg; exact jb_Fitter_leastOf hX hR this p1 hthis)
def jl_Flow_mayEnd : List qm_I := [(0, .iload_n 1, 1, 1), (1, .ifCond .lt 22, 3, 4), (4, .iload_n 1, 1, 5), (5, .bipush 91, 2, 7), (7, .if_icmp .ge 16, 3, 10), (10, .aload_n 0, 1, 11), (11, .getfield 49, 3, 14), (14, .iload_n 1, 1, 15), (15, .baload, 1, 16), (16, .ifCond .eq 7, 3, 19), (19, .iconst 1, 1, 20), (20, .goto 4, 3, 23), (23, .iconst 0, 1, 24), (24, .ireturn, 1, 25)]
theorem jd_Flow_mayEnd : qm_D prog_3_method_9_code jl_Flow_mayEnd := qm_D_of (by decide +kernel)
noncomputable def jf_Flow_mayEnd (this : Nat) (p1 : Int32) : qm_M Int32 :=
  if p1 < 0 then
    mP 0
  else
    if 91 ≤ p1 then
      mP 0
    else
      mB (mLd (qm_rf this 15) p1) fun x1 =>
      if x1 = 0 then
        mP 0
      else
        mP 1
set_option maxRecDepth 20000 in
set_option maxHeartbeats 4000000 in
theorem jb_Flow_mayEnd {X : qm_X} (hX : qm_ok X qr_Flow prog_3_method_9_code 2 0 0 jl_Flow_mayEnd) {r0 : Int32} {σ0 : qm_Mem} (hR : qm_RI X r0 σ0 .boolean) (this : Nat) (p1 : Int32) (hthis : (qm_kd this).1 = 11) : qm_B X (jf_Flow_mayEnd this p1) 0 [some (.ref (qx_ad X this)), some (.int p1)] [] (fun r σ1 => r = r0 ∧ σ1 = σ0) := by
  unfold jf_Flow_mayEnd
  refine qb_iload_n hX 0 rfl rfl ?_
  refine qb_iflt hX 1 23 rfl (by decide) ?_ ?_
  ·
    refine qb_iconst hX 12 0 rfl (by decide) ?_
    exact qb_zret1 hX 13 rfl hR (by decide) (fun _ h => h)
  ·
    refine qb_iload_n hX 2 rfl rfl ?_
    refine qb_bipush hX 3 91 rfl (by decide) ?_
    refine qb_icge hX 4 23 rfl (by decide) ?_ ?_
    ·
      refine qb_iconst hX 12 0 rfl (by decide) ?_
      exact qb_zret1 hX 13 rfl hR (by decide) (fun _ h => h)
    ·
      refine qb_aload_n hX 5 rfl rfl ?_
      refine qb_getR hX 6 rfl fl_Flow_49 hthis rfl ?_
      refine qb_iload_n hX 7 rfl rfl ?_
      refine qb_zald hX 8 rfl (kf_Flow_15 hthis) (fun x1 => ?_)
      refine qb_ifeq hX 9 23 rfl (by decide) ?_ ?_
      ·
        refine qb_iconst hX 12 0 rfl (by decide) ?_
        exact qb_zret1 hX 13 rfl hR (by decide) (fun _ h => h)
      ·
        refine qb_iconst hX 10 1 rfl (by decide) ?_
        refine qb_goto hX 11 (tgt := 24) rfl (by decide) ?_
        exact qb_zret1 hX 13 rfl hR (by decide) (fun _ h => h)
theorem jm_Flow_mayEnd {l : Launch} {G : qm_G} (hG : qm_GI G) (this : Nat) (p1 : Int32) (hthis : (qm_kd this).1 = 11) : qm_MI l G jy_Flow_mayEnd prog_3_method_9_code 2 (some .boolean) 0 0 [.ref (G.1 this), .int p1] (jf_Flow_mayEnd this p1) :=
  qm_metI (by decide +kernel) jd_Flow_mayEnd (fun v hv => by simp only [List.mem_cons, List.not_mem_nil, or_false] at hv; rcases hv with rfl | rfl <;> rfl) (by exact Nat.le_of_ble_eq_true rfl) hG rfl (fun X hl hg hX r0 σ0 hR => by subst hl; subst hg; exact jb_Flow_mayEnd hX hR this p1 hthis)
end
section
def jl_Fitter_latest : List qm_I := [(0, .aload_n 0, 1, 1), (1, .getfield 15, 3, 4), (4, .getfield 93, 3, 7), (7, .iload_n 1, 1, 8), (8, .invokestatic 78, 3, 11), (11, .istore 6, 2, 13), (13, .iload 6, 2, 15), (15, .iload_n 2, 1, 16), (16, .if_icmp .lt 61, 3, 19), (19, .aload_n 0, 1, 20), (20, .getfield 15, 3, 23), (23, .iload 6, 2, 25), (25, .invokevirtual 128, 3, 28), (28, .ifCond .eq 43, 3, 31), (31, .aload_n 0, 1, 32), (32, .iload_n 2, 1, 33), (33, .iload 6, 2, 35), (35, .iload_n 3, 1, 36), (36, .iload 4, 2, 38), (38, .invokevirtual 132, 3, 41), (41, .istore 7, 2, 43), (43, .iload 7, 2, 45), (45, .iconst (-1), 1, 46), (46, .if_icmp .eq 25, 3, 49), (49, .iload 5, 2, 51), (51, .iconst (-1), 1, 52), (52, .if_icmp .eq 16, 3, 55), (55, .iload 7, 2, 57), (57, .aload_n 0, 1, 58), (58, .iload 5, 2, 60), (60, .iload 6, 2, 62), (62, .invokevirtual 82, 3, 65), (65, .if_icmp .gt 6, 3, 68), (68, .iload 6, 2, 70), (70, .ireturn, 1, 71), (71, .iinc 6 (-1), 3, 74), (74, .goto (-61), 3, 77), (77, .iconst (-1), 1, 78), (78, .ireturn, 1, 79)]
theorem jd_Fitter_latest : qm_D prog_2_method_12_code jl_Fitter_latest := qm_D_of (by decide +kernel)
noncomputable def jf_Fitter_latest (this : Nat) (p1 : Int32) (p2 : Int32) (p3 : Int32) (p4 : Int32) (p5 : Int32) : qm_M Int32 :=
  mB (jf_Top_at (qm_rf (qm_rf this 1) 17) p1) fun x1 =>
  mB (α := (Int32 ⊕ Int32)) (
    mB (α := (Unit ⊕ (Int32 ⊕ Int32))) (
      mW (S := Int32) (α := (Unit ⊕ (Int32 ⊕ Int32))) (fun s4 =>
        if s4 < p2 then
          mP (Sum.inr (Sum.inl ()))
        else
          mB (jf_Flow_mayEnd (qm_rf this 1) s4) fun x5 =>
          mB (α := (Unit ⊕ (Int32 ⊕ (Unit ⊕ (Int32 ⊕ Int32))))) (
            if x5 = 0 then
              mP (Sum.inl ())
            else
              mB (jf_Fitter_leftOver this p2 s4 p3 p4) fun x7 =>
              if x7 = (-1) then
                mP (Sum.inl ())
              else
                if p5 = (-1) then
                  mP (Sum.inr (Sum.inr (Sum.inr (Sum.inl s4))))
                else
                  mB (jf_Fitter_bearsAt this p5 s4) fun x8 =>
                  if x8 < x7 then
                    mP (Sum.inl ())
                  else
                    mP (Sum.inr (Sum.inr (Sum.inr (Sum.inl s4))))) (Sum.elim (fun s6 =>
            mB (mP (s4 + (-1))) fun x9 =>
            mP (Sum.inl x9)) mP)) x1) (Sum.elim (fun s3 =>
      mP (Sum.inr (-1))) mP)) (Sum.elim (fun s2 =>
    mP s2) mP)
set_option maxRecDepth 20000 in
set_option maxHeartbeats 4000000 in
theorem jb_Fitter_latest {X : qm_X} (hX : qm_ok X qr_Fitter prog_2_method_12_code 8 2 50 jl_Fitter_latest) {r0 : Int32} {σ0 : qm_Mem} (hR : qm_RI X r0 σ0 .int) (this : Nat) (p1 : Int32) (p2 : Int32) (p3 : Int32) (p4 : Int32) (p5 : Int32) (hthis : (qm_kd this).1 = 10) : qm_B X (jf_Fitter_latest this p1 p2 p3 p4 p5) 0 [some (.ref (qx_ad X this)), some (.int p1), some (.int p2), some (.int p3), some (.int p4), some (.int p5), none, none] [] (fun r σ1 => r = r0 ∧ σ1 = σ0) := by
  unfold jf_Fitter_latest
  refine qb_aload_n hX 0 rfl rfl ?_
  refine qb_getR hX 1 rfl fl_Fitter_15 hthis rfl ?_
  refine qb_getR hX 2 rfl fl_Fitter_93 (kf_Fitter_1 hthis) rfl ?_
  refine qb_iload_n hX 3 rfl rfl ?_
  refine qb_calNI hX 4 rfl cv_Fitter_78 (jm_Top_at (qk_GI hX) (qm_rf (qm_rf this 1) 17) p1 (kf_Flow_17 (kf_Fitter_1 hthis))) ⟨rfl, by decide, by decide⟩ rfl (by exact Nat.le_of_ble_eq_true rfl) (fun x1 => ?_)
  refine qb_istore hX 5 ([some (.ref (qx_ad X this)), some (.int p1), some (.int p2), some (.int p3), some (.int p4), some (.int p5), some (.int x1), none]) rfl (by decide) rfl ?_
  refine qb_join2 68 (fun s2 => [none, none, none, none, none, none, some (.int s2), none]) (fun s2 => []) ?_ ?_
  ·
    refine qb_join2 77 (fun s3 => [none, none, none, none, none, none, none, none]) (fun s3 => []) ?_ ?_
    ·
      refine qb_loopw (x1) (fun s4 => [some (.ref (qx_ad X this)), none, some (.int p2), some (.int p3), some (.int p4), some (.int p5), some (.int s4), none]) (qw_s (qw_n (qw_s (qw_s (qw_s (qw_s (qw_s (qw_n (qw_0))))))))) (fun s4 => ?_)
      refine qb_iload hX 6 rfl rfl ?_
      refine qb_iload_n hX 7 rfl rfl ?_
      refine qb_iclt hX 8 77 rfl (by decide) ?_ ?_
      ·
        exact qb_exit (fun σ h => qj_wk (ρ' := [none, none, none, none, none, none, none, none]) (qw_n (qw_n (qw_n (qw_n (qw_n (qw_n (qw_n (qw_n (qw_0))))))))) h)
      ·
        refine qb_aload_n hX 9 rfl rfl ?_
        refine qb_getR hX 10 rfl fl_Fitter_15 hthis rfl ?_
        refine qb_iload hX 11 rfl rfl ?_
        refine qb_callI hX 12 rfl cv_Fitter_128 (jm_Flow_mayEnd (qk_GI hX) (qm_rf this 1) s4 (kf_Fitter_1 hthis) ) (ci := 1) (kf_Fitter_1 hthis) ⟨rfl, rfl, rfl, by decide, by decide⟩ rfl (by exact Nat.le_of_ble_eq_true rfl) (fun x5 => ?_)
        refine qb_join2 71 (fun s6 => [some (.ref (qx_ad X this)), none, some (.int p2), some (.int p3), some (.int p4), some (.int p5), some (.int s4), none]) (fun s6 => []) ?_ ?_
        ·
          refine qb_ifeq hX 13 71 rfl (by decide) ?_ ?_
          ·
            exact qb_exit (fun σ h => qj_wk (ρ' := [some (.ref (qx_ad X this)), none, some (.int p2), some (.int p3), some (.int p4), some (.int p5), some (.int s4), none]) (qw_s (qw_n (qw_s (qw_s (qw_s (qw_s (qw_s (qw_n (qw_0))))))))) h)
          ·
            refine qb_aload_n hX 14 rfl rfl ?_
            refine qb_iload_n hX 15 rfl rfl ?_
            refine qb_iload hX 16 rfl rfl ?_
            refine qb_iload_n hX 17 rfl rfl ?_
            refine qb_iload hX 18 rfl rfl ?_
            refine qb_callI hX 19 rfl cv_Fitter_132 (jm_Fitter_leftOver (qk_GI hX) this p2 s4 p3 p4 hthis ) (ci := 0) hthis ⟨rfl, rfl, rfl, by decide, by decide⟩ rfl (by exact Nat.le_of_ble_eq_true rfl) (fun x7 => ?_)
            refine qb_istore hX 20 ([some (.ref (qx_ad X this)), none, some (.int p2), some (.int p3), some (.int p4), some (.int p5), some (.int s4), some (.int x7)]) rfl (by decide) rfl ?_
            refine qb_iload hX 21 rfl rfl ?_
            refine qb_iconst hX 22 (-1) rfl (by decide) ?_
            refine qb_iceq hX 23 71 rfl (by decide) ?_ ?_
            ·
              exact qb_exit (fun σ h => qj_wk (ρ' := [some (.ref (qx_ad X this)), none, some (.int p2), some (.int p3), some (.int p4), some (.int p5), some (.int s4), none]) (qw_s (qw_n (qw_s (qw_s (qw_s (qw_s (qw_s (qw_n (qw_0))))))))) h)
            ·
              refine qb_iload hX 24 rfl rfl ?_
              refine qb_iconst hX 25 (-1) rfl (by decide) ?_
              refine qb_iceq hX 26 68 rfl (by decide) ?_ ?_
              ·
                exact qb_exit (fun σ h => qj_wk (ρ' := [none, none, none, none, none, none, some (.int s4), none]) (qw_n (qw_n (qw_n (qw_n (qw_n (qw_n (qw_s (qw_n (qw_0))))))))) h)
              ·
                refine qb_iload hX 27 rfl rfl ?_
                refine qb_aload_n hX 28 rfl rfl ?_
                refine qb_iload hX 29 rfl rfl ?_
                refine qb_iload hX 30 rfl rfl ?_
                refine qb_callI hX 31 rfl cv_Fitter_82 (jm_Fitter_bearsAt (qk_GI hX) this p5 s4 hthis ) (ci := 0) hthis ⟨rfl, rfl, rfl, by decide, by decide⟩ rfl (by exact Nat.le_of_ble_eq_true rfl) (fun x8 => ?_)
                refine qb_icgt hX 32 71 rfl (by decide) ?_ ?_
                ·
                  exact qb_exit (fun σ h => qj_wk (ρ' := [some (.ref (qx_ad X this)), none, some (.int p2), some (.int p3), some (.int p4), some (.int p5), some (.int s4), none]) (qw_s (qw_n (qw_s (qw_s (qw_s (qw_s (qw_s (qw_n (qw_0))))))))) h)
                ·
                  exact qb_exit (fun σ h => qj_wk (ρ' := [none, none, none, none, none, none, some (.int s4), none]) (qw_n (qw_n (qw_n (qw_n (qw_n (qw_n (qw_s (qw_n (qw_0))))))))) h)
        · intro s6
          refine qb_iinc hX 35 (-1) (fun x9 => [some (.ref (qx_ad X this)), none, some (.int p2), some (.int p3), some (.int p4), some (.int p5), some (.int x9), none]) rfl (by decide) (by decide) rfl (fun _ => rfl) (fun x9 => ?_)
          exact qb_exit (fun σ h => qj_goto hX 36 rfl (by decide) (qj_wk (ρ' := [some (.ref (qx_ad X this)), none, some (.int p2), some (.int p3), some (.int p4), some (.int p5), some (.int x9), none]) (qw_s (qw_n (qw_s (qw_s (qw_s (qw_s (qw_s (qw_n (qw_0))))))))) h))
    · intro s3
      refine qb_iconst hX 37 (-1) rfl (by decide) ?_
      exact qb_iret hX 38 rfl hR (fun _ h => h)
  · intro s2
    refine qb_iload hX 33 rfl rfl ?_
    exact qb_iret hX 34 rfl hR (fun _ h => h)
theorem jm_Fitter_latest {l : Launch} {G : qm_G} (hG : qm_GI G) (this : Nat) (p1 : Int32) (p2 : Int32) (p3 : Int32) (p4 : Int32) (p5 : Int32) (hthis : (qm_kd this).1 = 10) : qm_MI l G jy_Fitter_latest prog_2_method_12_code 8 (some .int) 2 50 [.ref (G.1 this), .int p1, .int p2, .int p3, .int p4, .int p5] (jf_Fitter_latest this p1 p2 p3 p4 p5) :=
  qm_metI (by decide +kernel) jd_Fitter_latest (fun v hv => by simp only [List.mem_cons, List.not_mem_nil, or_false] at hv; rcases hv with rfl | rfl | rfl | rfl | rfl | rfl <;> rfl) (by exact Nat.le_of_ble_eq_true rfl) hG rfl (fun X hl hg hX r0 σ0 hR => by subst hl; subst hg; exact jb_Fitter_latest hX hR this p1 p2 p3 p4 p5 hthis)
def jl_Flow_openSection : List qm_I := [(0, .aload_n 0, 1, 1), (1, .getfield 69, 3, 4), (4, .bipush 17, 2, 6), (6, .if_icmp .ge 49, 3, 9), (9, .aload_n 0, 1, 10), (10, .getfield 53, 3, 13), (13, .aload_n 0, 1, 14), (14, .getfield 69, 3, 17), (17, .aload_n 0, 1, 18), (18, .getfield 65, 3, 21), (21, .iastore, 1, 22), (22, .aload_n 0, 1, 23), (23, .getfield 56, 3, 26), (26, .aload_n 0, 1, 27), (27, .getfield 69, 3, 30), (30, .aload_n 0, 1, 31), (31, .getfield 65, 3, 34), (34, .iastore, 1, 35), (35, .aload_n 0, 1, 36), (36, .getfield 59, 3, 39), (39, .aload_n 0, 1, 40), (40, .getfield 69, 3, 43), (43, .iload_n 1, 1, 44), (44, .iastore, 1, 45), (45, .aload_n 0, 1, 46), (46, .dup, 1, 47), (47, .getfield 69, 3, 50), (50, .iconst 1, 1, 51), (51, .iadd, 1, 52), (52, .putfield 69, 3, 55), (55, .return_, 1, 56)]
theorem jd_Flow_openSection : qm_D prog_3_method_3_code jl_Flow_openSection := qm_D_of (by decide +kernel)
noncomputable def jf_Flow_openSection (this : Nat) (p1 : Int32) : qm_M Unit :=
  mB (mGt this 1) fun x1 =>
  if 17 ≤ x1 then
    mP ()
  else
    mB (mGt this 1) fun x2 =>
    mB (mGt this 0) fun x3 =>
    mB (mSt (qm_rf this 16) x2 x3) fun _ =>
    mB (mGt this 1) fun x4 =>
    mB (mGt this 0) fun x5 =>
    mB (mSt (qm_rf this 17) x4 x5) fun _ =>
    mB (mGt this 1) fun x6 =>
    mB (mSt (qm_rf this 18) x6 p1) fun _ =>
    mB (mGt this 1) fun x7 =>
    mB (mPt this 1 (x7 + 1)) fun _ =>
    mP ()
set_option maxRecDepth 20000 in
set_option maxHeartbeats 4000000 in
theorem jb_Flow_openSection {X : qm_X} (hX : qm_ok X qr_Flow prog_3_method_3_code 2 0 0 jl_Flow_openSection) {σ0 : qm_Mem} (hR : qm_RV X σ0) (this : Nat) (p1 : Int32) (hthis : (qm_kd this).1 = 11) : qm_B X (jf_Flow_openSection this p1) 0 [some (.ref (qx_ad X this)), some (.int p1)] [] (fun _ σ1 => σ1 = σ0) := by
  unfold jf_Flow_openSection
  refine qb_aload_n hX 0 rfl rfl ?_
  refine qb_get hX 1 rfl fl_Flow_69 hthis rfl (fun x1 => ?_)
  refine qb_bipush hX 2 17 rfl (by decide) ?_
  refine qb_icge hX 3 55 rfl (by decide) ?_ ?_
  ·
    exact qb_vret hX 30 rfl hR (fun _ h => h)
  ·
    refine qb_aload_n hX 4 rfl rfl ?_
    refine qb_getR hX 5 rfl fl_Flow_53 hthis rfl ?_
    refine qb_aload_n hX 6 rfl rfl ?_
    refine qb_get hX 7 rfl fl_Flow_69 hthis rfl (fun x2 => ?_)
    refine qb_aload_n hX 8 rfl rfl ?_
    refine qb_get hX 9 rfl fl_Flow_65 hthis rfl (fun x3 => ?_)
    refine qb_iast hX 10 rfl (kf_Flow_16 hthis) ?_
    refine qb_aload_n hX 11 rfl rfl ?_
    refine qb_getR hX 12 rfl fl_Flow_56 hthis rfl ?_
    refine qb_aload_n hX 13 rfl rfl ?_
    refine qb_get hX 14 rfl fl_Flow_69 hthis rfl (fun x4 => ?_)
    refine qb_aload_n hX 15 rfl rfl ?_
    refine qb_get hX 16 rfl fl_Flow_65 hthis rfl (fun x5 => ?_)
    refine qb_iast hX 17 rfl (kf_Flow_17 hthis) ?_
    refine qb_aload_n hX 18 rfl rfl ?_
    refine qb_getR hX 19 rfl fl_Flow_59 hthis rfl ?_
    refine qb_aload_n hX 20 rfl rfl ?_
    refine qb_get hX 21 rfl fl_Flow_69 hthis rfl (fun x6 => ?_)
    refine qb_iload_n hX 22 rfl rfl ?_
    refine qb_iast hX 23 rfl (kf_Flow_18 hthis) ?_
    refine qb_aload_n hX 24 rfl rfl ?_
    refine qb_dup hX 25 rfl rfl ?_
    refine qb_get hX 26 rfl fl_Flow_69 hthis rfl (fun x7 => ?_)
    refine qb_iconst hX 27 1 rfl (by decide) ?_
    refine qb_iadd hX 28 rfl ?_
    refine qb_put hX 29 rfl fp_Flow_69 hthis ?_
    exact qb_vret hX 30 rfl hR (fun _ h => h)
theorem jm_Flow_openSection {l : Launch} {G : qm_G} (hG : qm_GI G) (this : Nat) (p1 : Int32) (hthis : (qm_kd this).1 = 11) : qm_MV l G jy_Flow_openSection prog_3_method_3_code 2 0 0 [.ref (G.1 this), .int p1] (jf_Flow_openSection this p1) :=
  qm_metV (by decide +kernel) jd_Flow_openSection (fun v hv => by simp only [List.mem_cons, List.not_mem_nil, or_false] at hv; rcases hv with rfl | rfl <;> rfl) (by exact Nat.le_of_ble_eq_true rfl) hG (fun X hl hg hX σ0 hR => by subst hl; subst hg; exact jb_Flow_openSection hX hR this p1 hthis)
def jl_Run_cell : List qm_I := [(0, .iload_n 1, 1, 1), (1, .ifCond .lt 19, 3, 4), (4, .iload_n 1, 1, 5), (5, .bipush 16, 2, 7), (7, .if_icmp .ge 13, 3, 10), (10, .iload_n 2, 1, 11), (11, .ifCond .lt 9, 3, 14), (14, .iload_n 2, 1, 15), (15, .bipush 16, 2, 17), (17, .if_icmp .lt 5, 3, 20), (20, .iconst 0, 1, 21), (21, .ireturn, 1, 22), (22, .aload_n 0, 1, 23), (23, .getfield 15, 3, 26), (26, .iload_n 1, 1, 27), (27, .bipush 16, 2, 29), (29, .imul, 1, 30), (30, .iload_n 2, 1, 31), (31, .iadd, 1, 32), (32, .iaload, 1, 33), (33, .ireturn, 1, 34)]
theorem jd_Run_cell : qm_D prog_6_method_9_code jl_Run_cell := qm_D_of (by decide +kernel)
noncomputable def jf_Run_cell (this : Nat) (p1 : Int32) (p2 : Int32) : qm_M Int32 :=
  if p1 < 0 then
    mP 0
  else
    if 16 ≤ p1 then
      mP 0
    else
      if p2 < 0 then
        mP 0
      else
        if p2 < 16 then
          mB (mLd (qm_rf this 2) ((p1 * 16) + p2)) fun x1 =>
          mP x1
        else
          mP 0
set_option maxRecDepth 20000 in
set_option maxHeartbeats 4000000 in
theorem jb_Run_cell {X : qm_X} (hX : qm_ok X qr_Run prog_6_method_9_code 3 0 0 jl_Run_cell) {r0 : Int32} {σ0 : qm_Mem} (hR : qm_RI X r0 σ0 .int) (this : Nat) (p1 : Int32) (p2 : Int32) (hthis : (qm_kd this).1 = 14) : qm_B X (jf_Run_cell this p1 p2) 0 [some (.ref (qx_ad X this)), some (.int p1), some (.int p2)] [] (fun r σ1 => r = r0 ∧ σ1 = σ0) := by
  unfold jf_Run_cell
  refine qb_iload_n hX 0 rfl rfl ?_
  refine qb_iflt hX 1 20 rfl (by decide) ?_ ?_
  ·
    refine qb_iconst hX 10 0 rfl (by decide) ?_
    exact qb_iret hX 11 rfl hR (fun _ h => h)
  ·
    refine qb_iload_n hX 2 rfl rfl ?_
    refine qb_bipush hX 3 16 rfl (by decide) ?_
    refine qb_icge hX 4 20 rfl (by decide) ?_ ?_
    ·
      refine qb_iconst hX 10 0 rfl (by decide) ?_
      exact qb_iret hX 11 rfl hR (fun _ h => h)
    ·
      refine qb_iload_n hX 5 rfl rfl ?_
      refine qb_iflt hX 6 20 rfl (by decide) ?_ ?_
      ·
        refine qb_iconst hX 10 0 rfl (by decide) ?_
        exact qb_iret hX 11 rfl hR (fun _ h => h)
      ·
        refine qb_iload_n hX 7 rfl rfl ?_
        refine qb_bipush hX 8 16 rfl (by decide) ?_
        refine qb_iclt hX 9 22 rfl (by decide) ?_ ?_
        ·
          refine qb_aload_n hX 12 rfl rfl ?_
          refine qb_getR hX 13 rfl fl_Run_15 hthis rfl ?_
          refine qb_iload_n hX 14 rfl rfl ?_
          refine qb_bipush hX 15 16 rfl (by decide) ?_
          refine qb_imul hX 16 rfl ?_
          refine qb_iload_n hX 17 rfl rfl ?_
          refine qb_iadd hX 18 rfl ?_
          refine qb_iald hX 19 rfl (kf_Run_2 hthis) (fun x1 => ?_)
          exact qb_iret hX 20 rfl hR (fun _ h => h)
        ·
          refine qb_iconst hX 10 0 rfl (by decide) ?_
          exact qb_iret hX 11 rfl hR (fun _ h => h)
theorem jm_Run_cell {l : Launch} {G : qm_G} (hG : qm_GI G) (this : Nat) (p1 : Int32) (p2 : Int32) (hthis : (qm_kd this).1 = 14) : qm_MI l G jy_Run_cell prog_6_method_9_code 3 (some .int) 0 0 [.ref (G.1 this), .int p1, .int p2] (jf_Run_cell this p1 p2) :=
  qm_metI (by decide +kernel) jd_Run_cell (fun v hv => by simp only [List.mem_cons, List.not_mem_nil, or_false] at hv; rcases hv with rfl | rfl | rfl <;> rfl) (by exact Nat.le_of_ble_eq_true rfl) hG rfl (fun X hl hg hX r0 σ0 hR => by subst hl; subst hg; exact jb_Run_cell hX hR this p1 p2 hthis)
def jl_Run_noteAt : List qm_I := [(0, .aload_n 0, 1, 1), (1, .iload_n 1, 1, 2), (2, .bipush 7, 2, 4), (4, .invokevirtual 42, 3, 7), (7, .istore_n 3, 1, 8), (8, .iconst 0, 1, 9), (9, .istore 4, 2, 11), (11, .iload 4, 2, 13), (13, .iload_n 3, 1, 14), (14, .if_icmp .ge 40, 3, 17), (17, .iload 4, 2, 19), (19, .iconst 4, 1, 20), (20, .if_icmp .ge 34, 3, 23), (23, .aload_n 0, 1, 24), (24, .iload_n 1, 1, 25), (25, .bipush 8, 2, 27), (27, .iload 4, 2, 29), (29, .iadd, 1, 30), (30, .invokevirtual 42, 3, 33), (33, .iload_n 2, 1, 34), (34, .if_icmp .ne 14, 3, 37), (37, .aload_n 0, 1, 38), (38, .iload_n 1, 1, 39), (39, .bipush 12, 2, 41), (41, .iload 4, 2, 43), (43, .iadd, 1, 44), (44, .invokevirtual 42, 3, 47), (47, .ireturn, 1, 48), (48, .iinc 4 1, 3, 51), (51, .goto (-40), 3, 54), (54, .iconst 0, 1, 55), (55, .ireturn, 1, 56)]
theorem jd_Run_noteAt : qm_D prog_6_method_17_code jl_Run_noteAt := qm_D_of (by decide +kernel)
noncomputable def jf_Run_noteAt (this : Nat) (p1 : Int32) (p2 : Int32) : qm_M Int32 :=
  mB (jf_Run_cell this p1 7) fun x1 =>
  mB (α := (Int32 ⊕ Int32)) (
    mB (α := (Unit ⊕ (Int32 ⊕ Int32))) (
      mW (S := Int32) (α := (Unit ⊕ (Int32 ⊕ Int32))) (fun s4 =>
        if x1 ≤ s4 then
          mP (Sum.inr (Sum.inl ()))
        else
          if 4 ≤ s4 then
            mP (Sum.inr (Sum.inl ()))
          else
            mB (jf_Run_cell this p1 (8 + s4)) fun x5 =>
            if ¬ x5 = p2 then
              mB (mP (s4 + 1)) fun x6 =>
              mP (Sum.inl x6)
            else
              mP (Sum.inr (Sum.inr (Sum.inl s4)))) 0) (Sum.elim (fun s3 =>
      mP (Sum.inr 0)) mP)) (Sum.elim (fun s2 =>
    mB (jf_Run_cell this p1 (12 + s2)) fun x7 =>
    mP x7) mP)
set_option maxRecDepth 20000 in
set_option maxHeartbeats 4000000 in
theorem jb_Run_noteAt {X : qm_X} (hX : qm_ok X qr_Run prog_6_method_17_code 5 1 22 jl_Run_noteAt) {r0 : Int32} {σ0 : qm_Mem} (hR : qm_RI X r0 σ0 .int) (this : Nat) (p1 : Int32) (p2 : Int32) (hthis : (qm_kd this).1 = 14) : qm_B X (jf_Run_noteAt this p1 p2) 0 [some (.ref (qx_ad X this)), some (.int p1), some (.int p2), none, none] [] (fun r σ1 => r = r0 ∧ σ1 = σ0) := by
  unfold jf_Run_noteAt
  refine qb_aload_n hX 0 rfl rfl ?_
  refine qb_iload_n hX 1 rfl rfl ?_
  refine qb_bipush hX 2 7 rfl (by decide) ?_
  refine qb_callI hX 3 rfl cv_Run_42 (jm_Run_cell (qk_GI hX) this p1 7 hthis ) (ci := 4) hthis ⟨rfl, rfl, rfl, by decide, by decide⟩ rfl (by exact Nat.le_of_ble_eq_true rfl) (fun x1 => ?_)
  refine qb_istore_n hX 4 ([some (.ref (qx_ad X this)), some (.int p1), some (.int p2), some (.int x1), none]) rfl (by decide) rfl ?_
  refine qb_iconst hX 5 0 rfl (by decide) ?_
  refine qb_istore hX 6 ([some (.ref (qx_ad X this)), some (.int p1), some (.int p2), some (.int x1), some (.int 0)]) rfl (by decide) rfl ?_
  refine qb_join2 37 (fun s2 => [some (.ref (qx_ad X this)), some (.int p1), none, none, some (.int s2)]) (fun s2 => []) ?_ ?_
  ·
    refine qb_join2 54 (fun s3 => [none, none, none, none, none]) (fun s3 => []) ?_ ?_
    ·
      refine qb_loopw (0) (fun s4 => [some (.ref (qx_ad X this)), some (.int p1), some (.int p2), some (.int x1), some (.int s4)]) (qw_s (qw_s (qw_s (qw_s (qw_s (qw_0)))))) (fun s4 => ?_)
      refine qb_iload hX 7 rfl rfl ?_
      refine qb_iload_n hX 8 rfl rfl ?_
      refine qb_icge hX 9 54 rfl (by decide) ?_ ?_
      ·
        exact qb_exit (fun σ h => qj_wk (ρ' := [none, none, none, none, none]) (qw_n (qw_n (qw_n (qw_n (qw_n (qw_0)))))) h)
      ·
        refine qb_iload hX 10 rfl rfl ?_
        refine qb_iconst hX 11 4 rfl (by decide) ?_
        refine qb_icge hX 12 54 rfl (by decide) ?_ ?_
        ·
          exact qb_exit (fun σ h => qj_wk (ρ' := [none, none, none, none, none]) (qw_n (qw_n (qw_n (qw_n (qw_n (qw_0)))))) h)
        ·
          refine qb_aload_n hX 13 rfl rfl ?_
          refine qb_iload_n hX 14 rfl rfl ?_
          refine qb_bipush hX 15 8 rfl (by decide) ?_
          refine qb_iload hX 16 rfl rfl ?_
          refine qb_iadd hX 17 rfl ?_
          refine qb_callI hX 18 rfl cv_Run_42 (jm_Run_cell (qk_GI hX) this p1 (8 + s4) hthis ) (ci := 4) hthis ⟨rfl, rfl, rfl, by decide, by decide⟩ rfl (by exact Nat.le_of_ble_eq_true rfl) (fun x5 => ?_)
          refine qb_iload_n hX 19 rfl rfl ?_
          refine qb_icne hX 20 48 rfl (by decide) ?_ ?_
          ·
            refine qb_iinc hX 28 1 (fun x6 => [some (.ref (qx_ad X this)), some (.int p1), some (.int p2), some (.int x1), some (.int x6)]) rfl (by decide) (by decide) rfl (fun _ => rfl) (fun x6 => ?_)
            exact qb_exit (fun σ h => qj_goto hX 29 rfl (by decide) (qj_wk (ρ' := [some (.ref (qx_ad X this)), some (.int p1), some (.int p2), some (.int x1), some (.int x6)]) (qw_s (qw_s (qw_s (qw_s (qw_s (qw_0)))))) h))
          ·
            exact qb_exit (fun σ h => qj_wk (ρ' := [some (.ref (qx_ad X this)), some (.int p1), none, none, some (.int s4)]) (qw_s (qw_s (qw_n (qw_n (qw_s (qw_0)))))) h)
    · intro s3
      refine qb_iconst hX 30 0 rfl (by decide) ?_
      exact qb_iret hX 31 rfl hR (fun _ h => h)
  · intro s2
    refine qb_aload_n hX 21 rfl rfl ?_
    refine qb_iload_n hX 22 rfl rfl ?_
    refine qb_bipush hX 23 12 rfl (by decide) ?_
    refine qb_iload hX 24 rfl rfl ?_
    refine qb_iadd hX 25 rfl ?_
    refine qb_callI hX 26 rfl cv_Run_42 (jm_Run_cell (qk_GI hX) this p1 (12 + s2) hthis ) (ci := 4) hthis ⟨rfl, rfl, rfl, by decide, by decide⟩ rfl (by exact Nat.le_of_ble_eq_true rfl) (fun x7 => ?_)
    exact qb_iret hX 27 rfl hR (fun _ h => h)
theorem jm_Run_noteAt {l : Launch} {G : qm_G} (hG : qm_GI G) (this : Nat) (p1 : Int32) (p2 : Int32) (hthis : (qm_kd this).1 = 14) : qm_MI l G jy_Run_noteAt prog_6_method_17_code 5 (some .int) 1 22 [.ref (G.1 this), .int p1, .int p2] (jf_Run_noteAt this p1 p2) :=
  qm_metI (by decide +kernel) jd_Run_noteAt (fun v hv => by simp only [List.mem_cons, List.not_mem_nil, or_false] at hv; rcases hv with rfl | rfl | rfl <;> rfl) (by exact Nat.le_of_ble_eq_true rfl) hG rfl (fun X hl hg hX r0 σ0 hR => by subst hl; subst hg; exact jb_Run_noteAt hX hR this p1 p2 hthis)
def jl_Flow_layPieces : List qm_I := [(0, .aload_n 0, 1, 1), (1, .getfield 9, 3, 4), (4, .iload_n 1, 1, 5), (5, .iconst 1, 1, 6), (6, .invokevirtual 84, 3, 9), (9, .istore_n 2, 1, 10), (10, .aload_n 0, 1, 11), (11, .getfield 9, 3, 14), (14, .iload_n 1, 1, 15), (15, .iconst 2, 1, 16), (16, .invokevirtual 84, 3, 19), (19, .istore_n 3, 1, 20), (20, .aload_n 0, 1, 21), (21, .getfield 9, 3, 24), (24, .iload_n 1, 1, 25), (25, .iconst 3, 1, 26), (26, .invokevirtual 84, 3, 29), (29, .istore 4, 2, 31), (31, .aload_n 0, 1, 32), (32, .getfield 69, 3, 35), (35, .iconst 1, 1, 36), (36, .isub, 1, 37), (37, .istore 5, 2, 39), (39, .iconst 0, 1, 40), (40, .istore 6, 2, 42), (42, .iload 6, 2, 44), (44, .iload_n 2, 1, 45), (45, .if_icmp .ge 292, 3, 48), (48, .aload_n 0, 1, 49), (49, .getfield 65, 3, 52), (52, .ifCond .lt 285, 3, 55), (55, .aload_n 0, 1, 56), (56, .getfield 65, 3, 59), (59, .bipush 90, 2, 61), (61, .if_icmp .ge 276, 3, 64), (64, .aload_n 0, 1, 65), (65, .getfield 9, 3, 68), (68, .iload_n 1, 1, 69), (69, .iload 6, 2, 71), (71, .iconst 1, 1, 72), (72, .iadd, 1, 73), (73, .invokevirtual 94, 3, 76), (76, .istore 7, 2, 78), (78, .aload_n 0, 1, 79), (79, .getfield 19, 3, 82), (82, .aload_n 0, 1, 83), (83, .getfield 65, 3, 86), (86, .iload_n 1, 1, 87), (87, .iastore, 1, 88), (88, .aload_n 0, 1, 89), (89, .getfield 22, 3, 92), (92, .aload_n 0, 1, 93), (93, .getfield 65, 3, 96), (96, .iload 6, 2, 98), (98, .iastore, 1, 99), (99, .aload_n 0, 1, 100), (100, .getfield 25, 3, 103), (103, .aload_n 0, 1, 104), (104, .getfield 65, 3, 107), (107, .iload 6, 2, 109), (109, .ifCond .ne 10, 3, 112), (112, .iload_n 3, 1, 113), (113, .iload 4, 2, 115), (115, .iadd, 1, 116), (116, .goto 4, 3, 119), (119, .iload_n 3, 1, 120), (120, .iastore, 1, 121), (121, .aload_n 0, 1, 122), (122, .getfield 28, 3, 125), (125, .aload_n 0, 1, 126), (126, .getfield 65, 3, 129), (129, .iload 6, 2, 131), (131, .ifCond .ne 16, 3, 134), (134, .aload_n 0, 1, 135), (135, .getfield 9, 3, 138), (138, .iload_n 1, 1, 139), (139, .bipush 6, 2, 141), (141, .invokevirtual 84, 3, 144), (144, .goto 4, 3, 147), (147, .iconst 0, 1, 148), (148, .iastore, 1, 149), (149, .aload_n 0, 1, 150), (150, .getfield 31, 3, 153), (153, .aload_n 0, 1, 154), (154, .getfield 65, 3, 157), (157, .iload 7, 2, 159), (159, .iastore, 1, 160), (160, .aload_n 0, 1, 161), (161, .getfield 34, 3, 164), (164, .aload_n 0, 1, 165), (165, .getfield 65, 3, 168), (168, .iload 5, 2, 170), (170, .iastore, 1, 171), (171, .aload_n 0, 1, 172), (172, .getfield 37, 3, 175), (175, .aload_n 0, 1, 176), (176, .getfield 65, 3, 179), (179, .iload 6, 2, 181), (181, .ifCond .ne 7, 3, 184), (184, .iconst 0, 1, 185), (185, .goto 5, 3, 188), (188, .iload 4, 2, 190), (190, .iastore, 1, 191), (191, .aload_n 0, 1, 192), (192, .getfield 40, 3, 195), (195, .aload_n 0, 1, 196), (196, .getfield 65, 3, 199), (199, .iconst 1, 1, 200), (200, .iadd, 1, 201), (201, .aload_n 0, 1, 202), (202, .getfield 40, 3, 205), (205, .aload_n 0, 1, 206), (206, .getfield 65, 3, 209), (209, .iaload, 1, 210), (210, .aload_n 0, 1, 211), (211, .getfield 25, 3, 214), (214, .aload_n 0, 1, 215), (215, .getfield 65, 3, 218), (218, .iaload, 1, 219), (219, .iadd, 1, 220), (220, .aload_n 0, 1, 221), (221, .getfield 28, 3, 224), (224, .aload_n 0, 1, 225), (225, .getfield 65, 3, 228), (228, .iaload, 1, 229), (229, .iadd, 1, 230), (230, .iastore, 1, 231), (231, .aload_n 0, 1, 232), (232, .getfield 43, 3, 235), (235, .aload_n 0, 1, 236), (236, .getfield 65, 3, 239), (239, .iconst 1, 1, 240), (240, .iadd, 1, 241), (241, .aload_n 0, 1, 242), (242, .getfield 43, 3, 245), (245, .aload_n 0, 1, 246), (246, .getfield 65, 3, 249), (249, .iaload, 1, 250), (250, .iload 7, 2, 252), (252, .iadd, 1, 253), (253, .iastore, 1, 254), (254, .aload_n 0, 1, 255), (255, .getfield 46, 3, 258), (258, .aload_n 0, 1, 259), (259, .getfield 65, 3, 262), (262, .iconst 1, 1, 263), (263, .iadd, 1, 264), (264, .iload 7, 2, 266), (266, .ifCond .le 8, 3, 269), (269, .iload 7, 2, 271), (271, .goto 12, 3, 274), (274, .aload_n 0, 1, 275), (275, .getfield 46, 3, 278), (278, .aload_n 0, 1, 279), (279, .getfield 65, 3, 282), (282, .iaload, 1, 283), (283, .iastore, 1, 284), (284, .iload 7, 2, 286), (286, .ifCond .le 35, 3, 289), (289, .aload_n 0, 1, 290), (290, .getfield 72, 3, 293), (293, .bipush 64, 2, 295), (295, .if_icmp .ge 26, 3, 298), (298, .aload_n 0, 1, 299), (299, .getfield 62, 3, 302), (302, .aload_n 0, 1, 303), (303, .getfield 72, 3, 306), (306, .aload_n 0, 1, 307), (307, .getfield 65, 3, 310), (310, .iastore, 1, 311), (311, .aload_n 0, 1, 312), (312, .dup, 1, 313), (313, .getfield 72, 3, 316), (316, .iconst 1, 1, 317), (317, .iadd, 1, 318), (318, .putfield 72, 3, 321), (321, .aload_n 0, 1, 322), (322, .dup, 1, 323), (323, .getfield 65, 3, 326), (326, .iconst 1, 1, 327), (327, .iadd, 1, 328), (328, .putfield 65, 3, 331), (331, .iinc 6 1, 3, 334), (334, .goto (-292), 3, 337), (337, .iload 5, 2, 339), (339, .ifCond .lt 21, 3, 342), (342, .iload 5, 2, 344), (344, .bipush 17, 2, 346), (346, .if_icmp .ge 14, 3, 349), (349, .aload_n 0, 1, 350), (350, .getfield 56, 3, 353), (353, .iload 5, 2, 355), (355, .aload_n 0, 1, 356), (356, .getfield 65, 3, 359), (359, .iastore, 1, 360), (360, .return_, 1, 361)]
theorem jd_Flow_layPieces : qm_D prog_3_method_4_code jl_Flow_layPieces := qm_D_of (by decide +kernel)
noncomputable def jf_Flow_layPieces (this : Nat) (p1 : Int32) : qm_M Unit :=
  mB (jf_Run_cell (qm_rf this 3) p1 1) fun x1 =>
  mB (jf_Run_cell (qm_rf this 3) p1 2) fun x2 =>
  mB (jf_Run_cell (qm_rf this 3) p1 3) fun x3 =>
  mB (mGt this 1) fun x4 =>
  mB (mP (x4 - 1)) fun x5 =>
  mB (α := Unit) (
    mW (S := Int32) (α := Unit) (fun s7 =>
      if x1 ≤ s7 then
        mP (Sum.inr ())
      else
        mB (mGt this 0) fun x8 =>
        if x8 < 0 then
          mP (Sum.inr ())
        else
          mB (mGt this 0) fun x9 =>
          if 90 ≤ x9 then
            mP (Sum.inr ())
          else
            mB (jf_Run_noteAt (qm_rf this 3) p1 (s7 + 1)) fun x10 =>
            mB (mGt this 0) fun x11 =>
            mB (mSt (qm_rf this 5) x11 p1) fun _ =>
            mB (mGt this 0) fun x12 =>
            mB (mSt (qm_rf this 6) x12 s7) fun _ =>
            mB (mGt this 0) fun x13 =>
            mB (α := Int32) (
              if ¬ s7 = 0 then
                mP x2
              else
                mP (x2 + x3)) fun s14 =>
            mB (mSt (qm_rf this 7) x13 s14) fun _ =>
            mB (mGt this 0) fun x15 =>
            mB (α := Int32) (
              if ¬ s7 = 0 then
                mP 0
              else
                mB (jf_Run_cell (qm_rf this 3) p1 6) fun x17 =>
                mP x17) fun s16 =>
            mB (mSt (qm_rf this 8) x15 s16) fun _ =>
            mB (mGt this 0) fun x18 =>
            mB (mSt (qm_rf this 9) x18 x10) fun _ =>
            mB (mGt this 0) fun x19 =>
            mB (mSt (qm_rf this 10) x19 x5) fun _ =>
            mB (mGt this 0) fun x20 =>
            mB (α := Int32) (
              if ¬ s7 = 0 then
                mP x3
              else
                mP 0) fun s21 =>
            mB (mSt (qm_rf this 11) x20 s21) fun _ =>
            mB (mGt this 0) fun x22 =>
            mB (mGt this 0) fun x23 =>
            mB (mLd (qm_rf this 12) x23) fun x24 =>
            mB (mGt this 0) fun x25 =>
            mB (mLd (qm_rf this 7) x25) fun x26 =>
            mB (mGt this 0) fun x27 =>
            mB (mLd (qm_rf this 8) x27) fun x28 =>
            mB (mSt (qm_rf this 12) (x22 + 1) ((x24 + x26) + x28)) fun _ =>
            mB (mGt this 0) fun x29 =>
            mB (mGt this 0) fun x30 =>
            mB (mLd (qm_rf this 13) x30) fun x31 =>
            mB (mSt (qm_rf this 13) (x29 + 1) (x31 + x10)) fun _ =>
            mB (mGt this 0) fun x32 =>
            mB (α := Int32) (
              if x10 ≤ 0 then
                mB (mGt this 0) fun x34 =>
                mB (mLd (qm_rf this 14) x34) fun x35 =>
                mP x35
              else
                mP x10) fun s33 =>
            mB (mSt (qm_rf this 14) (x32 + 1) s33) fun _ =>
            mB (α := Unit) (
              if x10 ≤ 0 then
                mP ()
              else
                mB (mGt this 2) fun x37 =>
                if 64 ≤ x37 then
                  mP ()
                else
                  mB (mGt this 2) fun x38 =>
                  mB (mGt this 0) fun x39 =>
                  mB (mSt (qm_rf this 19) x38 x39) fun _ =>
                  mB (mGt this 2) fun x40 =>
                  mB (mPt this 2 (x40 + 1)) fun _ =>
                  mP ()) fun s36 =>
            mB (mGt this 0) fun x41 =>
            mB (mPt this 0 (x41 + 1)) fun _ =>
            mB (mP (s7 + 1)) fun x42 =>
            mP (Sum.inl x42)) 0) fun s6 =>
  if x5 < 0 then
    mP ()
  else
    if 17 ≤ x5 then
      mP ()
    else
      mB (mGt this 0) fun x43 =>
      mB (mSt (qm_rf this 17) x5 x43) fun _ =>
      mP ()
set_option maxRecDepth 20000 in
set_option maxHeartbeats 4000000 in
theorem jb_Flow_layPieces {X : qm_X} (hX : qm_ok X qr_Flow prog_3_method_4_code 8 2 46 jl_Flow_layPieces) {σ0 : qm_Mem} (hR : qm_RV X σ0) (this : Nat) (p1 : Int32) (hthis : (qm_kd this).1 = 11) : qm_B X (jf_Flow_layPieces this p1) 0 [some (.ref (qx_ad X this)), some (.int p1), none, none, none, none, none, none] [] (fun _ σ1 => σ1 = σ0) := by
  unfold jf_Flow_layPieces
  refine qb_aload_n hX 0 rfl rfl ?_
  refine qb_getR hX 1 rfl fl_Flow_9 hthis rfl ?_
  refine qb_iload_n hX 2 rfl rfl ?_
  refine qb_iconst hX 3 1 rfl (by decide) ?_
  refine qb_callI hX 4 rfl cv_Flow_84 (jm_Run_cell (qk_GI hX) (qm_rf this 3) p1 1 (kf_Flow_3 hthis) ) (ci := 4) (kf_Flow_3 hthis) ⟨rfl, rfl, rfl, by decide, by decide⟩ rfl (by exact Nat.le_of_ble_eq_true rfl) (fun x1 => ?_)
  refine qb_istore_n hX 5 ([some (.ref (qx_ad X this)), some (.int p1), some (.int x1), none, none, none, none, none]) rfl (by decide) rfl ?_
  refine qb_aload_n hX 6 rfl rfl ?_
  refine qb_getR hX 7 rfl fl_Flow_9 hthis rfl ?_
  refine qb_iload_n hX 8 rfl rfl ?_
  refine qb_iconst hX 9 2 rfl (by decide) ?_
  refine qb_callI hX 10 rfl cv_Flow_84 (jm_Run_cell (qk_GI hX) (qm_rf this 3) p1 2 (kf_Flow_3 hthis) ) (ci := 4) (kf_Flow_3 hthis) ⟨rfl, rfl, rfl, by decide, by decide⟩ rfl (by exact Nat.le_of_ble_eq_true rfl) (fun x2 => ?_)
  refine qb_istore_n hX 11 ([some (.ref (qx_ad X this)), some (.int p1), some (.int x1), some (.int x2), none, none, none, none]) rfl (by decide) rfl ?_
  refine qb_aload_n hX 12 rfl rfl ?_
  refine qb_getR hX 13 rfl fl_Flow_9 hthis rfl ?_
  refine qb_iload_n hX 14 rfl rfl ?_
  refine qb_iconst hX 15 3 rfl (by decide) ?_
  refine qb_callI hX 16 rfl cv_Flow_84 (jm_Run_cell (qk_GI hX) (qm_rf this 3) p1 3 (kf_Flow_3 hthis) ) (ci := 4) (kf_Flow_3 hthis) ⟨rfl, rfl, rfl, by decide, by decide⟩ rfl (by exact Nat.le_of_ble_eq_true rfl) (fun x3 => ?_)
  refine qb_istore hX 17 ([some (.ref (qx_ad X this)), some (.int p1), some (.int x1), some (.int x2), some (.int x3), none, none, none]) rfl (by decide) rfl ?_
  refine qb_aload_n hX 18 rfl rfl ?_
  refine qb_get hX 19 rfl fl_Flow_69 hthis rfl (fun x4 => ?_)
  refine qb_iconst hX 20 1 rfl (by decide) ?_
  refine qb_isub hX 21 rfl ?_
  refine qb_istoreL hX 22 (fun x5 => [some (.ref (qx_ad X this)), some (.int p1), some (.int x1), some (.int x2), some (.int x3), some (.int x5), none, none]) rfl (by decide) (fun _ => rfl) (fun x5 => ?_)
  refine qb_iconst hX 23 0 rfl (by decide) ?_
  refine qb_istore hX 24 ([some (.ref (qx_ad X this)), some (.int p1), some (.int x1), some (.int x2), some (.int x3), some (.int x5), some (.int 0), none]) rfl (by decide) rfl ?_
  refine qb_join 337 (fun s6 => [some (.ref (qx_ad X this)), none, none, none, none, some (.int x5), none, none]) (fun s6 => []) ?_ ?_
  ·
    refine qb_loopw (0) (fun s7 => [some (.ref (qx_ad X this)), some (.int p1), some (.int x1), some (.int x2), some (.int x3), some (.int x5), some (.int s7), none]) (qw_s (qw_s (qw_s (qw_s (qw_s (qw_s (qw_s (qw_n (qw_0))))))))) (fun s7 => ?_)
    refine qb_iload hX 25 rfl rfl ?_
    refine qb_iload_n hX 26 rfl rfl ?_
    refine qb_icge hX 27 337 rfl (by decide) ?_ ?_
    ·
      exact qb_exit (fun σ h => qj_wk (ρ' := [some (.ref (qx_ad X this)), none, none, none, none, some (.int x5), none, none]) (qw_s (qw_n (qw_n (qw_n (qw_n (qw_s (qw_n (qw_n (qw_0))))))))) h)
    ·
      refine qb_aload_n hX 28 rfl rfl ?_
      refine qb_get hX 29 rfl fl_Flow_65 hthis rfl (fun x8 => ?_)
      refine qb_iflt hX 30 337 rfl (by decide) ?_ ?_
      ·
        exact qb_exit (fun σ h => qj_wk (ρ' := [some (.ref (qx_ad X this)), none, none, none, none, some (.int x5), none, none]) (qw_s (qw_n (qw_n (qw_n (qw_n (qw_s (qw_n (qw_n (qw_0))))))))) h)
      ·
        refine qb_aload_n hX 31 rfl rfl ?_
        refine qb_get hX 32 rfl fl_Flow_65 hthis rfl (fun x9 => ?_)
        refine qb_bipush hX 33 90 rfl (by decide) ?_
        refine qb_icge hX 34 337 rfl (by decide) ?_ ?_
        ·
          exact qb_exit (fun σ h => qj_wk (ρ' := [some (.ref (qx_ad X this)), none, none, none, none, some (.int x5), none, none]) (qw_s (qw_n (qw_n (qw_n (qw_n (qw_s (qw_n (qw_n (qw_0))))))))) h)
        ·
          refine qb_aload_n hX 35 rfl rfl ?_
          refine qb_getR hX 36 rfl fl_Flow_9 hthis rfl ?_
          refine qb_iload_n hX 37 rfl rfl ?_
          refine qb_iload hX 38 rfl rfl ?_
          refine qb_iconst hX 39 1 rfl (by decide) ?_
          refine qb_iadd hX 40 rfl ?_
          refine qb_callI hX 41 rfl cv_Flow_94 (jm_Run_noteAt (qk_GI hX) (qm_rf this 3) p1 (s7 + 1) (kf_Flow_3 hthis) ) (ci := 4) (kf_Flow_3 hthis) ⟨rfl, rfl, rfl, by decide, by decide⟩ rfl (by exact Nat.le_of_ble_eq_true rfl) (fun x10 => ?_)
          refine qb_istore hX 42 ([some (.ref (qx_ad X this)), some (.int p1), some (.int x1), some (.int x2), some (.int x3), some (.int x5), some (.int s7), some (.int x10)]) rfl (by decide) rfl ?_
          refine qb_aload_n hX 43 rfl rfl ?_
          refine qb_getR hX 44 rfl fl_Flow_19 hthis rfl ?_
          refine qb_aload_n hX 45 rfl rfl ?_
          refine qb_get hX 46 rfl fl_Flow_65 hthis rfl (fun x11 => ?_)
          refine qb_iload_n hX 47 rfl rfl ?_
          refine qb_iast hX 48 rfl (kf_Flow_5 hthis) ?_
          refine qb_aload_n hX 49 rfl rfl ?_
          refine qb_getR hX 50 rfl fl_Flow_22 hthis rfl ?_
          refine qb_aload_n hX 51 rfl rfl ?_
          refine qb_get hX 52 rfl fl_Flow_65 hthis rfl (fun x12 => ?_)
          refine qb_iload hX 53 rfl rfl ?_
          refine qb_iast hX 54 rfl (kf_Flow_6 hthis) ?_
          refine qb_aload_n hX 55 rfl rfl ?_
          refine qb_getR hX 56 rfl fl_Flow_25 hthis rfl ?_
          refine qb_aload_n hX 57 rfl rfl ?_
          refine qb_get hX 58 rfl fl_Flow_65 hthis rfl (fun x13 => ?_)
          refine qb_iload hX 59 rfl rfl ?_
          refine qb_join 120 (fun s14 => [some (.ref (qx_ad X this)), some (.int p1), some (.int x1), some (.int x2), some (.int x3), some (.int x5), some (.int s7), some (.int x10)]) (fun s14 => [.int s14, .int x13, .ref (qx_ad X (qm_rf this 7))]) ?_ ?_
          ·
            refine qb_ifne hX 60 119 rfl (by decide) ?_ ?_
            ·
              refine qb_iload_n hX 65 rfl rfl ?_
              exact qb_exit (fun σ h => qj_wk (ρ' := [some (.ref (qx_ad X this)), some (.int p1), some (.int x1), some (.int x2), some (.int x3), some (.int x5), some (.int s7), some (.int x10)]) (qw_s (qw_s (qw_s (qw_s (qw_s (qw_s (qw_s (qw_s (qw_0))))))))) h)
            ·
              refine qb_iload_n hX 61 rfl rfl ?_
              refine qb_iload hX 62 rfl rfl ?_
              refine qb_iadd hX 63 rfl ?_
              exact qb_exit (fun σ h => qj_goto hX 64 rfl (by decide) (qj_wk (ρ' := [some (.ref (qx_ad X this)), some (.int p1), some (.int x1), some (.int x2), some (.int x3), some (.int x5), some (.int s7), some (.int x10)]) (qw_s (qw_s (qw_s (qw_s (qw_s (qw_s (qw_s (qw_s (qw_0))))))))) h))
          · intro s14
            refine qb_iast hX 66 rfl (kf_Flow_7 hthis) ?_
            refine qb_aload_n hX 67 rfl rfl ?_
            refine qb_getR hX 68 rfl fl_Flow_28 hthis rfl ?_
            refine qb_aload_n hX 69 rfl rfl ?_
            refine qb_get hX 70 rfl fl_Flow_65 hthis rfl (fun x15 => ?_)
            refine qb_iload hX 71 rfl rfl ?_
            refine qb_join 148 (fun s16 => [some (.ref (qx_ad X this)), some (.int p1), some (.int x1), some (.int x2), some (.int x3), some (.int x5), some (.int s7), some (.int x10)]) (fun s16 => [.int s16, .int x15, .ref (qx_ad X (qm_rf this 8))]) ?_ ?_
            ·
              refine qb_ifne hX 72 147 rfl (by decide) ?_ ?_
              ·
                refine qb_iconst hX 79 0 rfl (by decide) ?_
                exact qb_exit (fun σ h => qj_wk (ρ' := [some (.ref (qx_ad X this)), some (.int p1), some (.int x1), some (.int x2), some (.int x3), some (.int x5), some (.int s7), some (.int x10)]) (qw_s (qw_s (qw_s (qw_s (qw_s (qw_s (qw_s (qw_s (qw_0))))))))) h)
              ·
                refine qb_aload_n hX 73 rfl rfl ?_
                refine qb_getR hX 74 rfl fl_Flow_9 hthis rfl ?_
                refine qb_iload_n hX 75 rfl rfl ?_
                refine qb_bipush hX 76 6 rfl (by decide) ?_
                refine qb_callI hX 77 rfl cv_Flow_84 (jm_Run_cell (qk_GI hX) (qm_rf this 3) p1 6 (kf_Flow_3 hthis) ) (ci := 4) (kf_Flow_3 hthis) ⟨rfl, rfl, rfl, by decide, by decide⟩ rfl (by exact Nat.le_of_ble_eq_true rfl) (fun x17 => ?_)
                exact qb_exit (fun σ h => qj_goto hX 78 rfl (by decide) (qj_wk (ρ' := [some (.ref (qx_ad X this)), some (.int p1), some (.int x1), some (.int x2), some (.int x3), some (.int x5), some (.int s7), some (.int x10)]) (qw_s (qw_s (qw_s (qw_s (qw_s (qw_s (qw_s (qw_s (qw_0))))))))) h))
            · intro s16
              refine qb_iast hX 80 rfl (kf_Flow_8 hthis) ?_
              refine qb_aload_n hX 81 rfl rfl ?_
              refine qb_getR hX 82 rfl fl_Flow_31 hthis rfl ?_
              refine qb_aload_n hX 83 rfl rfl ?_
              refine qb_get hX 84 rfl fl_Flow_65 hthis rfl (fun x18 => ?_)
              refine qb_iload hX 85 rfl rfl ?_
              refine qb_iast hX 86 rfl (kf_Flow_9 hthis) ?_
              refine qb_aload_n hX 87 rfl rfl ?_
              refine qb_getR hX 88 rfl fl_Flow_34 hthis rfl ?_
              refine qb_aload_n hX 89 rfl rfl ?_
              refine qb_get hX 90 rfl fl_Flow_65 hthis rfl (fun x19 => ?_)
              refine qb_iload hX 91 rfl rfl ?_
              refine qb_iast hX 92 rfl (kf_Flow_10 hthis) ?_
              refine qb_aload_n hX 93 rfl rfl ?_
              refine qb_getR hX 94 rfl fl_Flow_37 hthis rfl ?_
              refine qb_aload_n hX 95 rfl rfl ?_
              refine qb_get hX 96 rfl fl_Flow_65 hthis rfl (fun x20 => ?_)
              refine qb_iload hX 97 rfl rfl ?_
              refine qb_join 190 (fun s21 => [some (.ref (qx_ad X this)), some (.int p1), some (.int x1), some (.int x2), some (.int x3), some (.int x5), some (.int s7), some (.int x10)]) (fun s21 => [.int s21, .int x20, .ref (qx_ad X (qm_rf this 11))]) ?_ ?_
              ·
                refine qb_ifne hX 98 188 rfl (by decide) ?_ ?_
                ·
                  refine qb_iload hX 101 rfl rfl ?_
                  exact qb_exit (fun σ h => qj_wk (ρ' := [some (.ref (qx_ad X this)), some (.int p1), some (.int x1), some (.int x2), some (.int x3), some (.int x5), some (.int s7), some (.int x10)]) (qw_s (qw_s (qw_s (qw_s (qw_s (qw_s (qw_s (qw_s (qw_0))))))))) h)
                ·
                  refine qb_iconst hX 99 0 rfl (by decide) ?_
                  exact qb_exit (fun σ h => qj_goto hX 100 rfl (by decide) (qj_wk (ρ' := [some (.ref (qx_ad X this)), some (.int p1), some (.int x1), some (.int x2), some (.int x3), some (.int x5), some (.int s7), some (.int x10)]) (qw_s (qw_s (qw_s (qw_s (qw_s (qw_s (qw_s (qw_s (qw_0))))))))) h))
              · intro s21
                refine qb_iast hX 102 rfl (kf_Flow_11 hthis) ?_
                refine qb_aload_n hX 103 rfl rfl ?_
                refine qb_getR hX 104 rfl fl_Flow_40 hthis rfl ?_
                refine qb_aload_n hX 105 rfl rfl ?_
                refine qb_get hX 106 rfl fl_Flow_65 hthis rfl (fun x22 => ?_)
                refine qb_iconst hX 107 1 rfl (by decide) ?_
                refine qb_iadd hX 108 rfl ?_
                refine qb_aload_n hX 109 rfl rfl ?_
                refine qb_getR hX 110 rfl fl_Flow_40 hthis rfl ?_
                refine qb_aload_n hX 111 rfl rfl ?_
                refine qb_get hX 112 rfl fl_Flow_65 hthis rfl (fun x23 => ?_)
                refine qb_iald hX 113 rfl (kf_Flow_12 hthis) (fun x24 => ?_)
                refine qb_aload_n hX 114 rfl rfl ?_
                refine qb_getR hX 115 rfl fl_Flow_25 hthis rfl ?_
                refine qb_aload_n hX 116 rfl rfl ?_
                refine qb_get hX 117 rfl fl_Flow_65 hthis rfl (fun x25 => ?_)
                refine qb_iald hX 118 rfl (kf_Flow_7 hthis) (fun x26 => ?_)
                refine qb_iadd hX 119 rfl ?_
                refine qb_aload_n hX 120 rfl rfl ?_
                refine qb_getR hX 121 rfl fl_Flow_28 hthis rfl ?_
                refine qb_aload_n hX 122 rfl rfl ?_
                refine qb_get hX 123 rfl fl_Flow_65 hthis rfl (fun x27 => ?_)
                refine qb_iald hX 124 rfl (kf_Flow_8 hthis) (fun x28 => ?_)
                refine qb_iadd hX 125 rfl ?_
                refine qb_iast hX 126 rfl (kf_Flow_12 hthis) ?_
                refine qb_aload_n hX 127 rfl rfl ?_
                refine qb_getR hX 128 rfl fl_Flow_43 hthis rfl ?_
                refine qb_aload_n hX 129 rfl rfl ?_
                refine qb_get hX 130 rfl fl_Flow_65 hthis rfl (fun x29 => ?_)
                refine qb_iconst hX 131 1 rfl (by decide) ?_
                refine qb_iadd hX 132 rfl ?_
                refine qb_aload_n hX 133 rfl rfl ?_
                refine qb_getR hX 134 rfl fl_Flow_43 hthis rfl ?_
                refine qb_aload_n hX 135 rfl rfl ?_
                refine qb_get hX 136 rfl fl_Flow_65 hthis rfl (fun x30 => ?_)
                refine qb_iald hX 137 rfl (kf_Flow_13 hthis) (fun x31 => ?_)
                refine qb_iload hX 138 rfl rfl ?_
                refine qb_iadd hX 139 rfl ?_
                refine qb_iast hX 140 rfl (kf_Flow_13 hthis) ?_
                refine qb_aload_n hX 141 rfl rfl ?_
                refine qb_getR hX 142 rfl fl_Flow_46 hthis rfl ?_
                refine qb_aload_n hX 143 rfl rfl ?_
                refine qb_get hX 144 rfl fl_Flow_65 hthis rfl (fun x32 => ?_)
                refine qb_iconst hX 145 1 rfl (by decide) ?_
                refine qb_iadd hX 146 rfl ?_
                refine qb_iload hX 147 rfl rfl ?_
                refine qb_join 283 (fun s33 => [some (.ref (qx_ad X this)), some (.int p1), some (.int x1), some (.int x2), some (.int x3), some (.int x5), some (.int s7), some (.int x10)]) (fun s33 => [.int s33, .int (x32 + 1), .ref (qx_ad X (qm_rf this 14))]) ?_ ?_
                ·
                  refine qb_ifle hX 148 274 rfl (by decide) ?_ ?_
                  ·
                    refine qb_aload_n hX 151 rfl rfl ?_
                    refine qb_getR hX 152 rfl fl_Flow_46 hthis rfl ?_
                    refine qb_aload_n hX 153 rfl rfl ?_
                    refine qb_get hX 154 rfl fl_Flow_65 hthis rfl (fun x34 => ?_)
                    refine qb_iald hX 155 rfl (kf_Flow_14 hthis) (fun x35 => ?_)
                    exact qb_exit (fun σ h => qj_wk (ρ' := [some (.ref (qx_ad X this)), some (.int p1), some (.int x1), some (.int x2), some (.int x3), some (.int x5), some (.int s7), some (.int x10)]) (qw_s (qw_s (qw_s (qw_s (qw_s (qw_s (qw_s (qw_s (qw_0))))))))) h)
                  ·
                    refine qb_iload hX 149 rfl rfl ?_
                    exact qb_exit (fun σ h => qj_goto hX 150 rfl (by decide) (qj_wk (ρ' := [some (.ref (qx_ad X this)), some (.int p1), some (.int x1), some (.int x2), some (.int x3), some (.int x5), some (.int s7), some (.int x10)]) (qw_s (qw_s (qw_s (qw_s (qw_s (qw_s (qw_s (qw_s (qw_0))))))))) h))
                · intro s33
                  refine qb_iast hX 156 rfl (kf_Flow_14 hthis) ?_
                  refine qb_iload hX 157 rfl rfl ?_
                  refine qb_join 321 (fun s36 => [some (.ref (qx_ad X this)), some (.int p1), some (.int x1), some (.int x2), some (.int x3), some (.int x5), some (.int s7), none]) (fun s36 => []) ?_ ?_
                  ·
                    refine qb_ifle hX 158 321 rfl (by decide) ?_ ?_
                    ·
                      exact qb_exit (fun σ h => qj_wk (ρ' := [some (.ref (qx_ad X this)), some (.int p1), some (.int x1), some (.int x2), some (.int x3), some (.int x5), some (.int s7), none]) (qw_s (qw_s (qw_s (qw_s (qw_s (qw_s (qw_s (qw_n (qw_0))))))))) h)
                    ·
                      refine qb_aload_n hX 159 rfl rfl ?_
                      refine qb_get hX 160 rfl fl_Flow_72 hthis rfl (fun x37 => ?_)
                      refine qb_bipush hX 161 64 rfl (by decide) ?_
                      refine qb_icge hX 162 321 rfl (by decide) ?_ ?_
                      ·
                        exact qb_exit (fun σ h => qj_wk (ρ' := [some (.ref (qx_ad X this)), some (.int p1), some (.int x1), some (.int x2), some (.int x3), some (.int x5), some (.int s7), none]) (qw_s (qw_s (qw_s (qw_s (qw_s (qw_s (qw_s (qw_n (qw_0))))))))) h)
                      ·
                        refine qb_aload_n hX 163 rfl rfl ?_
                        refine qb_getR hX 164 rfl fl_Flow_62 hthis rfl ?_
                        refine qb_aload_n hX 165 rfl rfl ?_
                        refine qb_get hX 166 rfl fl_Flow_72 hthis rfl (fun x38 => ?_)
                        refine qb_aload_n hX 167 rfl rfl ?_
                        refine qb_get hX 168 rfl fl_Flow_65 hthis rfl (fun x39 => ?_)
                        refine qb_iast hX 169 rfl (kf_Flow_19 hthis) ?_
                        refine qb_aload_n hX 170 rfl rfl ?_
                        refine qb_dup hX 171 rfl rfl ?_
                        refine qb_get hX 172 rfl fl_Flow_72 hthis rfl (fun x40 => ?_)
                        refine qb_iconst hX 173 1 rfl (by decide) ?_
                        refine qb_iadd hX 174 rfl ?_
                        refine qb_put hX 175 rfl fp_Flow_72 hthis ?_
                        exact qb_exit (fun σ h => qj_wk (ρ' := [some (.ref (qx_ad X this)), some (.int p1), some (.int x1), some (.int x2), some (.int x3), some (.int x5), some (.int s7), none]) (qw_s (qw_s (qw_s (qw_s (qw_s (qw_s (qw_s (qw_n (qw_0))))))))) h)
                  · intro s36
                    refine qb_aload_n hX 176 rfl rfl ?_
                    refine qb_dup hX 177 rfl rfl ?_
                    refine qb_get hX 178 rfl fl_Flow_65 hthis rfl (fun x41 => ?_)
                    refine qb_iconst hX 179 1 rfl (by decide) ?_
                    refine qb_iadd hX 180 rfl ?_
                    refine qb_put hX 181 rfl fp_Flow_65 hthis ?_
                    refine qb_iinc hX 182 1 (fun x42 => [some (.ref (qx_ad X this)), some (.int p1), some (.int x1), some (.int x2), some (.int x3), some (.int x5), some (.int x42), none]) rfl (by decide) (by decide) rfl (fun _ => rfl) (fun x42 => ?_)
                    exact qb_exit (fun σ h => qj_goto hX 183 rfl (by decide) (qj_wk (ρ' := [some (.ref (qx_ad X this)), some (.int p1), some (.int x1), some (.int x2), some (.int x3), some (.int x5), some (.int x42), none]) (qw_s (qw_s (qw_s (qw_s (qw_s (qw_s (qw_s (qw_n (qw_0))))))))) h))
  · intro s6
    refine qb_iload hX 184 rfl rfl ?_
    refine qb_iflt hX 185 360 rfl (by decide) ?_ ?_
    ·
      exact qb_vret hX 195 rfl hR (fun _ h => h)
    ·
      refine qb_iload hX 186 rfl rfl ?_
      refine qb_bipush hX 187 17 rfl (by decide) ?_
      refine qb_icge hX 188 360 rfl (by decide) ?_ ?_
      ·
        exact qb_vret hX 195 rfl hR (fun _ h => h)
      ·
        refine qb_aload_n hX 189 rfl rfl ?_
        refine qb_getR hX 190 rfl fl_Flow_56 hthis rfl ?_
        refine qb_iload hX 191 rfl rfl ?_
        refine qb_aload_n hX 192 rfl rfl ?_
        refine qb_get hX 193 rfl fl_Flow_65 hthis rfl (fun x43 => ?_)
        refine qb_iast hX 194 rfl (kf_Flow_17 hthis) ?_
        exact qb_vret hX 195 rfl hR (fun _ h => h)
theorem jm_Flow_layPieces {l : Launch} {G : qm_G} (hG : qm_GI G) (this : Nat) (p1 : Int32) (hthis : (qm_kd this).1 = 11) : qm_MV l G jy_Flow_layPieces prog_3_method_4_code 8 2 46 [.ref (G.1 this), .int p1] (jf_Flow_layPieces this p1) :=
  qm_metV (by decide +kernel) jd_Flow_layPieces (fun v hv => by simp only [List.mem_cons, List.not_mem_nil, or_false] at hv; rcases hv with rfl | rfl <;> rfl) (by exact Nat.le_of_ble_eq_true rfl) hG (fun X hl hg hX σ0 hR => by subst hl; subst hg; exact jb_Flow_layPieces hX hR this p1 hthis)
def jl_Flow_endsBehind : List qm_I := [(0, .aload_n 0, 1, 1), (1, .getfield 9, 3, 4), (4, .iload_n 1, 1, 5), (5, .iconst 0, 1, 6), (6, .invokevirtual 84, 3, 9), (9, .istore_n 3, 1, 10), (10, .aload_n 0, 1, 11), (11, .getfield 9, 3, 14), (14, .iload_n 1, 1, 15), (15, .iconst 1, 1, 16), (16, .invokevirtual 84, 3, 19), (19, .iload_n 2, 1, 20), (20, .isub, 1, 21), (21, .istore 4, 2, 23), (23, .iload 4, 2, 25), (25, .ifCond .gt 26, 3, 28), (28, .iload_n 3, 1, 29), (29, .iconst 2, 1, 30), (30, .if_icmp .eq 19, 3, 33), (33, .aload_n 0, 1, 34), (34, .getfield 9, 3, 37), (37, .iload_n 1, 1, 38), (38, .iconst 4, 1, 39), (39, .invokevirtual 84, 3, 42), (42, .ifCond .ne 7, 3, 45), (45, .iconst 1, 1, 46), (46, .goto 4, 3, 49), (49, .iconst 0, 1, 50), (50, .ireturn, 1, 51), (51, .iload_n 3, 1, 52), (52, .ifCond .eq 14, 3, 55), (55, .iload_n 3, 1, 56), (56, .iconst 3, 1, 57), (57, .if_icmp .ne 7, 3, 60), (60, .iconst 1, 1, 61), (61, .goto 4, 3, 64), (64, .iconst 0, 1, 65), (65, .ireturn, 1, 66), (66, .iload_n 1, 1, 67), (67, .ifCond .le 22, 3, 70), (70, .aload_n 0, 1, 71), (71, .getfield 9, 3, 74), (74, .iload_n 1, 1, 75), (75, .iconst 1, 1, 76), (76, .isub, 1, 77), (77, .iconst 0, 1, 78), (78, .invokevirtual 84, 3, 81), (81, .iconst 2, 1, 82), (82, .if_icmp .ne 7, 3, 85), (85, .iconst 1, 1, 86), (86, .goto 4, 3, 89), (89, .iconst 0, 1, 90), (90, .istore 5, 2, 92), (92, .aload_n 0, 1, 93), (93, .getfield 9, 3, 96), (96, .iload_n 1, 1, 97), (97, .iconst 5, 1, 98), (98, .invokevirtual 84, 3, 101), (101, .ifCond .ne 49, 3, 104), (104, .iload_n 2, 1, 105), (105, .aload_n 0, 1, 106), (106, .getfield 9, 3, 109), (109, .iconst 2, 1, 110), (110, .invokevirtual 104, 3, 113), (113, .if_icmp .lt 37, 3, 116), (116, .iload 5, 2, 118), (118, .ifCond .eq 15, 3, 121), (121, .iload_n 2, 1, 122), (122, .aload_n 0, 1, 123), (123, .getfield 9, 3, 126), (126, .iconst 4, 1, 127), (127, .invokevirtual 104, 3, 130), (130, .if_icmp .lt 20, 3, 133), (133, .iload 4, 2, 135), (135, .aload_n 0, 1, 136), (136, .getfield 9, 3, 139), (139, .iconst 3, 1, 140), (140, .invokevirtual 104, 3, 143), (143, .if_icmp .lt 7, 3, 146), (146, .iconst 1, 1, 147), (147, .goto 4, 3, 150), (150, .iconst 0, 1, 151), (151, .ireturn, 1, 152)]
theorem jd_Flow_endsBehind : qm_D prog_3_method_7_code jl_Flow_endsBehind := qm_D_of (by decide +kernel)
noncomputable def jf_Flow_endsBehind (this : Nat) (p1 : Int32) (p2 : Int32) : qm_M Int32 :=
  mB (jf_Run_cell (qm_rf this 3) p1 0) fun x1 =>
  mB (jf_Run_cell (qm_rf this 3) p1 1) fun x2 =>
  mB (mP (x2 - p2)) fun x3 =>
  if 0 < x3 then
    if x1 = 0 then
      mB (α := Int32) (
        mB (α := (Unit ⊕ Int32)) (
          if p1 ≤ 0 then
            mP (Sum.inl ())
          else
            mB (jf_Run_cell (qm_rf this 3) (p1 - 1) 0) fun x6 =>
            if ¬ x6 = 2 then
              mP (Sum.inl ())
            else
              mP (Sum.inr 1)) (Sum.elim (fun s5 =>
          mP 0) mP)) fun s4 =>
      mB (jf_Run_cell (qm_rf this 3) p1 5) fun x7 =>
      if ¬ x7 = 0 then
        mP 0
      else
        mB (jf_Run_setting (qm_rf this 3) 2) fun x8 =>
        if p2 < x8 then
          mP 0
        else
          mB (α := (Unit ⊕ Int32)) (
            if s4 = 0 then
              mP (Sum.inl ())
            else
              mB (jf_Run_setting (qm_rf this 3) 4) fun x10 =>
              if p2 < x10 then
                mP (Sum.inr 0)
              else
                mP (Sum.inl ())) (Sum.elim (fun s9 =>
            mB (jf_Run_setting (qm_rf this 3) 3) fun x11 =>
            if x3 < x11 then
              mP 0
            else
              mP 1) mP)
    else
      if ¬ x1 = 3 then
        mP 0
      else
        mP 1
  else
    if x1 = 2 then
      mP 0
    else
      mB (jf_Run_cell (qm_rf this 3) p1 4) fun x12 =>
      if ¬ x12 = 0 then
        mP 0
      else
        mP 1
set_option maxRecDepth 20000 in
set_option maxHeartbeats 4000000 in
theorem jb_Flow_endsBehind {X : qm_X} (hX : qm_ok X qr_Flow prog_3_method_7_code 6 1 22 jl_Flow_endsBehind) {r0 : Int32} {σ0 : qm_Mem} (hR : qm_RI X r0 σ0 .boolean) (this : Nat) (p1 : Int32) (p2 : Int32) (hthis : (qm_kd this).1 = 11) : qm_B X (jf_Flow_endsBehind this p1 p2) 0 [some (.ref (qx_ad X this)), some (.int p1), some (.int p2), none, none, none] [] (fun r σ1 => r = r0 ∧ σ1 = σ0) := by
  unfold jf_Flow_endsBehind
  refine qb_aload_n hX 0 rfl rfl ?_
  refine qb_getR hX 1 rfl fl_Flow_9 hthis rfl ?_
  refine qb_iload_n hX 2 rfl rfl ?_
  refine qb_iconst hX 3 0 rfl (by decide) ?_
  refine qb_callI hX 4 rfl cv_Flow_84 (jm_Run_cell (qk_GI hX) (qm_rf this 3) p1 0 (kf_Flow_3 hthis) ) (ci := 4) (kf_Flow_3 hthis) ⟨rfl, rfl, rfl, by decide, by decide⟩ rfl (by exact Nat.le_of_ble_eq_true rfl) (fun x1 => ?_)
  refine qb_istore_n hX 5 ([some (.ref (qx_ad X this)), some (.int p1), some (.int p2), some (.int x1), none, none]) rfl (by decide) rfl ?_
  refine qb_aload_n hX 6 rfl rfl ?_
  refine qb_getR hX 7 rfl fl_Flow_9 hthis rfl ?_
  refine qb_iload_n hX 8 rfl rfl ?_
  refine qb_iconst hX 9 1 rfl (by decide) ?_
  refine qb_callI hX 10 rfl cv_Flow_84 (jm_Run_cell (qk_GI hX) (qm_rf this 3) p1 1 (kf_Flow_3 hthis) ) (ci := 4) (kf_Flow_3 hthis) ⟨rfl, rfl, rfl, by decide, by decide⟩ rfl (by exact Nat.le_of_ble_eq_true rfl) (fun x2 => ?_)
  refine qb_iload_n hX 11 rfl rfl ?_
  refine qb_isub hX 12 rfl ?_
  refine qb_istoreL hX 13 (fun x3 => [some (.ref (qx_ad X this)), some (.int p1), some (.int p2), some (.int x1), some (.int x3), none]) rfl (by decide) (fun _ => rfl) (fun x3 => ?_)
  refine qb_iload hX 14 rfl rfl ?_
  refine qb_ifgt hX 15 51 rfl (by decide) ?_ ?_
  ·
    refine qb_iload_n hX 29 rfl rfl ?_
    refine qb_ifeq hX 30 66 rfl (by decide) ?_ ?_
    ·
      refine qb_iload_n hX 38 rfl rfl ?_
      refine qb_join 90 (fun s4 => [some (.ref (qx_ad X this)), some (.int p1), some (.int p2), none, some (.int x3), none]) (fun s4 => [.int s4]) ?_ ?_
      ·
        refine qb_join2 89 (fun s5 => [some (.ref (qx_ad X this)), some (.int p1), some (.int p2), none, some (.int x3), none]) (fun s5 => []) ?_ ?_
        ·
          refine qb_ifle hX 39 89 rfl (by decide) ?_ ?_
          ·
            exact qb_exit (fun σ h => qj_wk (ρ' := [some (.ref (qx_ad X this)), some (.int p1), some (.int p2), none, some (.int x3), none]) (qw_s (qw_s (qw_s (qw_n (qw_s (qw_n (qw_0))))))) h)
          ·
            refine qb_aload_n hX 40 rfl rfl ?_
            refine qb_getR hX 41 rfl fl_Flow_9 hthis rfl ?_
            refine qb_iload_n hX 42 rfl rfl ?_
            refine qb_iconst hX 43 1 rfl (by decide) ?_
            refine qb_isub hX 44 rfl ?_
            refine qb_iconst hX 45 0 rfl (by decide) ?_
            refine qb_callI hX 46 rfl cv_Flow_84 (jm_Run_cell (qk_GI hX) (qm_rf this 3) (p1 - 1) 0 (kf_Flow_3 hthis) ) (ci := 4) (kf_Flow_3 hthis) ⟨rfl, rfl, rfl, by decide, by decide⟩ rfl (by exact Nat.le_of_ble_eq_true rfl) (fun x6 => ?_)
            refine qb_iconst hX 47 2 rfl (by decide) ?_
            refine qb_icne hX 48 89 rfl (by decide) ?_ ?_
            ·
              exact qb_exit (fun σ h => qj_wk (ρ' := [some (.ref (qx_ad X this)), some (.int p1), some (.int p2), none, some (.int x3), none]) (qw_s (qw_s (qw_s (qw_n (qw_s (qw_n (qw_0))))))) h)
            ·
              refine qb_iconst hX 49 1 rfl (by decide) ?_
              exact qb_exit (fun σ h => qj_goto hX 50 rfl (by decide) (qj_wk (ρ' := [some (.ref (qx_ad X this)), some (.int p1), some (.int p2), none, some (.int x3), none]) (qw_s (qw_s (qw_s (qw_n (qw_s (qw_n (qw_0))))))) h))
        · intro s5
          refine qb_iconst hX 51 0 rfl (by decide) ?_
          exact qb_exit (fun σ h => qj_wk (ρ' := [some (.ref (qx_ad X this)), some (.int p1), some (.int p2), none, some (.int x3), none]) (qw_s (qw_s (qw_s (qw_n (qw_s (qw_n (qw_0))))))) h)
      · intro s4
        refine qb_istore hX 52 ([some (.ref (qx_ad X this)), some (.int p1), some (.int p2), none, some (.int x3), some (.int s4)]) rfl (by decide) rfl ?_
        refine qb_aload_n hX 53 rfl rfl ?_
        refine qb_getR hX 54 rfl fl_Flow_9 hthis rfl ?_
        refine qb_iload_n hX 55 rfl rfl ?_
        refine qb_iconst hX 56 5 rfl (by decide) ?_
        refine qb_callI hX 57 rfl cv_Flow_84 (jm_Run_cell (qk_GI hX) (qm_rf this 3) p1 5 (kf_Flow_3 hthis) ) (ci := 4) (kf_Flow_3 hthis) ⟨rfl, rfl, rfl, by decide, by decide⟩ rfl (by exact Nat.le_of_ble_eq_true rfl) (fun x7 => ?_)
        refine qb_ifne hX 58 150 rfl (by decide) ?_ ?_
        ·
          refine qb_iconst hX 81 0 rfl (by decide) ?_
          exact qb_zret1 hX 82 rfl hR (by decide) (fun _ h => h)
        ·
          refine qb_iload_n hX 59 rfl rfl ?_
          refine qb_aload_n hX 60 rfl rfl ?_
          refine qb_getR hX 61 rfl fl_Flow_9 hthis rfl ?_
          refine qb_iconst hX 62 2 rfl (by decide) ?_
          refine qb_callI hX 63 rfl cv_Flow_104 (jm_Run_setting (qk_GI hX) (qm_rf this 3) 2 (kf_Flow_3 hthis) ) (ci := 4) (kf_Flow_3 hthis) ⟨rfl, rfl, rfl, by decide, by decide⟩ rfl (by exact Nat.le_of_ble_eq_true rfl) (fun x8 => ?_)
          refine qb_iclt hX 64 150 rfl (by decide) ?_ ?_
          ·
            refine qb_iconst hX 81 0 rfl (by decide) ?_
            exact qb_zret1 hX 82 rfl hR (by decide) (fun _ h => h)
          ·
            refine qb_iload hX 65 rfl rfl ?_
            refine qb_join2 133 (fun s9 => [some (.ref (qx_ad X this)), none, none, none, some (.int x3), none]) (fun s9 => []) ?_ ?_
            ·
              refine qb_ifeq hX 66 133 rfl (by decide) ?_ ?_
              ·
                exact qb_exit (fun σ h => qj_wk (ρ' := [some (.ref (qx_ad X this)), none, none, none, some (.int x3), none]) (qw_s (qw_n (qw_n (qw_n (qw_s (qw_n (qw_0))))))) h)
              ·
                refine qb_iload_n hX 67 rfl rfl ?_
                refine qb_aload_n hX 68 rfl rfl ?_
                refine qb_getR hX 69 rfl fl_Flow_9 hthis rfl ?_
                refine qb_iconst hX 70 4 rfl (by decide) ?_
                refine qb_callI hX 71 rfl cv_Flow_104 (jm_Run_setting (qk_GI hX) (qm_rf this 3) 4 (kf_Flow_3 hthis) ) (ci := 4) (kf_Flow_3 hthis) ⟨rfl, rfl, rfl, by decide, by decide⟩ rfl (by exact Nat.le_of_ble_eq_true rfl) (fun x10 => ?_)
                refine qb_iclt hX 72 150 rfl (by decide) ?_ ?_
                ·
                  refine qb_iconst hX 81 0 rfl (by decide) ?_
                  exact qb_zret1 hX 82 rfl hR (by decide) (fun _ h => h)
                ·
                  exact qb_exit (fun σ h => qj_wk (ρ' := [some (.ref (qx_ad X this)), none, none, none, some (.int x3), none]) (qw_s (qw_n (qw_n (qw_n (qw_s (qw_n (qw_0))))))) h)
            · intro s9
              refine qb_iload hX 73 rfl rfl ?_
              refine qb_aload_n hX 74 rfl rfl ?_
              refine qb_getR hX 75 rfl fl_Flow_9 hthis rfl ?_
              refine qb_iconst hX 76 3 rfl (by decide) ?_
              refine qb_callI hX 77 rfl cv_Flow_104 (jm_Run_setting (qk_GI hX) (qm_rf this 3) 3 (kf_Flow_3 hthis) ) (ci := 4) (kf_Flow_3 hthis) ⟨rfl, rfl, rfl, by decide, by decide⟩ rfl (by exact Nat.le_of_ble_eq_true rfl) (fun x11 => ?_)
              refine qb_iclt hX 78 150 rfl (by decide) ?_ ?_
              ·
                refine qb_iconst hX 81 0 rfl (by decide) ?_
                exact qb_zret1 hX 82 rfl hR (by decide) (fun _ h => h)
              ·
                refine qb_iconst hX 79 1 rfl (by decide) ?_
                refine qb_goto hX 80 (tgt := 151) rfl (by decide) ?_
                exact qb_zret1 hX 82 rfl hR (by decide) (fun _ h => h)
    ·
      refine qb_iload_n hX 31 rfl rfl ?_
      refine qb_iconst hX 32 3 rfl (by decide) ?_
      refine qb_icne hX 33 64 rfl (by decide) ?_ ?_
      ·
        refine qb_iconst hX 36 0 rfl (by decide) ?_
        exact qb_zret1 hX 37 rfl hR (by decide) (fun _ h => h)
      ·
        refine qb_iconst hX 34 1 rfl (by decide) ?_
        refine qb_goto hX 35 (tgt := 65) rfl (by decide) ?_
        exact qb_zret1 hX 37 rfl hR (by decide) (fun _ h => h)
  ·
    refine qb_iload_n hX 16 rfl rfl ?_
    refine qb_iconst hX 17 2 rfl (by decide) ?_
    refine qb_iceq hX 18 49 rfl (by decide) ?_ ?_
    ·
      refine qb_iconst hX 27 0 rfl (by decide) ?_
      exact qb_zret1 hX 28 rfl hR (by decide) (fun _ h => h)
    ·
      refine qb_aload_n hX 19 rfl rfl ?_
      refine qb_getR hX 20 rfl fl_Flow_9 hthis rfl ?_
      refine qb_iload_n hX 21 rfl rfl ?_
      refine qb_iconst hX 22 4 rfl (by decide) ?_
      refine qb_callI hX 23 rfl cv_Flow_84 (jm_Run_cell (qk_GI hX) (qm_rf this 3) p1 4 (kf_Flow_3 hthis) ) (ci := 4) (kf_Flow_3 hthis) ⟨rfl, rfl, rfl, by decide, by decide⟩ rfl (by exact Nat.le_of_ble_eq_true rfl) (fun x12 => ?_)
      refine qb_ifne hX 24 49 rfl (by decide) ?_ ?_
      ·
        refine qb_iconst hX 27 0 rfl (by decide) ?_
        exact qb_zret1 hX 28 rfl hR (by decide) (fun _ h => h)
      ·
        refine qb_iconst hX 25 1 rfl (by decide) ?_
        refine qb_goto hX 26 (tgt := 50) rfl (by decide) ?_
        exact qb_zret1 hX 28 rfl hR (by decide) (fun _ h => h)
theorem jm_Flow_endsBehind {l : Launch} {G : qm_G} (hG : qm_GI G) (this : Nat) (p1 : Int32) (p2 : Int32) (hthis : (qm_kd this).1 = 11) : qm_MI l G jy_Flow_endsBehind prog_3_method_7_code 6 (some .boolean) 1 22 [.ref (G.1 this), .int p1, .int p2] (jf_Flow_endsBehind this p1 p2) :=
  qm_metI (by decide +kernel) jd_Flow_endsBehind (fun v hv => by simp only [List.mem_cons, List.not_mem_nil, or_false] at hv; rcases hv with rfl | rfl | rfl <;> rfl) (by exact Nat.le_of_ble_eq_true rfl) hG rfl (fun X hl hg hX r0 σ0 hR => by subst hl; subst hg; exact jb_Flow_endsBehind hX hR this p1 p2 hthis)
def jl_Flow_markEnd : List qm_I := [(0, .iload_n 1, 1, 1), (1, .ifCond .lt 16, 3, 4), (4, .iload_n 1, 1, 5), (5, .bipush 91, 2, 7), (7, .if_icmp .ge 10, 3, 10), (10, .aload_n 0, 1, 11), (11, .getfield 49, 3, 14), (14, .iload_n 1, 1, 15), (15, .iconst 1, 1, 16), (16, .bastore, 1, 17), (17, .return_, 1, 18)]
theorem jd_Flow_markEnd : qm_D prog_3_method_6_code jl_Flow_markEnd := qm_D_of (by decide +kernel)
noncomputable def jf_Flow_markEnd (this : Nat) (p1 : Int32) : qm_M Unit :=
  if p1 < 0 then
    mP ()
  else
    if 91 ≤ p1 then
      mP ()
    else
      mB (mSz (qm_rf this 15) p1 1) fun _ =>
      mP ()
set_option maxRecDepth 20000 in
set_option maxHeartbeats 4000000 in
theorem jb_Flow_markEnd {X : qm_X} (hX : qm_ok X qr_Flow prog_3_method_6_code 2 0 0 jl_Flow_markEnd) {σ0 : qm_Mem} (hR : qm_RV X σ0) (this : Nat) (p1 : Int32) (hthis : (qm_kd this).1 = 11) : qm_B X (jf_Flow_markEnd this p1) 0 [some (.ref (qx_ad X this)), some (.int p1)] [] (fun _ σ1 => σ1 = σ0) := by
  unfold jf_Flow_markEnd
  refine qb_iload_n hX 0 rfl rfl ?_
  refine qb_iflt hX 1 17 rfl (by decide) ?_ ?_
  ·
    exact qb_vret hX 10 rfl hR (fun _ h => h)
  ·
    refine qb_iload_n hX 2 rfl rfl ?_
    refine qb_bipush hX 3 91 rfl (by decide) ?_
    refine qb_icge hX 4 17 rfl (by decide) ?_ ?_
    ·
      exact qb_vret hX 10 rfl hR (fun _ h => h)
    ·
      refine qb_aload_n hX 5 rfl rfl ?_
      refine qb_getR hX 6 rfl fl_Flow_49 hthis rfl ?_
      refine qb_iload_n hX 7 rfl rfl ?_
      refine qb_iconst hX 8 1 rfl (by decide) ?_
      refine qb_zast hX 9 rfl (kf_Flow_15 hthis) ?_
      exact qb_vret hX 10 rfl hR (fun _ h => h)
theorem jm_Flow_markEnd {l : Launch} {G : qm_G} (hG : qm_GI G) (this : Nat) (p1 : Int32) (hthis : (qm_kd this).1 = 11) : qm_MV l G jy_Flow_markEnd prog_3_method_6_code 2 0 0 [.ref (G.1 this), .int p1] (jf_Flow_markEnd this p1) :=
  qm_metV (by decide +kernel) jd_Flow_markEnd (fun v hv => by simp only [List.mem_cons, List.not_mem_nil, or_false] at hv; rcases hv with rfl | rfl <;> rfl) (by exact Nat.le_of_ble_eq_true rfl) hG (fun X hl hg hX σ0 hR => by subst hl; subst hg; exact jb_Flow_markEnd hX hR this p1 hthis)
def jl_Flow_markEnds : List qm_I := [(0, .iconst 0, 1, 1), (1, .istore_n 1, 1, 2), (2, .iload_n 1, 1, 3), (3, .aload_n 0, 1, 4), (4, .getfield 65, 3, 7), (7, .if_icmp .ge 41, 3, 10), (10, .iload_n 1, 1, 11), (11, .bipush 90, 2, 13), (13, .if_icmp .ge 35, 3, 16), (16, .aload_n 0, 1, 17), (17, .getfield 49, 3, 20), (20, .iload_n 1, 1, 21), (21, .iconst 1, 1, 22), (22, .iadd, 1, 23), (23, .aload_n 0, 1, 24), (24, .aload_n 0, 1, 25), (25, .getfield 19, 3, 28), (28, .iload_n 1, 1, 29), (29, .iaload, 1, 30), (30, .aload_n 0, 1, 31), (31, .getfield 22, 3, 34), (34, .iload_n 1, 1, 35), (35, .iaload, 1, 36), (36, .iconst 1, 1, 37), (37, .iadd, 1, 38), (38, .invokevirtual 97, 3, 41), (41, .bastore, 1, 42), (42, .iinc 1 1, 3, 45), (45, .goto (-43), 3, 48), (48, .iconst 0, 1, 49), (49, .istore_n 1, 1, 50), (50, .iload_n 1, 1, 51), (51, .aload_n 0, 1, 52), (52, .getfield 69, 3, 55), (55, .if_icmp .ge 35, 3, 58), (58, .iload_n 1, 1, 59), (59, .bipush 17, 2, 61), (61, .if_icmp .ge 29, 3, 64), (64, .aload_n 0, 1, 65), (65, .aload_n 0, 1, 66), (66, .getfield 53, 3, 69), (69, .iload_n 1, 1, 70), (70, .iaload, 1, 71), (71, .invokevirtual 101, 3, 74), (74, .aload_n 0, 1, 75), (75, .aload_n 0, 1, 76), (76, .getfield 56, 3, 79), (79, .iload_n 1, 1, 80), (80, .iaload, 1, 81), (81, .invokevirtual 101, 3, 84), (84, .iinc 1 1, 3, 87), (87, .goto (-37), 3, 90), (90, .return_, 1, 91)]
theorem jd_Flow_markEnds : qm_D prog_3_method_5_code jl_Flow_markEnds := qm_D_of (by decide +kernel)
noncomputable def jf_Flow_markEnds (this : Nat) : qm_M Unit :=
  mB (α := Unit) (
    mW (S := Int32) (α := Unit) (fun s2 =>
      mB (mGt this 0) fun x3 =>
      if x3 ≤ s2 then
        mP (Sum.inr ())
      else
        if 90 ≤ s2 then
          mP (Sum.inr ())
        else
          mB (mLd (qm_rf this 5) s2) fun x4 =>
          mB (mLd (qm_rf this 6) s2) fun x5 =>
          mB (jf_Flow_endsBehind this x4 (x5 + 1)) fun x6 =>
          mB (mSz (qm_rf this 15) (s2 + 1) x6) fun _ =>
          mB (mP (s2 + 1)) fun x7 =>
          mP (Sum.inl x7)) 0) fun s1 =>
  mB (α := Unit) (
    mW (S := Int32) (α := Unit) (fun s9 =>
      mB (mGt this 1) fun x10 =>
      if x10 ≤ s9 then
        mP (Sum.inr ())
      else
        if 17 ≤ s9 then
          mP (Sum.inr ())
        else
          mB (mLd (qm_rf this 16) s9) fun x11 =>
          mB (jf_Flow_markEnd this x11) fun _ =>
          mB (mLd (qm_rf this 17) s9) fun x12 =>
          mB (jf_Flow_markEnd this x12) fun _ =>
          mB (mP (s9 + 1)) fun x13 =>
          mP (Sum.inl x13)) 0) fun s8 =>
  mP ()
set_option maxRecDepth 20000 in
set_option maxHeartbeats 4000000 in
theorem jb_Flow_markEnds {X : qm_X} (hX : qm_ok X qr_Flow prog_3_method_5_code 2 2 47 jl_Flow_markEnds) {σ0 : qm_Mem} (hR : qm_RV X σ0) (this : Nat) (hthis : (qm_kd this).1 = 11) : qm_B X (jf_Flow_markEnds this) 0 [some (.ref (qx_ad X this)), none] [] (fun _ σ1 => σ1 = σ0) := by
  unfold jf_Flow_markEnds
  refine qb_iconst hX 0 0 rfl (by decide) ?_
  refine qb_istore_n hX 1 ([some (.ref (qx_ad X this)), some (.int 0)]) rfl (by decide) rfl ?_
  refine qb_join 48 (fun s1 => [some (.ref (qx_ad X this)), none]) (fun s1 => []) ?_ ?_
  ·
    refine qb_loopw (0) (fun s2 => [some (.ref (qx_ad X this)), some (.int s2)]) (qw_s (qw_s (qw_0))) (fun s2 => ?_)
    refine qb_iload_n hX 2 rfl rfl ?_
    refine qb_aload_n hX 3 rfl rfl ?_
    refine qb_get hX 4 rfl fl_Flow_65 hthis rfl (fun x3 => ?_)
    refine qb_icge hX 5 48 rfl (by decide) ?_ ?_
    ·
      exact qb_exit (fun σ h => qj_wk (ρ' := [some (.ref (qx_ad X this)), none]) (qw_s (qw_n (qw_0))) h)
    ·
      refine qb_iload_n hX 6 rfl rfl ?_
      refine qb_bipush hX 7 90 rfl (by decide) ?_
      refine qb_icge hX 8 48 rfl (by decide) ?_ ?_
      ·
        exact qb_exit (fun σ h => qj_wk (ρ' := [some (.ref (qx_ad X this)), none]) (qw_s (qw_n (qw_0))) h)
      ·
        refine qb_aload_n hX 9 rfl rfl ?_
        refine qb_getR hX 10 rfl fl_Flow_49 hthis rfl ?_
        refine qb_iload_n hX 11 rfl rfl ?_
        refine qb_iconst hX 12 1 rfl (by decide) ?_
        refine qb_iadd hX 13 rfl ?_
        refine qb_aload_n hX 14 rfl rfl ?_
        refine qb_aload_n hX 15 rfl rfl ?_
        refine qb_getR hX 16 rfl fl_Flow_19 hthis rfl ?_
        refine qb_iload_n hX 17 rfl rfl ?_
        refine qb_iald hX 18 rfl (kf_Flow_5 hthis) (fun x4 => ?_)
        refine qb_aload_n hX 19 rfl rfl ?_
        refine qb_getR hX 20 rfl fl_Flow_22 hthis rfl ?_
        refine qb_iload_n hX 21 rfl rfl ?_
        refine qb_iald hX 22 rfl (kf_Flow_6 hthis) (fun x5 => ?_)
        refine qb_iconst hX 23 1 rfl (by decide) ?_
        refine qb_iadd hX 24 rfl ?_
        refine qb_callI hX 25 rfl cv_Flow_97 (jm_Flow_endsBehind (qk_GI hX) this x4 (x5 + 1) hthis ) (ci := 1) hthis ⟨rfl, rfl, rfl, by decide, by decide⟩ rfl (by exact Nat.le_of_ble_eq_true rfl) (fun x6 => ?_)
        refine qb_zast hX 26 rfl (kf_Flow_15 hthis) ?_
        refine qb_iinc hX 27 1 (fun x7 => [some (.ref (qx_ad X this)), some (.int x7)]) rfl (by decide) (by decide) rfl (fun _ => rfl) (fun x7 => ?_)
        exact qb_exit (fun σ h => qj_goto hX 28 rfl (by decide) (qj_wk (ρ' := [some (.ref (qx_ad X this)), some (.int x7)]) (qw_s (qw_s (qw_0))) h))
  · intro s1
    refine qb_iconst hX 29 0 rfl (by decide) ?_
    refine qb_istore_n hX 30 ([some (.ref (qx_ad X this)), some (.int 0)]) rfl (by decide) rfl ?_
    refine qb_join 90 (fun s8 => [none, none]) (fun s8 => []) ?_ ?_
    ·
      refine qb_loopw (0) (fun s9 => [some (.ref (qx_ad X this)), some (.int s9)]) (qw_s (qw_s (qw_0))) (fun s9 => ?_)
      refine qb_iload_n hX 31 rfl rfl ?_
      refine qb_aload_n hX 32 rfl rfl ?_
      refine qb_get hX 33 rfl fl_Flow_69 hthis rfl (fun x10 => ?_)
      refine qb_icge hX 34 90 rfl (by decide) ?_ ?_
      ·
        exact qb_exit (fun σ h => qj_wk (ρ' := [none, none]) (qw_n (qw_n (qw_0))) h)
      ·
        refine qb_iload_n hX 35 rfl rfl ?_
        refine qb_bipush hX 36 17 rfl (by decide) ?_
        refine qb_icge hX 37 90 rfl (by decide) ?_ ?_
        ·
          exact qb_exit (fun σ h => qj_wk (ρ' := [none, none]) (qw_n (qw_n (qw_0))) h)
        ·
          refine qb_aload_n hX 38 rfl rfl ?_
          refine qb_aload_n hX 39 rfl rfl ?_
          refine qb_getR hX 40 rfl fl_Flow_53 hthis rfl ?_
          refine qb_iload_n hX 41 rfl rfl ?_
          refine qb_iald hX 42 rfl (kf_Flow_16 hthis) (fun x11 => ?_)
          refine qb_callV hX 43 rfl cv_Flow_101 (jm_Flow_markEnd (qk_GI hX) this x11 hthis ) (ci := 1) hthis ⟨rfl, rfl, rfl, by decide, by decide⟩ rfl (by exact Nat.le_of_ble_eq_true rfl) ?_
          refine qb_aload_n hX 44 rfl rfl ?_
          refine qb_aload_n hX 45 rfl rfl ?_
          refine qb_getR hX 46 rfl fl_Flow_56 hthis rfl ?_
          refine qb_iload_n hX 47 rfl rfl ?_
          refine qb_iald hX 48 rfl (kf_Flow_17 hthis) (fun x12 => ?_)
          refine qb_callV hX 49 rfl cv_Flow_101 (jm_Flow_markEnd (qk_GI hX) this x12 hthis ) (ci := 1) hthis ⟨rfl, rfl, rfl, by decide, by decide⟩ rfl (by exact Nat.le_of_ble_eq_true rfl) ?_
          refine qb_iinc hX 50 1 (fun x13 => [some (.ref (qx_ad X this)), some (.int x13)]) rfl (by decide) (by decide) rfl (fun _ => rfl) (fun x13 => ?_)
          exact qb_exit (fun σ h => qj_goto hX 51 rfl (by decide) (qj_wk (ρ' := [some (.ref (qx_ad X this)), some (.int x13)]) (qw_s (qw_s (qw_0))) h))
    · intro s8
      exact qb_vret hX 52 rfl hR (fun _ h => h)
theorem jm_Flow_markEnds {l : Launch} {G : qm_G} (hG : qm_GI G) (this : Nat) (hthis : (qm_kd this).1 = 11) : qm_MV l G jy_Flow_markEnds prog_3_method_5_code 2 2 47 [.ref (G.1 this)] (jf_Flow_markEnds this) :=
  qm_metV (by decide +kernel) jd_Flow_markEnds (fun v hv => by simp only [List.mem_cons, List.not_mem_nil, or_false] at hv; rcases hv with rfl <;> rfl) (by exact Nat.le_of_ble_eq_true rfl) hG (fun X hl hg hX σ0 hR => by subst hl; subst hg; exact jb_Flow_markEnds hX hR this hthis)
def jl_Flow_lay : List qm_I := [(0, .aload_n 0, 1, 1), (1, .iconst 0, 1, 2), (2, .putfield 65, 3, 5), (5, .aload_n 0, 1, 6), (6, .iconst 0, 1, 7), (7, .putfield 69, 3, 10), (10, .aload_n 0, 1, 11), (11, .iconst 0, 1, 12), (12, .putfield 72, 3, 15), (15, .aload_n 0, 1, 16), (16, .getfield 9, 3, 19), (19, .getfield 75, 3, 22), (22, .ifCond .le 8, 3, 25), (25, .aload_n 0, 1, 26), (26, .iconst 0, 1, 27), (27, .invokevirtual 80, 3, 30), (30, .iconst 0, 1, 31), (31, .istore_n 1, 1, 32), (32, .iload_n 1, 1, 33), (33, .aload_n 0, 1, 34), (34, .getfield 9, 3, 37), (37, .getfield 75, 3, 40), (40, .if_icmp .ge 59, 3, 43), (43, .iload_n 1, 1, 44), (44, .bipush 16, 2, 46), (46, .if_icmp .ge 53, 3, 49), (49, .aload_n 0, 1, 50), (50, .getfield 15, 3, 53), (53, .iload_n 1, 1, 54), (54, .aload_n 0, 1, 55), (55, .getfield 65, 3, 58), (58, .iastore, 1, 59), (59, .aload_n 0, 1, 60), (60, .getfield 9, 3, 63), (63, .iload_n 1, 1, 64), (64, .iconst 0, 1, 65), (65, .invokevirtual 84, 3, 68), (68, .iconst 4, 1, 69), (69, .if_icmp .ne 19, 3, 72), (72, .aload_n 0, 1, 73), (73, .aload_n 0, 1, 74), (74, .getfield 9, 3, 77), (77, .iload_n 1, 1, 78), (78, .iconst 2, 1, 79), (79, .invokevirtual 84, 3, 82), (82, .invokevirtual 80, 3, 85), (85, .goto 8, 3, 88), (88, .aload_n 0, 1, 89), (89, .iload_n 1, 1, 90), (90, .invokevirtual 88, 3, 93), (93, .iinc 1 1, 3, 96), (96, .goto (-64), 3, 99), (99, .aload_n 0, 1, 100), (100, .invokevirtual 91, 3, 103), (103, .return_, 1, 104)]
theorem jd_Flow_lay : qm_D prog_3_method_2_code jl_Flow_lay := qm_D_of (by decide +kernel)
noncomputable def jf_Flow_lay (this : Nat) : qm_M Unit :=
  mB (mPt this 0 0) fun _ =>
  mB (mPt this 1 0) fun _ =>
  mB (mPt this 2 0) fun _ =>
  mB (mGt (qm_rf this 3) 0) fun x1 =>
  mB (α := Unit) (
    if x1 ≤ 0 then
      mP ()
    else
      mB (jf_Flow_openSection this 0) fun _ =>
      mP ()) fun s2 =>
  mB (α := Unit) (
    mW (S := Int32) (α := Unit) (fun s4 =>
      mB (mGt (qm_rf this 3) 0) fun x5 =>
      if x5 ≤ s4 then
        mP (Sum.inr ())
      else
        if 16 ≤ s4 then
          mP (Sum.inr ())
        else
          mB (mGt this 0) fun x6 =>
          mB (mSt (qm_rf this 4) s4 x6) fun _ =>
          mB (jf_Run_cell (qm_rf this 3) s4 0) fun x7 =>
          mB (α := Unit) (
            if ¬ x7 = 4 then
              mB (jf_Flow_layPieces this s4) fun _ =>
              mP ()
            else
              mB (jf_Run_cell (qm_rf this 3) s4 2) fun x9 =>
              mB (jf_Flow_openSection this x9) fun _ =>
              mP ()) fun s8 =>
          mB (mP (s4 + 1)) fun x10 =>
          mP (Sum.inl x10)) 0) fun s3 =>
  mB (jf_Flow_markEnds this) fun _ =>
  mP ()
set_option maxRecDepth 20000 in
set_option maxHeartbeats 4000000 in
theorem jb_Flow_lay {X : qm_X} (hX : qm_ok X qr_Flow prog_3_method_2_code 2 3 73 jl_Flow_lay) {σ0 : qm_Mem} (hR : qm_RV X σ0) (this : Nat) (hthis : (qm_kd this).1 = 11) : qm_B X (jf_Flow_lay this) 0 [some (.ref (qx_ad X this)), none] [] (fun _ σ1 => σ1 = σ0) := by
  unfold jf_Flow_lay
  refine qb_aload_n hX 0 rfl rfl ?_
  refine qb_iconst hX 1 0 rfl (by decide) ?_
  refine qb_put hX 2 rfl fp_Flow_65 hthis ?_
  refine qb_aload_n hX 3 rfl rfl ?_
  refine qb_iconst hX 4 0 rfl (by decide) ?_
  refine qb_put hX 5 rfl fp_Flow_69 hthis ?_
  refine qb_aload_n hX 6 rfl rfl ?_
  refine qb_iconst hX 7 0 rfl (by decide) ?_
  refine qb_put hX 8 rfl fp_Flow_72 hthis ?_
  refine qb_aload_n hX 9 rfl rfl ?_
  refine qb_getR hX 10 rfl fl_Flow_9 hthis rfl ?_
  refine qb_get hX 11 rfl fl_Flow_75 (kf_Flow_3 hthis) rfl (fun x1 => ?_)
  refine qb_join 30 (fun s2 => [some (.ref (qx_ad X this)), none]) (fun s2 => []) ?_ ?_
  ·
    refine qb_ifle hX 12 30 rfl (by decide) ?_ ?_
    ·
      exact qb_exit (fun σ h => qj_wk (ρ' := [some (.ref (qx_ad X this)), none]) (qw_s (qw_n (qw_0))) h)
    ·
      refine qb_aload_n hX 13 rfl rfl ?_
      refine qb_iconst hX 14 0 rfl (by decide) ?_
      refine qb_callV hX 15 rfl cv_Flow_80 (jm_Flow_openSection (qk_GI hX) this 0 hthis ) (ci := 1) hthis ⟨rfl, rfl, rfl, by decide, by decide⟩ rfl (by exact Nat.le_of_ble_eq_true rfl) ?_
      exact qb_exit (fun σ h => qj_wk (ρ' := [some (.ref (qx_ad X this)), none]) (qw_s (qw_n (qw_0))) h)
  · intro s2
    refine qb_iconst hX 16 0 rfl (by decide) ?_
    refine qb_istore_n hX 17 ([some (.ref (qx_ad X this)), some (.int 0)]) rfl (by decide) rfl ?_
    refine qb_join 99 (fun s3 => [some (.ref (qx_ad X this)), none]) (fun s3 => []) ?_ ?_
    ·
      refine qb_loopw (0) (fun s4 => [some (.ref (qx_ad X this)), some (.int s4)]) (qw_s (qw_s (qw_0))) (fun s4 => ?_)
      refine qb_iload_n hX 18 rfl rfl ?_
      refine qb_aload_n hX 19 rfl rfl ?_
      refine qb_getR hX 20 rfl fl_Flow_9 hthis rfl ?_
      refine qb_get hX 21 rfl fl_Flow_75 (kf_Flow_3 hthis) rfl (fun x5 => ?_)
      refine qb_icge hX 22 99 rfl (by decide) ?_ ?_
      ·
        exact qb_exit (fun σ h => qj_wk (ρ' := [some (.ref (qx_ad X this)), none]) (qw_s (qw_n (qw_0))) h)
      ·
        refine qb_iload_n hX 23 rfl rfl ?_
        refine qb_bipush hX 24 16 rfl (by decide) ?_
        refine qb_icge hX 25 99 rfl (by decide) ?_ ?_
        ·
          exact qb_exit (fun σ h => qj_wk (ρ' := [some (.ref (qx_ad X this)), none]) (qw_s (qw_n (qw_0))) h)
        ·
          refine qb_aload_n hX 26 rfl rfl ?_
          refine qb_getR hX 27 rfl fl_Flow_15 hthis rfl ?_
          refine qb_iload_n hX 28 rfl rfl ?_
          refine qb_aload_n hX 29 rfl rfl ?_
          refine qb_get hX 30 rfl fl_Flow_65 hthis rfl (fun x6 => ?_)
          refine qb_iast hX 31 rfl (kf_Flow_4 hthis) ?_
          refine qb_aload_n hX 32 rfl rfl ?_
          refine qb_getR hX 33 rfl fl_Flow_9 hthis rfl ?_
          refine qb_iload_n hX 34 rfl rfl ?_
          refine qb_iconst hX 35 0 rfl (by decide) ?_
          refine qb_callI hX 36 rfl cv_Flow_84 (jm_Run_cell (qk_GI hX) (qm_rf this 3) s4 0 (kf_Flow_3 hthis) ) (ci := 4) (kf_Flow_3 hthis) ⟨rfl, rfl, rfl, by decide, by decide⟩ rfl (by exact Nat.le_of_ble_eq_true rfl) (fun x7 => ?_)
          refine qb_iconst hX 37 4 rfl (by decide) ?_
          refine qb_join 93 (fun s8 => [some (.ref (qx_ad X this)), some (.int s4)]) (fun s8 => []) ?_ ?_
          ·
            refine qb_icne hX 38 88 rfl (by decide) ?_ ?_
            ·
              refine qb_aload_n hX 47 rfl rfl ?_
              refine qb_iload_n hX 48 rfl rfl ?_
              refine qb_callV hX 49 rfl cv_Flow_88 (jm_Flow_layPieces (qk_GI hX) this s4 hthis ) (ci := 1) hthis ⟨rfl, rfl, rfl, by decide, by decide⟩ rfl (by exact Nat.le_of_ble_eq_true rfl) ?_
              exact qb_exit (fun σ h => qj_wk (ρ' := [some (.ref (qx_ad X this)), some (.int s4)]) (qw_s (qw_s (qw_0))) h)
            ·
              refine qb_aload_n hX 39 rfl rfl ?_
              refine qb_aload_n hX 40 rfl rfl ?_
              refine qb_getR hX 41 rfl fl_Flow_9 hthis rfl ?_
              refine qb_iload_n hX 42 rfl rfl ?_
              refine qb_iconst hX 43 2 rfl (by decide) ?_
              refine qb_callI hX 44 rfl cv_Flow_84 (jm_Run_cell (qk_GI hX) (qm_rf this 3) s4 2 (kf_Flow_3 hthis) ) (ci := 4) (kf_Flow_3 hthis) ⟨rfl, rfl, rfl, by decide, by decide⟩ rfl (by exact Nat.le_of_ble_eq_true rfl) (fun x9 => ?_)
              refine qb_callV hX 45 rfl cv_Flow_80 (jm_Flow_openSection (qk_GI hX) this x9 hthis ) (ci := 1) hthis ⟨rfl, rfl, rfl, by decide, by decide⟩ rfl (by exact Nat.le_of_ble_eq_true rfl) ?_
              exact qb_exit (fun σ h => qj_goto hX 46 rfl (by decide) (qj_wk (ρ' := [some (.ref (qx_ad X this)), some (.int s4)]) (qw_s (qw_s (qw_0))) h))
          · intro s8
            refine qb_iinc hX 50 1 (fun x10 => [some (.ref (qx_ad X this)), some (.int x10)]) rfl (by decide) (by decide) rfl (fun _ => rfl) (fun x10 => ?_)
            exact qb_exit (fun σ h => qj_goto hX 51 rfl (by decide) (qj_wk (ρ' := [some (.ref (qx_ad X this)), some (.int x10)]) (qw_s (qw_s (qw_0))) h))
    · intro s3
      refine qb_aload_n hX 52 rfl rfl ?_
      refine qb_callV hX 53 rfl cv_Flow_91 (jm_Flow_markEnds (qk_GI hX) this  hthis ) (ci := 1) hthis ⟨rfl, rfl, rfl, by decide, by decide⟩ rfl (by exact Nat.le_of_ble_eq_true rfl) ?_
      exact qb_vret hX 54 rfl hR (fun _ h => h)
theorem jm_Flow_lay {l : Launch} {G : qm_G} (hG : qm_GI G) (this : Nat) (hthis : (qm_kd this).1 = 11) : qm_MV l G jy_Flow_lay prog_3_method_2_code 2 3 73 [.ref (G.1 this)] (jf_Flow_lay this) :=
  qm_metV (by decide +kernel) jd_Flow_lay (fun v hv => by simp only [List.mem_cons, List.not_mem_nil, or_false] at hv; rcases hv with rfl <;> rfl) (by exact Nat.le_of_ble_eq_true rfl) hG (fun X hl hg hX σ0 hR => by subst hl; subst hg; exact jb_Flow_lay hX hR this hthis)
def jl_Flow_spans : List qm_I := [(0, .iconst 0, 1, 1), (1, .aload_n 0, 1, 2), (2, .getfield 69, 3, 5), (5, .iconst 1, 1, 6), (6, .isub, 1, 7), (7, .invokestatic 108, 3, 10), (10, .ireturn, 1, 11)]
theorem jd_Flow_spans : qm_D prog_3_method_8_code jl_Flow_spans := qm_D_of (by decide +kernel)
noncomputable def jf_Flow_spans (this : Nat) : qm_M Int32 :=
  mB (mGt this 1) fun x1 =>
  mB (jf_Math_max 0 (x1 - 1)) fun x2 =>
  mP x2
set_option maxRecDepth 20000 in
set_option maxHeartbeats 4000000 in
theorem jb_Flow_spans {X : qm_X} (hX : qm_ok X qr_Flow prog_3_method_8_code 1 1 21 jl_Flow_spans) {r0 : Int32} {σ0 : qm_Mem} (hR : qm_RI X r0 σ0 .int) (this : Nat) (hthis : (qm_kd this).1 = 11) : qm_B X (jf_Flow_spans this) 0 [some (.ref (qx_ad X this))] [] (fun r σ1 => r = r0 ∧ σ1 = σ0) := by
  unfold jf_Flow_spans
  refine qb_iconst hX 0 0 rfl (by decide) ?_
  refine qb_aload_n hX 1 rfl rfl ?_
  refine qb_get hX 2 rfl fl_Flow_69 hthis rfl (fun x1 => ?_)
  refine qb_iconst hX 3 1 rfl (by decide) ?_
  refine qb_isub hX 4 rfl ?_
  refine qb_mmax hX 5 rfl cv_Flow_108 (by decide) (by exact Nat.le_of_ble_eq_true rfl) (fun x2 => ?_)
  exact qb_iret hX 6 rfl hR (fun _ h => h)
theorem jm_Flow_spans {l : Launch} {G : qm_G} (hG : qm_GI G) (this : Nat) (hthis : (qm_kd this).1 = 11) : qm_MI l G jy_Flow_spans prog_3_method_8_code 1 (some .int) 1 21 [.ref (G.1 this)] (jf_Flow_spans this) :=
  qm_metI (by decide +kernel) jd_Flow_spans (fun v hv => by simp only [List.mem_cons, List.not_mem_nil, or_false] at hv; rcases hv with rfl <;> rfl) (by exact Nat.le_of_ble_eq_true rfl) hG rfl (fun X hl hg hX r0 σ0 hR => by subst hl; subst hg; exact jb_Flow_spans hX hR this hthis)
def jl_Flow_endsIn : List qm_I := [(0, .iconst 0, 1, 1), (1, .istore_n 3, 1, 2), (2, .iload_n 1, 1, 3), (3, .istore 4, 2, 5), (5, .iload 4, 2, 7), (7, .iload_n 2, 1, 8), (8, .if_icmp .gt 21, 3, 11), (11, .aload_n 0, 1, 12), (12, .iload 4, 2, 14), (14, .invokevirtual 113, 3, 17), (17, .ifCond .eq 6, 3, 20), (20, .iinc 3 1, 3, 23), (23, .iinc 4 1, 3, 26), (26, .goto (-21), 3, 29), (29, .iload_n 3, 1, 30), (30, .ireturn, 1, 31)]
theorem jd_Flow_endsIn : qm_D prog_3_method_10_code jl_Flow_endsIn := qm_D_of (by decide +kernel)
noncomputable def jf_Flow_endsIn (this : Nat) (p1 : Int32) (p2 : Int32) : qm_M Int32 :=
  mB (α := Int32) (
    mW (S := Int32 × Int32) (α := Int32) (fun s2 =>
      if p2 < s2.2 then
        mP (Sum.inr s2.1)
      else
        mB (jf_Flow_mayEnd this s2.2) fun x3 =>
        mB (α := Int32) (
          if x3 = 0 then
            mP s2.1
          else
            mB (mP (s2.1 + 1)) fun x5 =>
            mP x5) fun s4 =>
        mB (mP (s2.2 + 1)) fun x6 =>
        mP (Sum.inl (s4, x6))) (0, p1)) fun s1 =>
  mP s1
set_option maxRecDepth 20000 in
set_option maxHeartbeats 4000000 in
theorem jb_Flow_endsIn {X : qm_X} (hX : qm_ok X qr_Flow prog_3_method_10_code 5 1 21 jl_Flow_endsIn) {r0 : Int32} {σ0 : qm_Mem} (hR : qm_RI X r0 σ0 .int) (this : Nat) (p1 : Int32) (p2 : Int32) (hthis : (qm_kd this).1 = 11) : qm_B X (jf_Flow_endsIn this p1 p2) 0 [some (.ref (qx_ad X this)), some (.int p1), some (.int p2), none, none] [] (fun r σ1 => r = r0 ∧ σ1 = σ0) := by
  unfold jf_Flow_endsIn
  refine qb_iconst hX 0 0 rfl (by decide) ?_
  refine qb_istore_n hX 1 ([some (.ref (qx_ad X this)), some (.int p1), some (.int p2), some (.int 0), none]) rfl (by decide) rfl ?_
  refine qb_iload_n hX 2 rfl rfl ?_
  refine qb_istore hX 3 ([some (.ref (qx_ad X this)), some (.int p1), some (.int p2), some (.int 0), some (.int p1)]) rfl (by decide) rfl ?_
  refine qb_join 29 (fun s1 => [none, none, none, some (.int s1), none]) (fun s1 => []) ?_ ?_
  ·
    refine qb_loopw ((0, p1)) (fun s2 => [some (.ref (qx_ad X this)), none, some (.int p2), some (.int s2.1), some (.int s2.2)]) (qw_s (qw_n (qw_s (qw_s (qw_s (qw_0)))))) (fun s2 => ?_)
    refine qb_iload hX 4 rfl rfl ?_
    refine qb_iload_n hX 5 rfl rfl ?_
    refine qb_icgt hX 6 29 rfl (by decide) ?_ ?_
    ·
      exact qb_exit (fun σ h => qj_wk (ρ' := [none, none, none, some (.int s2.1), none]) (qw_n (qw_n (qw_n (qw_s (qw_n (qw_0)))))) h)
    ·
      refine qb_aload_n hX 7 rfl rfl ?_
      refine qb_iload hX 8 rfl rfl ?_
      refine qb_callI hX 9 rfl cv_Flow_113 (jm_Flow_mayEnd (qk_GI hX) this s2.2 hthis ) (ci := 1) hthis ⟨rfl, rfl, rfl, by decide, by decide⟩ rfl (by exact Nat.le_of_ble_eq_true rfl) (fun x3 => ?_)
      refine qb_join 23 (fun s4 => [some (.ref (qx_ad X this)), none, some (.int p2), some (.int s4), some (.int s2.2)]) (fun s4 => []) ?_ ?_
      ·
        refine qb_ifeq hX 10 23 rfl (by decide) ?_ ?_
        ·
          exact qb_exit (fun σ h => qj_wk (ρ' := [some (.ref (qx_ad X this)), none, some (.int p2), some (.int s2.1), some (.int s2.2)]) (qw_s (qw_n (qw_s (qw_s (qw_s (qw_0)))))) h)
        ·
          refine qb_iinc hX 11 1 (fun x5 => [some (.ref (qx_ad X this)), none, some (.int p2), some (.int x5), some (.int s2.2)]) rfl (by decide) (by decide) rfl (fun _ => rfl) (fun x5 => ?_)
          exact qb_exit (fun σ h => qj_wk (ρ' := [some (.ref (qx_ad X this)), none, some (.int p2), some (.int x5), some (.int s2.2)]) (qw_s (qw_n (qw_s (qw_s (qw_s (qw_0)))))) h)
      · intro s4
        refine qb_iinc hX 12 1 (fun x6 => [some (.ref (qx_ad X this)), none, some (.int p2), some (.int s4), some (.int x6)]) rfl (by decide) (by decide) rfl (fun _ => rfl) (fun x6 => ?_)
        exact qb_exit (fun σ h => qj_goto hX 13 rfl (by decide) (qj_wk (ρ' := [some (.ref (qx_ad X this)), none, some (.int p2), some (.int s4), some (.int x6)]) (qw_s (qw_n (qw_s (qw_s (qw_s (qw_0)))))) h))
  · intro s1
    refine qb_iload_n hX 14 rfl rfl ?_
    exact qb_iret hX 15 rfl hR (fun _ h => h)
theorem jm_Flow_endsIn {l : Launch} {G : qm_G} (hG : qm_GI G) (this : Nat) (p1 : Int32) (p2 : Int32) (hthis : (qm_kd this).1 = 11) : qm_MI l G jy_Flow_endsIn prog_3_method_10_code 5 (some .int) 1 21 [.ref (G.1 this), .int p1, .int p2] (jf_Flow_endsIn this p1 p2) :=
  qm_metI (by decide +kernel) jd_Flow_endsIn (fun v hv => by simp only [List.mem_cons, List.not_mem_nil, or_false] at hv; rcases hv with rfl | rfl | rfl <;> rfl) (by exact Nat.le_of_ble_eq_true rfl) hG rfl (fun X hl hg hX r0 σ0 hR => by subst hl; subst hg; exact jb_Flow_endsIn hX hR this p1 p2 hthis)
def jl_Run_copyFrom : List qm_I := [(0, .aload_n 0, 1, 1), (1, .aload_n 1, 1, 2), (2, .getfield 27, 3, 5), (5, .putfield 27, 3, 8), (8, .iconst 0, 1, 9), (9, .istore_n 2, 1, 10), (10, .iload_n 2, 1, 11), (11, .bipush 8, 2, 13), (13, .if_icmp .ge 21, 3, 16), (16, .aload_n 0, 1, 17), (17, .getfield 11, 3, 20), (20, .iload_n 2, 1, 21), (21, .aload_n 1, 1, 22), (22, .getfield 11, 3, 25), (25, .iload_n 2, 1, 26), (26, .iaload, 1, 27), (27, .iastore, 1, 28), (28, .iinc 2 1, 3, 31), (31, .goto (-21), 3, 34), (34, .iconst 0, 1, 35), (35, .istore_n 2, 1, 36), (36, .iload_n 2, 1, 37), (37, .aload_n 0, 1, 38), (38, .getfield 15, 3, 41), (41, .arraylength, 1, 42), (42, .if_icmp .ge 21, 3, 45), (45, .aload_n 0, 1, 46), (46, .getfield 15, 3, 49), (49, .iload_n 2, 1, 50), (50, .aload_n 1, 1, 51), (51, .getfield 15, 3, 54), (54, .iload_n 2, 1, 55), (55, .iaload, 1, 56), (56, .iastore, 1, 57), (57, .iinc 2 1, 3, 60), (60, .goto (-24), 3, 63), (63, .return_, 1, 64)]
theorem jd_Run_copyFrom : qm_D prog_6_method_4_code jl_Run_copyFrom := qm_D_of (by decide +kernel)
noncomputable def jf_Run_copyFrom (this : Nat) (p1 : Nat) : qm_M Unit :=
  mB (mGt p1 0) fun x1 =>
  mB (mPt this 0 x1) fun _ =>
  mB (α := Unit) (
    mW (S := Int32) (α := Unit) (fun s3 =>
      if 8 ≤ s3 then
        mP (Sum.inr ())
      else
        mB (mLd (qm_rf p1 1) s3) fun x4 =>
        mB (mSt (qm_rf this 1) s3 x4) fun _ =>
        mB (mP (s3 + 1)) fun x5 =>
        mP (Sum.inl x5)) 0) fun s2 =>
  mB (α := Unit) (
    mW (S := Int32) (α := Unit) (fun s7 =>
      if (Int32.ofNat (qm_kd (qm_rf this 2)).2) ≤ s7 then
        mP (Sum.inr ())
      else
        mB (mLd (qm_rf p1 2) s7) fun x8 =>
        mB (mSt (qm_rf this 2) s7 x8) fun _ =>
        mB (mP (s7 + 1)) fun x9 =>
        mP (Sum.inl x9)) 0) fun s6 =>
  mP ()
set_option maxRecDepth 20000 in
set_option maxHeartbeats 4000000 in
theorem jb_Run_copyFrom {X : qm_X} (hX : qm_ok X qr_Run prog_6_method_4_code 3 0 0 jl_Run_copyFrom) {σ0 : qm_Mem} (hR : qm_RV X σ0) (this : Nat) (p1 : Nat) (hthis : (qm_kd this).1 = 14) (hp1 : (qm_kd p1).1 = 14) : qm_B X (jf_Run_copyFrom this p1) 0 [some (.ref (qx_ad X this)), some (.ref (qx_ad X p1)), none] [] (fun _ σ1 => σ1 = σ0) := by
  unfold jf_Run_copyFrom
  refine qb_aload_n hX 0 rfl rfl ?_
  refine qb_aload_n hX 1 rfl rfl ?_
  refine qb_get hX 2 rfl fl_Run_27 hp1 rfl (fun x1 => ?_)
  refine qb_put hX 3 rfl fp_Run_27 hthis ?_
  refine qb_iconst hX 4 0 rfl (by decide) ?_
  refine qb_istore_n hX 5 ([some (.ref (qx_ad X this)), some (.ref (qx_ad X p1)), some (.int 0)]) rfl (by decide) rfl ?_
  refine qb_join 34 (fun s2 => [some (.ref (qx_ad X this)), some (.ref (qx_ad X p1)), none]) (fun s2 => []) ?_ ?_
  ·
    refine qb_loopw (0) (fun s3 => [some (.ref (qx_ad X this)), some (.ref (qx_ad X p1)), some (.int s3)]) (qw_s (qw_s (qw_s (qw_0)))) (fun s3 => ?_)
    refine qb_iload_n hX 6 rfl rfl ?_
    refine qb_bipush hX 7 8 rfl (by decide) ?_
    refine qb_icge hX 8 34 rfl (by decide) ?_ ?_
    ·
      exact qb_exit (fun σ h => qj_wk (ρ' := [some (.ref (qx_ad X this)), some (.ref (qx_ad X p1)), none]) (qw_s (qw_s (qw_n (qw_0)))) h)
    ·
      refine qb_aload_n hX 9 rfl rfl ?_
      refine qb_getR hX 10 rfl fl_Run_11 hthis rfl ?_
      refine qb_iload_n hX 11 rfl rfl ?_
      refine qb_aload_n hX 12 rfl rfl ?_
      refine qb_getR hX 13 rfl fl_Run_11 hp1 rfl ?_
      refine qb_iload_n hX 14 rfl rfl ?_
      refine qb_iald hX 15 rfl (kf_Run_1 hp1) (fun x4 => ?_)
      refine qb_iast hX 16 rfl (kf_Run_1 hthis) ?_
      refine qb_iinc hX 17 1 (fun x5 => [some (.ref (qx_ad X this)), some (.ref (qx_ad X p1)), some (.int x5)]) rfl (by decide) (by decide) rfl (fun _ => rfl) (fun x5 => ?_)
      exact qb_exit (fun σ h => qj_goto hX 18 rfl (by decide) (qj_wk (ρ' := [some (.ref (qx_ad X this)), some (.ref (qx_ad X p1)), some (.int x5)]) (qw_s (qw_s (qw_s (qw_0)))) h))
  · intro s2
    refine qb_iconst hX 19 0 rfl (by decide) ?_
    refine qb_istore_n hX 20 ([some (.ref (qx_ad X this)), some (.ref (qx_ad X p1)), some (.int 0)]) rfl (by decide) rfl ?_
    refine qb_join 63 (fun s6 => [none, none, none]) (fun s6 => []) ?_ ?_
    ·
      refine qb_loopw (0) (fun s7 => [some (.ref (qx_ad X this)), some (.ref (qx_ad X p1)), some (.int s7)]) (qw_s (qw_s (qw_s (qw_0)))) (fun s7 => ?_)
      refine qb_iload_n hX 21 rfl rfl ?_
      refine qb_aload_n hX 22 rfl rfl ?_
      refine qb_getR hX 23 rfl fl_Run_15 hthis rfl ?_
      refine qb_alen hX 24 (Int32.ofNat (qm_kd (qm_rf this 2)).2) rfl (Or.inl (kf_Run_2 hthis)) rfl ?_
      refine qb_icge hX 25 63 rfl (by decide) ?_ ?_
      ·
        exact qb_exit (fun σ h => qj_wk (ρ' := [none, none, none]) (qw_n (qw_n (qw_n (qw_0)))) h)
      ·
        refine qb_aload_n hX 26 rfl rfl ?_
        refine qb_getR hX 27 rfl fl_Run_15 hthis rfl ?_
        refine qb_iload_n hX 28 rfl rfl ?_
        refine qb_aload_n hX 29 rfl rfl ?_
        refine qb_getR hX 30 rfl fl_Run_15 hp1 rfl ?_
        refine qb_iload_n hX 31 rfl rfl ?_
        refine qb_iald hX 32 rfl (kf_Run_2 hp1) (fun x8 => ?_)
        refine qb_iast hX 33 rfl (kf_Run_2 hthis) ?_
        refine qb_iinc hX 34 1 (fun x9 => [some (.ref (qx_ad X this)), some (.ref (qx_ad X p1)), some (.int x9)]) rfl (by decide) (by decide) rfl (fun _ => rfl) (fun x9 => ?_)
        exact qb_exit (fun σ h => qj_goto hX 35 rfl (by decide) (qj_wk (ρ' := [some (.ref (qx_ad X this)), some (.ref (qx_ad X p1)), some (.int x9)]) (qw_s (qw_s (qw_s (qw_0)))) h))
    · intro s6
      exact qb_vret hX 36 rfl hR (fun _ h => h)
theorem jm_Run_copyFrom {l : Launch} {G : qm_G} (hG : qm_GI G) (this : Nat) (p1 : Nat) (hthis : (qm_kd this).1 = 14) (hp1 : (qm_kd p1).1 = 14) : qm_MV l G jy_Run_copyFrom prog_6_method_4_code 3 0 0 [.ref (G.1 this), .ref (G.1 p1)] (jf_Run_copyFrom this p1) :=
  qm_metV (by decide +kernel) jd_Run_copyFrom (fun v hv => by simp only [List.mem_cons, List.not_mem_nil, or_false] at hv; rcases hv with rfl | rfl <;> rfl) (by exact Nat.le_of_ble_eq_true rfl) hG (fun X hl hg hX σ0 hR => by subst hl; subst hg; exact jb_Run_copyFrom hX hR this p1 hthis hp1)
end
section
def jl_Past_push : List qm_I := [(0, .aload_n 0, 1, 1), (1, .getfield 18, 3, 4), (4, .ifCond .lt 28, 3, 7), (7, .aload_n 0, 1, 8), (8, .getfield 18, 3, 11), (11, .aload_n 0, 1, 12), (12, .getfield 11, 3, 15), (15, .arraylength, 1, 16), (16, .if_icmp .ge 16, 3, 19), (19, .aload_n 0, 1, 20), (20, .getfield 11, 3, 23), (23, .aload_n 0, 1, 24), (24, .getfield 18, 3, 27), (27, .aaload, 1, 28), (28, .aload_n 1, 1, 29), (29, .invokevirtual 22, 3, 32), (32, .aload_n 0, 1, 33), (33, .aload_n 0, 1, 34), (34, .getfield 18, 3, 37), (37, .iconst 1, 1, 38), (38, .iadd, 1, 39), (39, .bipush 10, 2, 41), (41, .if_icmp .ge 12, 3, 44), (44, .aload_n 0, 1, 45), (45, .getfield 18, 3, 48), (48, .iconst 1, 1, 49), (49, .iadd, 1, 50), (50, .goto 4, 3, 53), (53, .iconst 0, 1, 54), (54, .putfield 18, 3, 57), (57, .aload_n 0, 1, 58), (58, .aload_n 0, 1, 59), (59, .getfield 26, 3, 62), (62, .iconst 1, 1, 63), (63, .iadd, 1, 64), (64, .bipush 10, 2, 66), (66, .invokestatic 29, 3, 69), (69, .putfield 26, 3, 72), (72, .return_, 1, 73)]
theorem jd_Past_push : qm_D prog_4_method_2_code jl_Past_push := qm_D_of (by decide +kernel)
noncomputable def jf_Past_push (this : Nat) (p1 : Nat) : qm_M Unit :=
  mB (mGt this 1) fun x1 =>
  mB (α := Unit) (
    if x1 < 0 then
      mP ()
    else
      mB (mGt this 1) fun x3 =>
      if (Int32.ofNat (qm_kd (qm_rf this 0)).2) ≤ x3 then
        mP ()
      else
        mB (mGt this 1) fun x4 =>
        mB (mLr (qm_rf this 0) x4) fun r5 =>
        mB (jf_Run_copyFrom r5 p1) fun _ =>
        mP ()) fun s2 =>
  mB (mGt this 1) fun x6 =>
  mB (α := Int32) (
    if 10 ≤ (x6 + 1) then
      mP 0
    else
      mB (mGt this 1) fun x8 =>
      mP (x8 + 1)) fun s7 =>
  mB (mPt this 1 s7) fun _ =>
  mB (mGt this 2) fun x9 =>
  mB (jf_Math_min (x9 + 1) 10) fun x10 =>
  mB (mPt this 2 x10) fun _ =>
  mP ()
set_option maxRecDepth 20000 in
set_option maxHeartbeats 4000000 in
theorem jb_Past_push {X : qm_X} (hX : qm_ok X qr_Past prog_4_method_2_code 2 1 22 jl_Past_push) {σ0 : qm_Mem} (hR : qm_RV X σ0) (this : Nat) (p1 : Nat) (hthis : (qm_kd this).1 = 12) (hp1 : (qm_kd p1).1 = 14) : qm_B X (jf_Past_push this p1) 0 [some (.ref (qx_ad X this)), some (.ref (qx_ad X p1))] [] (fun _ σ1 => σ1 = σ0) := by
  unfold jf_Past_push
  refine qb_aload_n hX 0 rfl rfl ?_
  refine qb_get hX 1 rfl fl_Past_18 hthis rfl (fun x1 => ?_)
  refine qb_join 32 (fun s2 => [some (.ref (qx_ad X this)), none]) (fun s2 => []) ?_ ?_
  ·
    refine qb_iflt hX 2 32 rfl (by decide) ?_ ?_
    ·
      exact qb_exit (fun σ h => qj_wk (ρ' := [some (.ref (qx_ad X this)), none]) (qw_s (qw_n (qw_0))) h)
    ·
      refine qb_aload_n hX 3 rfl rfl ?_
      refine qb_get hX 4 rfl fl_Past_18 hthis rfl (fun x3 => ?_)
      refine qb_aload_n hX 5 rfl rfl ?_
      refine qb_getR hX 6 rfl fl_Past_11 hthis rfl ?_
      refine qb_alenR hX 7 (Int32.ofNat (qm_kd (qm_rf this 0)).2) rfl (Or.inr (kf_Past_0 hthis)) rfl ?_
      refine qb_icge hX 8 32 rfl (by decide) ?_ ?_
      ·
        exact qb_exit (fun σ h => qj_wk (ρ' := [some (.ref (qx_ad X this)), none]) (qw_s (qw_n (qw_0))) h)
      ·
        refine qb_aload_n hX 9 rfl rfl ?_
        refine qb_getR hX 10 rfl fl_Past_11 hthis rfl ?_
        refine qb_aload_n hX 11 rfl rfl ?_
        refine qb_get hX 12 rfl fl_Past_18 hthis rfl (fun x4 => ?_)
        refine qb_aald hX 13 rfl (Or.inr (kf_Past_0 hthis)) (ka_5 (kf_Past_0 hthis)) (fun r5 hr5 => ?_)
        refine qb_aload_n hX 14 rfl rfl ?_
        refine qb_callV hX 15 rfl cv_Past_22 (jm_Run_copyFrom (qk_GI hX) r5 p1 hr5 hp1) (ci := 4) hr5 ⟨rfl, rfl, rfl, by decide, by decide⟩ rfl (by exact Nat.le_of_ble_eq_true rfl) ?_
        exact qb_exit (fun σ h => qj_wk (ρ' := [some (.ref (qx_ad X this)), none]) (qw_s (qw_n (qw_0))) h)
  · intro s2
    refine qb_aload_n hX 16 rfl rfl ?_
    refine qb_aload_n hX 17 rfl rfl ?_
    refine qb_get hX 18 rfl fl_Past_18 hthis rfl (fun x6 => ?_)
    refine qb_iconst hX 19 1 rfl (by decide) ?_
    refine qb_iadd hX 20 rfl ?_
    refine qb_bipush hX 21 10 rfl (by decide) ?_
    refine qb_join 54 (fun s7 => [some (.ref (qx_ad X this)), none]) (fun s7 => [.int s7, .ref (qx_ad X this)]) ?_ ?_
    ·
      refine qb_icge hX 22 53 rfl (by decide) ?_ ?_
      ·
        refine qb_iconst hX 28 0 rfl (by decide) ?_
        exact qb_exit (fun σ h => qj_wk (ρ' := [some (.ref (qx_ad X this)), none]) (qw_s (qw_n (qw_0))) h)
      ·
        refine qb_aload_n hX 23 rfl rfl ?_
        refine qb_get hX 24 rfl fl_Past_18 hthis rfl (fun x8 => ?_)
        refine qb_iconst hX 25 1 rfl (by decide) ?_
        refine qb_iadd hX 26 rfl ?_
        exact qb_exit (fun σ h => qj_goto hX 27 rfl (by decide) (qj_wk (ρ' := [some (.ref (qx_ad X this)), none]) (qw_s (qw_n (qw_0))) h))
    · intro s7
      refine qb_put hX 29 rfl fp_Past_18 hthis ?_
      refine qb_aload_n hX 30 rfl rfl ?_
      refine qb_aload_n hX 31 rfl rfl ?_
      refine qb_get hX 32 rfl fl_Past_26 hthis rfl (fun x9 => ?_)
      refine qb_iconst hX 33 1 rfl (by decide) ?_
      refine qb_iadd hX 34 rfl ?_
      refine qb_bipush hX 35 10 rfl (by decide) ?_
      refine qb_mmin hX 36 rfl cv_Past_29 (by decide) (by exact Nat.le_of_ble_eq_true rfl) (fun x10 => ?_)
      refine qb_put hX 37 rfl fp_Past_26 hthis ?_
      exact qb_vret hX 38 rfl hR (fun _ h => h)
theorem jm_Past_push {l : Launch} {G : qm_G} (hG : qm_GI G) (this : Nat) (p1 : Nat) (hthis : (qm_kd this).1 = 12) (hp1 : (qm_kd p1).1 = 14) : qm_MV l G jy_Past_push prog_4_method_2_code 2 1 22 [.ref (G.1 this), .ref (G.1 p1)] (jf_Past_push this p1) :=
  qm_metV (by decide +kernel) jd_Past_push (fun v hv => by simp only [List.mem_cons, List.not_mem_nil, or_false] at hv; rcases hv with rfl | rfl <;> rfl) (by exact Nat.le_of_ble_eq_true rfl) hG (fun X hl hg hX σ0 hR => by subst hl; subst hg; exact jb_Past_push hX hR this p1 hthis hp1)
def jl_Past_pop : List qm_I := [(0, .aload_n 0, 1, 1), (1, .aload_n 0, 1, 2), (2, .getfield 18, 3, 5), (5, .ifCond .le 12, 3, 8), (8, .aload_n 0, 1, 9), (9, .getfield 18, 3, 12), (12, .iconst 1, 1, 13), (13, .isub, 1, 14), (14, .goto 5, 3, 17), (17, .bipush 9, 2, 19), (19, .putfield 18, 3, 22), (22, .aload_n 0, 1, 23), (23, .aload_n 0, 1, 24), (24, .getfield 26, 3, 27), (27, .iconst 1, 1, 28), (28, .isub, 1, 29), (29, .iconst 0, 1, 30), (30, .invokestatic 35, 3, 33), (33, .putfield 26, 3, 36), (36, .aload_n 0, 1, 37), (37, .getfield 18, 3, 40), (40, .aload_n 0, 1, 41), (41, .getfield 11, 3, 44), (44, .arraylength, 1, 45), (45, .if_icmp .ge 16, 3, 48), (48, .aload_n 1, 1, 49), (49, .aload_n 0, 1, 50), (50, .getfield 11, 3, 53), (53, .aload_n 0, 1, 54), (54, .getfield 18, 3, 57), (57, .aaload, 1, 58), (58, .invokevirtual 22, 3, 61), (61, .return_, 1, 62)]
theorem jd_Past_pop : qm_D prog_4_method_3_code jl_Past_pop := qm_D_of (by decide +kernel)
noncomputable def jf_Past_pop (this : Nat) (p1 : Nat) : qm_M Unit :=
  mB (mGt this 1) fun x1 =>
  mB (α := Int32) (
    if x1 ≤ 0 then
      mP 9
    else
      mB (mGt this 1) fun x3 =>
      mP (x3 - 1)) fun s2 =>
  mB (mPt this 1 s2) fun _ =>
  mB (mGt this 2) fun x4 =>
  mB (jf_Math_max (x4 - 1) 0) fun x5 =>
  mB (mPt this 2 x5) fun _ =>
  mB (mGt this 1) fun x6 =>
  if (Int32.ofNat (qm_kd (qm_rf this 0)).2) ≤ x6 then
    mP ()
  else
    mB (mGt this 1) fun x7 =>
    mB (mLr (qm_rf this 0) x7) fun r8 =>
    mB (jf_Run_copyFrom p1 r8) fun _ =>
    mP ()
set_option maxRecDepth 20000 in
set_option maxHeartbeats 4000000 in
theorem jb_Past_pop {X : qm_X} (hX : qm_ok X qr_Past prog_4_method_3_code 2 1 22 jl_Past_pop) {σ0 : qm_Mem} (hR : qm_RV X σ0) (this : Nat) (p1 : Nat) (hthis : (qm_kd this).1 = 12) (hp1 : (qm_kd p1).1 = 14) : qm_B X (jf_Past_pop this p1) 0 [some (.ref (qx_ad X this)), some (.ref (qx_ad X p1))] [] (fun _ σ1 => σ1 = σ0) := by
  unfold jf_Past_pop
  refine qb_aload_n hX 0 rfl rfl ?_
  refine qb_aload_n hX 1 rfl rfl ?_
  refine qb_get hX 2 rfl fl_Past_18 hthis rfl (fun x1 => ?_)
  refine qb_join 19 (fun s2 => [some (.ref (qx_ad X this)), some (.ref (qx_ad X p1))]) (fun s2 => [.int s2, .ref (qx_ad X this)]) ?_ ?_
  ·
    refine qb_ifle hX 3 17 rfl (by decide) ?_ ?_
    ·
      refine qb_bipush hX 9 9 rfl (by decide) ?_
      exact qb_exit (fun σ h => qj_wk (ρ' := [some (.ref (qx_ad X this)), some (.ref (qx_ad X p1))]) (qw_s (qw_s (qw_0))) h)
    ·
      refine qb_aload_n hX 4 rfl rfl ?_
      refine qb_get hX 5 rfl fl_Past_18 hthis rfl (fun x3 => ?_)
      refine qb_iconst hX 6 1 rfl (by decide) ?_
      refine qb_isub hX 7 rfl ?_
      exact qb_exit (fun σ h => qj_goto hX 8 rfl (by decide) (qj_wk (ρ' := [some (.ref (qx_ad X this)), some (.ref (qx_ad X p1))]) (qw_s (qw_s (qw_0))) h))
  · intro s2
    refine qb_put hX 10 rfl fp_Past_18 hthis ?_
    refine qb_aload_n hX 11 rfl rfl ?_
    refine qb_aload_n hX 12 rfl rfl ?_
    refine qb_get hX 13 rfl fl_Past_26 hthis rfl (fun x4 => ?_)
    refine qb_iconst hX 14 1 rfl (by decide) ?_
    refine qb_isub hX 15 rfl ?_
    refine qb_iconst hX 16 0 rfl (by decide) ?_
    refine qb_mmax hX 17 rfl cv_Past_35 (by decide) (by exact Nat.le_of_ble_eq_true rfl) (fun x5 => ?_)
    refine qb_put hX 18 rfl fp_Past_26 hthis ?_
    refine qb_aload_n hX 19 rfl rfl ?_
    refine qb_get hX 20 rfl fl_Past_18 hthis rfl (fun x6 => ?_)
    refine qb_aload_n hX 21 rfl rfl ?_
    refine qb_getR hX 22 rfl fl_Past_11 hthis rfl ?_
    refine qb_alenR hX 23 (Int32.ofNat (qm_kd (qm_rf this 0)).2) rfl (Or.inr (kf_Past_0 hthis)) rfl ?_
    refine qb_icge hX 24 61 rfl (by decide) ?_ ?_
    ·
      exact qb_vret hX 32 rfl hR (fun _ h => h)
    ·
      refine qb_aload_n hX 25 rfl rfl ?_
      refine qb_aload_n hX 26 rfl rfl ?_
      refine qb_getR hX 27 rfl fl_Past_11 hthis rfl ?_
      refine qb_aload_n hX 28 rfl rfl ?_
      refine qb_get hX 29 rfl fl_Past_18 hthis rfl (fun x7 => ?_)
      refine qb_aald hX 30 rfl (Or.inr (kf_Past_0 hthis)) (ka_5 (kf_Past_0 hthis)) (fun r8 hr8 => ?_)
      refine qb_callV hX 31 rfl cv_Past_22 (jm_Run_copyFrom (qk_GI hX) p1 r8 hp1 hr8) (ci := 4) hp1 ⟨rfl, rfl, rfl, by decide, by decide⟩ rfl (by exact Nat.le_of_ble_eq_true rfl) ?_
      exact qb_vret hX 32 rfl hR (fun _ h => h)
theorem jm_Past_pop {l : Launch} {G : qm_G} (hG : qm_GI G) (this : Nat) (p1 : Nat) (hthis : (qm_kd this).1 = 12) (hp1 : (qm_kd p1).1 = 14) : qm_MV l G jy_Past_pop prog_4_method_3_code 2 1 22 [.ref (G.1 this), .ref (G.1 p1)] (jf_Past_pop this p1) :=
  qm_metV (by decide +kernel) jd_Past_pop (fun v hv => by simp only [List.mem_cons, List.not_mem_nil, or_false] at hv; rcases hv with rfl | rfl <;> rfl) (by exact Nat.le_of_ble_eq_true rfl) hG (fun X hl hg hX σ0 hR => by subst hl; subst hg; exact jb_Past_pop hX hR this p1 hthis hp1)
def jl_Press_lay : List qm_I := [(0, .aload_n 0, 1, 1), (1, .getfield 20, 3, 4), (4, .invokevirtual 55, 3, 7), (7, .aload_n 0, 1, 8), (8, .getfield 29, 3, 11), (11, .invokevirtual 58, 3, 14), (14, .return_, 1, 15)]
theorem jd_Press_lay : qm_D prog_5_method_2_code jl_Press_lay := qm_D_of (by decide +kernel)
noncomputable def jf_Press_lay (this : Nat) : qm_M Unit :=
  mB (jf_Flow_lay (qm_rf this 1)) fun _ =>
  mB (jf_Fitter_forget (qm_rf this 2)) fun _ =>
  mP ()
set_option maxRecDepth 20000 in
set_option maxHeartbeats 4000000 in
theorem jb_Press_lay {X : qm_X} (hX : qm_ok X qr_Press prog_5_method_2_code 1 4 94 jl_Press_lay) {σ0 : qm_Mem} (hR : qm_RV X σ0) (this : Nat) (hthis : (qm_kd this).1 = 13) : qm_B X (jf_Press_lay this) 0 [some (.ref (qx_ad X this))] [] (fun _ σ1 => σ1 = σ0) := by
  unfold jf_Press_lay
  refine qb_aload_n hX 0 rfl rfl ?_
  refine qb_getR hX 1 rfl fl_Press_20 hthis rfl ?_
  refine qb_callV hX 2 rfl cv_Press_55 (jm_Flow_lay (qk_GI hX) (qm_rf this 1)  (kf_Press_1 hthis) ) (ci := 1) (kf_Press_1 hthis) ⟨rfl, rfl, rfl, by decide, by decide⟩ rfl (by exact Nat.le_of_ble_eq_true rfl) ?_
  refine qb_aload_n hX 3 rfl rfl ?_
  refine qb_getR hX 4 rfl fl_Press_29 hthis rfl ?_
  refine qb_callV hX 5 rfl cv_Press_58 (jm_Fitter_forget (qk_GI hX) (qm_rf this 2)  (kf_Press_2 hthis) ) (ci := 0) (kf_Press_2 hthis) ⟨rfl, rfl, rfl, by decide, by decide⟩ rfl (by exact Nat.le_of_ble_eq_true rfl) ?_
  exact qb_vret hX 6 rfl hR (fun _ h => h)
theorem jm_Press_lay {l : Launch} {G : qm_G} (hG : qm_GI G) (this : Nat) (hthis : (qm_kd this).1 = 13) : qm_MV l G jy_Press_lay prog_5_method_2_code 1 4 94 [.ref (G.1 this)] (jf_Press_lay this) :=
  qm_metV (by decide +kernel) jd_Press_lay (fun v hv => by simp only [List.mem_cons, List.not_mem_nil, or_false] at hv; rcases hv with rfl <;> rfl) (by exact Nat.le_of_ble_eq_true rfl) hG (fun X hl hg hX σ0 hR => by subst hl; subst hg; exact jb_Press_lay hX hR this hthis)
def jl_Press_pageIsFree : List qm_I := [(0, .aload_n 0, 1, 1), (1, .getfield 76, 3, 4), (4, .aload_n 0, 1, 5), (5, .getfield 9, 3, 8), (8, .iconst 1, 1, 9), (9, .invokevirtual 70, 3, 12), (12, .if_icmp .ne 7, 3, 15), (15, .iconst 1, 1, 16), (16, .goto 4, 3, 19), (19, .iconst 0, 1, 20), (20, .ireturn, 1, 21)]
theorem jd_Press_pageIsFree : qm_D prog_5_method_7_code jl_Press_pageIsFree := qm_D_of (by decide +kernel)
noncomputable def jf_Press_pageIsFree (this : Nat) : qm_M Int32 :=
  mB (mGt this 6) fun x1 =>
  mB (jf_Run_setting (qm_rf this 0) 1) fun x2 =>
  if ¬ x1 = x2 then
    mP 0
  else
    mP 1
set_option maxRecDepth 20000 in
set_option maxHeartbeats 4000000 in
theorem jb_Press_pageIsFree {X : qm_X} (hX : qm_ok X qr_Press prog_5_method_7_code 1 1 21 jl_Press_pageIsFree) {r0 : Int32} {σ0 : qm_Mem} (hR : qm_RI X r0 σ0 .boolean) (this : Nat) (hthis : (qm_kd this).1 = 13) : qm_B X (jf_Press_pageIsFree this) 0 [some (.ref (qx_ad X this))] [] (fun r σ1 => r = r0 ∧ σ1 = σ0) := by
  unfold jf_Press_pageIsFree
  refine qb_aload_n hX 0 rfl rfl ?_
  refine qb_get hX 1 rfl fl_Press_76 hthis rfl (fun x1 => ?_)
  refine qb_aload_n hX 2 rfl rfl ?_
  refine qb_getR hX 3 rfl fl_Press_9 hthis rfl ?_
  refine qb_iconst hX 4 1 rfl (by decide) ?_
  refine qb_callI hX 5 rfl cv_Press_70 (jm_Run_setting (qk_GI hX) (qm_rf this 0) 1 (kf_Press_0 hthis) ) (ci := 4) (kf_Press_0 hthis) ⟨rfl, rfl, rfl, by decide, by decide⟩ rfl (by exact Nat.le_of_ble_eq_true rfl) (fun x2 => ?_)
  refine qb_icne hX 6 19 rfl (by decide) ?_ ?_
  ·
    refine qb_iconst hX 9 0 rfl (by decide) ?_
    exact qb_zret1 hX 10 rfl hR (by decide) (fun _ h => h)
  ·
    refine qb_iconst hX 7 1 rfl (by decide) ?_
    refine qb_goto hX 8 (tgt := 20) rfl (by decide) ?_
    exact qb_zret1 hX 10 rfl hR (by decide) (fun _ h => h)
theorem jm_Press_pageIsFree {l : Launch} {G : qm_G} (hG : qm_GI G) (this : Nat) (hthis : (qm_kd this).1 = 13) : qm_MI l G jy_Press_pageIsFree prog_5_method_7_code 1 (some .boolean) 1 21 [.ref (G.1 this)] (jf_Press_pageIsFree this) :=
  qm_metI (by decide +kernel) jd_Press_pageIsFree (fun v hv => by simp only [List.mem_cons, List.not_mem_nil, or_false] at hv; rcases hv with rfl <;> rfl) (by exact Nat.le_of_ble_eq_true rfl) hG rfl (fun X hl hg hX r0 σ0 hR => by subst hl; subst hg; exact jb_Press_pageIsFree hX hR this hthis)
def jl_Press_turnPage : List qm_I := [(0, .aload_n 0, 1, 1), (1, .getfield 67, 3, 4), (4, .bipush 39, 2, 6), (6, .if_icmp .lt 14, 3, 9), (9, .aload_n 0, 1, 10), (10, .aload_n 0, 1, 11), (11, .getfield 92, 3, 14), (14, .putfield 51, 3, 17), (17, .goto 25, 3, 20), (20, .aload_n 0, 1, 21), (21, .dup, 1, 22), (22, .getfield 67, 3, 25), (25, .iconst 1, 1, 26), (26, .iadd, 1, 27), (27, .putfield 67, 3, 30), (30, .aload_n 0, 1, 31), (31, .aload_n 0, 1, 32), (32, .getfield 9, 3, 35), (35, .iconst 1, 1, 36), (36, .invokevirtual 70, 3, 39), (39, .putfield 76, 3, 42), (42, .return_, 1, 43)]
theorem jd_Press_turnPage : qm_D prog_5_method_6_code jl_Press_turnPage := qm_D_of (by decide +kernel)
noncomputable def jf_Press_turnPage (this : Nat) : qm_M Unit :=
  mB (mGt this 5) fun x1 =>
  if x1 < 39 then
    mB (mGt this 5) fun x2 =>
    mB (mPt this 5 (x2 + 1)) fun _ =>
    mB (jf_Run_setting (qm_rf this 0) 1) fun x3 =>
    mB (mPt this 6 x3) fun _ =>
    mP ()
  else
    mB (mGt this 7) fun x4 =>
    mB (mPt this 9 x4) fun _ =>
    mP ()
set_option maxRecDepth 20000 in
set_option maxHeartbeats 4000000 in
theorem jb_Press_turnPage {X : qm_X} (hX : qm_ok X qr_Press prog_5_method_6_code 1 1 21 jl_Press_turnPage) {σ0 : qm_Mem} (hR : qm_RV X σ0) (this : Nat) (hthis : (qm_kd this).1 = 13) : qm_B X (jf_Press_turnPage this) 0 [some (.ref (qx_ad X this))] [] (fun _ σ1 => σ1 = σ0) := by
  unfold jf_Press_turnPage
  refine qb_aload_n hX 0 rfl rfl ?_
  refine qb_get hX 1 rfl fl_Press_67 hthis rfl (fun x1 => ?_)
  refine qb_bipush hX 2 39 rfl (by decide) ?_
  refine qb_iclt hX 3 20 rfl (by decide) ?_ ?_
  ·
    refine qb_aload_n hX 9 rfl rfl ?_
    refine qb_dup hX 10 rfl rfl ?_
    refine qb_get hX 11 rfl fl_Press_67 hthis rfl (fun x2 => ?_)
    refine qb_iconst hX 12 1 rfl (by decide) ?_
    refine qb_iadd hX 13 rfl ?_
    refine qb_put hX 14 rfl fp_Press_67 hthis ?_
    refine qb_aload_n hX 15 rfl rfl ?_
    refine qb_aload_n hX 16 rfl rfl ?_
    refine qb_getR hX 17 rfl fl_Press_9 hthis rfl ?_
    refine qb_iconst hX 18 1 rfl (by decide) ?_
    refine qb_callI hX 19 rfl cv_Press_70 (jm_Run_setting (qk_GI hX) (qm_rf this 0) 1 (kf_Press_0 hthis) ) (ci := 4) (kf_Press_0 hthis) ⟨rfl, rfl, rfl, by decide, by decide⟩ rfl (by exact Nat.le_of_ble_eq_true rfl) (fun x3 => ?_)
    refine qb_put hX 20 rfl fp_Press_76 hthis ?_
    exact qb_vret hX 21 rfl hR (fun _ h => h)
  ·
    refine qb_aload_n hX 4 rfl rfl ?_
    refine qb_aload_n hX 5 rfl rfl ?_
    refine qb_get hX 6 rfl fl_Press_92 hthis rfl (fun x4 => ?_)
    refine qb_put hX 7 rfl fp_Press_51 hthis ?_
    refine qb_goto hX 8 (tgt := 42) rfl (by decide) ?_
    exact qb_vret hX 21 rfl hR (fun _ h => h)
theorem jm_Press_turnPage {l : Launch} {G : qm_G} (hG : qm_GI G) (this : Nat) (hthis : (qm_kd this).1 = 13) : qm_MV l G jy_Press_turnPage prog_5_method_6_code 1 1 21 [.ref (G.1 this)] (jf_Press_turnPage this) :=
  qm_metV (by decide +kernel) jd_Press_turnPage (fun v hv => by simp only [List.mem_cons, List.not_mem_nil, or_false] at hv; rcases hv with rfl <;> rfl) (by exact Nat.le_of_ble_eq_true rfl) hG (fun X hl hg hX σ0 hR => by subst hl; subst hg; exact jb_Press_turnPage hX hR this hthis)
def jl_Press_putSpan : List qm_I := [(0, .aload_n 0, 1, 1), (1, .getfield 20, 3, 4), (4, .getfield 112, 3, 7), (7, .iload_n 1, 1, 8), (8, .invokestatic 88, 3, 11), (11, .istore_n 2, 1, 12), (12, .iload_n 2, 1, 13), (13, .aload_n 0, 1, 14), (14, .getfield 9, 3, 17), (17, .bipush 7, 2, 19), (19, .invokevirtual 70, 3, 22), (22, .iadd, 1, 23), (23, .aload_n 0, 1, 24), (24, .getfield 76, 3, 27), (27, .if_icmp .le 14, 3, 30), (30, .aload_n 0, 1, 31), (31, .invokevirtual 115, 3, 34), (34, .ifCond .ne 7, 3, 37), (37, .aload_n 0, 1, 38), (38, .invokevirtual 119, 3, 41), (41, .iload_n 1, 1, 42), (42, .iconst 1, 1, 43), (43, .isub, 1, 44), (44, .istore_n 3, 1, 45), (45, .aload_n 0, 1, 46), (46, .getfield 51, 3, 49), (49, .iconst (-1), 1, 50), (50, .if_icmp .ne 61, 3, 53), (53, .iload_n 3, 1, 54), (54, .ifCond .lt 57, 3, 57), (57, .iload_n 3, 1, 58), (58, .bipush 16, 2, 60), (60, .if_icmp .ge 51, 3, 63), (63, .aload_n 0, 1, 64), (64, .getfield 44, 3, 67), (67, .iload_n 3, 1, 68), (68, .aload_n 0, 1, 69), (69, .getfield 67, 3, 72), (72, .iastore, 1, 73), (73, .aload_n 0, 1, 74), (74, .getfield 48, 3, 77), (77, .iload_n 3, 1, 78), (78, .aload_n 0, 1, 79), (79, .getfield 9, 3, 82), (82, .iconst 1, 1, 83), (83, .invokevirtual 70, 3, 86), (86, .aload_n 0, 1, 87), (87, .getfield 76, 3, 90), (90, .isub, 1, 91), (91, .iastore, 1, 92), (92, .aload_n 0, 1, 93), (93, .iload_n 1, 1, 94), (94, .putfield 79, 3, 97), (97, .aload_n 0, 1, 98), (98, .iconst 0, 1, 99), (99, .aload_n 0, 1, 100), (100, .getfield 76, 3, 103), (103, .iload_n 2, 1, 104), (104, .isub, 1, 105), (105, .invokestatic 33, 3, 108), (108, .putfield 76, 3, 111), (111, .return_, 1, 112)]
theorem jd_Press_putSpan : qm_D prog_5_method_8_code jl_Press_putSpan := qm_D_of (by decide +kernel)
noncomputable def jf_Press_putSpan (this : Nat) (p1 : Int32) : qm_M Unit :=
  mB (jf_Top_at (qm_rf (qm_rf this 1) 18) p1) fun x1 =>
  mB (jf_Run_setting (qm_rf this 0) 7) fun x2 =>
  mB (mGt this 6) fun x3 =>
  mB (α := Unit) (
    if (x1 + x2) ≤ x3 then
      mP ()
    else
      mB (jf_Press_pageIsFree this) fun x5 =>
      if ¬ x5 = 0 then
        mP ()
      else
        mB (jf_Press_turnPage this) fun _ =>
        mP ()) fun s4 =>
  mB (mP (p1 - 1)) fun x6 =>
  mB (mGt this 9) fun x7 =>
  if ¬ x7 = (-1) then
    mP ()
  else
    if x6 < 0 then
      mP ()
    else
      if 16 ≤ x6 then
        mP ()
      else
        mB (mGt this 5) fun x8 =>
        mB (mSt (qm_rf this 11) x6 x8) fun _ =>
        mB (jf_Run_setting (qm_rf this 0) 1) fun x9 =>
        mB (mGt this 6) fun x10 =>
        mB (mSt (qm_rf this 12) x6 (x9 - x10)) fun _ =>
        mB (mPt this 10 p1) fun _ =>
        mB (mGt this 6) fun x11 =>
        mB (jf_Math_max 0 (x11 - x1)) fun x12 =>
        mB (mPt this 6 x12) fun _ =>
        mP ()
set_option maxRecDepth 20000 in
set_option maxHeartbeats 4000000 in
theorem jb_Press_putSpan {X : qm_X} (hX : qm_ok X qr_Press prog_5_method_8_code 4 2 41 jl_Press_putSpan) {σ0 : qm_Mem} (hR : qm_RV X σ0) (this : Nat) (p1 : Int32) (hthis : (qm_kd this).1 = 13) : qm_B X (jf_Press_putSpan this p1) 0 [some (.ref (qx_ad X this)), some (.int p1), none, none] [] (fun _ σ1 => σ1 = σ0) := by
  unfold jf_Press_putSpan
  refine qb_aload_n hX 0 rfl rfl ?_
  refine qb_getR hX 1 rfl fl_Press_20 hthis rfl ?_
  refine qb_getR hX 2 rfl fl_Press_112 (kf_Press_1 hthis) rfl ?_
  refine qb_iload_n hX 3 rfl rfl ?_
  refine qb_calNI hX 4 rfl cv_Press_88 (jm_Top_at (qk_GI hX) (qm_rf (qm_rf this 1) 18) p1 (kf_Flow_18 (kf_Press_1 hthis))) ⟨rfl, by decide, by decide⟩ rfl (by exact Nat.le_of_ble_eq_true rfl) (fun x1 => ?_)
  refine qb_istore_n hX 5 ([some (.ref (qx_ad X this)), some (.int p1), some (.int x1), none]) rfl (by decide) rfl ?_
  refine qb_iload_n hX 6 rfl rfl ?_
  refine qb_aload_n hX 7 rfl rfl ?_
  refine qb_getR hX 8 rfl fl_Press_9 hthis rfl ?_
  refine qb_bipush hX 9 7 rfl (by decide) ?_
  refine qb_callI hX 10 rfl cv_Press_70 (jm_Run_setting (qk_GI hX) (qm_rf this 0) 7 (kf_Press_0 hthis) ) (ci := 4) (kf_Press_0 hthis) ⟨rfl, rfl, rfl, by decide, by decide⟩ rfl (by exact Nat.le_of_ble_eq_true rfl) (fun x2 => ?_)
  refine qb_iadd hX 11 rfl ?_
  refine qb_aload_n hX 12 rfl rfl ?_
  refine qb_get hX 13 rfl fl_Press_76 hthis rfl (fun x3 => ?_)
  refine qb_join 41 (fun s4 => [some (.ref (qx_ad X this)), some (.int p1), some (.int x1), none]) (fun s4 => []) ?_ ?_
  ·
    refine qb_icle hX 14 41 rfl (by decide) ?_ ?_
    ·
      exact qb_exit (fun σ h => qj_wk (ρ' := [some (.ref (qx_ad X this)), some (.int p1), some (.int x1), none]) (qw_s (qw_s (qw_s (qw_n (qw_0))))) h)
    ·
      refine qb_aload_n hX 15 rfl rfl ?_
      refine qb_callI hX 16 rfl cv_Press_115 (jm_Press_pageIsFree (qk_GI hX) this  hthis ) (ci := 3) hthis ⟨rfl, rfl, rfl, by decide, by decide⟩ rfl (by exact Nat.le_of_ble_eq_true rfl) (fun x5 => ?_)
      refine qb_ifne hX 17 41 rfl (by decide) ?_ ?_
      ·
        exact qb_exit (fun σ h => qj_wk (ρ' := [some (.ref (qx_ad X this)), some (.int p1), some (.int x1), none]) (qw_s (qw_s (qw_s (qw_n (qw_0))))) h)
      ·
        refine qb_aload_n hX 18 rfl rfl ?_
        refine qb_callV hX 19 rfl cv_Press_119 (jm_Press_turnPage (qk_GI hX) this  hthis ) (ci := 3) hthis ⟨rfl, rfl, rfl, by decide, by decide⟩ rfl (by exact Nat.le_of_ble_eq_true rfl) ?_
        exact qb_exit (fun σ h => qj_wk (ρ' := [some (.ref (qx_ad X this)), some (.int p1), some (.int x1), none]) (qw_s (qw_s (qw_s (qw_n (qw_0))))) h)
  · intro s4
    refine qb_iload_n hX 20 rfl rfl ?_
    refine qb_iconst hX 21 1 rfl (by decide) ?_
    refine qb_isub hX 22 rfl ?_
    refine qb_istore_nL hX 23 (fun x6 => [some (.ref (qx_ad X this)), some (.int p1), some (.int x1), some (.int x6)]) rfl (by decide) (fun _ => rfl) (fun x6 => ?_)
    refine qb_aload_n hX 24 rfl rfl ?_
    refine qb_get hX 25 rfl fl_Press_51 hthis rfl (fun x7 => ?_)
    refine qb_iconst hX 26 (-1) rfl (by decide) ?_
    refine qb_icne hX 27 111 rfl (by decide) ?_ ?_
    ·
      exact qb_vret hX 61 rfl hR (fun _ h => h)
    ·
      refine qb_iload_n hX 28 rfl rfl ?_
      refine qb_iflt hX 29 111 rfl (by decide) ?_ ?_
      ·
        exact qb_vret hX 61 rfl hR (fun _ h => h)
      ·
        refine qb_iload_n hX 30 rfl rfl ?_
        refine qb_bipush hX 31 16 rfl (by decide) ?_
        refine qb_icge hX 32 111 rfl (by decide) ?_ ?_
        ·
          exact qb_vret hX 61 rfl hR (fun _ h => h)
        ·
          refine qb_aload_n hX 33 rfl rfl ?_
          refine qb_getR hX 34 rfl fl_Press_44 hthis rfl ?_
          refine qb_iload_n hX 35 rfl rfl ?_
          refine qb_aload_n hX 36 rfl rfl ?_
          refine qb_get hX 37 rfl fl_Press_67 hthis rfl (fun x8 => ?_)
          refine qb_iast hX 38 rfl (kf_Press_11 hthis) ?_
          refine qb_aload_n hX 39 rfl rfl ?_
          refine qb_getR hX 40 rfl fl_Press_48 hthis rfl ?_
          refine qb_iload_n hX 41 rfl rfl ?_
          refine qb_aload_n hX 42 rfl rfl ?_
          refine qb_getR hX 43 rfl fl_Press_9 hthis rfl ?_
          refine qb_iconst hX 44 1 rfl (by decide) ?_
          refine qb_callI hX 45 rfl cv_Press_70 (jm_Run_setting (qk_GI hX) (qm_rf this 0) 1 (kf_Press_0 hthis) ) (ci := 4) (kf_Press_0 hthis) ⟨rfl, rfl, rfl, by decide, by decide⟩ rfl (by exact Nat.le_of_ble_eq_true rfl) (fun x9 => ?_)
          refine qb_aload_n hX 46 rfl rfl ?_
          refine qb_get hX 47 rfl fl_Press_76 hthis rfl (fun x10 => ?_)
          refine qb_isub hX 48 rfl ?_
          refine qb_iast hX 49 rfl (kf_Press_12 hthis) ?_
          refine qb_aload_n hX 50 rfl rfl ?_
          refine qb_iload_n hX 51 rfl rfl ?_
          refine qb_put hX 52 rfl fp_Press_79 hthis ?_
          refine qb_aload_n hX 53 rfl rfl ?_
          refine qb_iconst hX 54 0 rfl (by decide) ?_
          refine qb_aload_n hX 55 rfl rfl ?_
          refine qb_get hX 56 rfl fl_Press_76 hthis rfl (fun x11 => ?_)
          refine qb_iload_n hX 57 rfl rfl ?_
          refine qb_isub hX 58 rfl ?_
          refine qb_mmax hX 59 rfl cv_Press_33 (by decide) (by exact Nat.le_of_ble_eq_true rfl) (fun x12 => ?_)
          refine qb_put hX 60 rfl fp_Press_76 hthis ?_
          exact qb_vret hX 61 rfl hR (fun _ h => h)
theorem jm_Press_putSpan {l : Launch} {G : qm_G} (hG : qm_GI G) (this : Nat) (p1 : Int32) (hthis : (qm_kd this).1 = 13) : qm_MV l G jy_Press_putSpan prog_5_method_8_code 4 2 41 [.ref (G.1 this), .int p1] (jf_Press_putSpan this p1) :=
  qm_metV (by decide +kernel) jd_Press_putSpan (fun v hv => by simp only [List.mem_cons, List.not_mem_nil, or_false] at hv; rcases hv with rfl | rfl <;> rfl) (by exact Nat.le_of_ble_eq_true rfl) hG (fun X hl hg hX σ0 hR => by subst hl; subst hg; exact jb_Press_putSpan hX hR this p1 hthis)
def jl_Press_putColumn : List qm_I := [(0, .aload_n 0, 1, 1), (1, .getfield 20, 3, 4), (4, .aload_n 0, 1, 5), (5, .getfield 92, 3, 8), (8, .iload_n 3, 1, 9), (9, .invokevirtual 146, 3, 12), (12, .istore 6, 2, 14), (14, .iconst 0, 1, 15), (15, .aload_n 0, 1, 16), (16, .getfield 29, 3, 19), (19, .aload_n 0, 1, 20), (20, .getfield 92, 3, 23), (23, .iload_n 3, 1, 24), (24, .aload_n 0, 1, 25), (25, .getfield 95, 3, 28), (28, .iload 4, 2, 30), (30, .invokevirtual 149, 3, 33), (33, .invokestatic 33, 3, 36), (36, .istore 7, 2, 38), (38, .iload 6, 2, 40), (40, .aload_n 0, 1, 41), (41, .getfield 95, 3, 44), (44, .iadd, 1, 45), (45, .iload 7, 2, 47), (47, .isub, 1, 48), (48, .istore 8, 2, 50), (50, .iload_n 3, 1, 51), (51, .aload_n 0, 1, 52), (52, .getfield 92, 3, 55), (55, .if_icmp .gt 8, 3, 58), (58, .iload 8, 2, 60), (60, .ifCond .le 7, 3, 63), (63, .iconst 1, 1, 64), (64, .goto 4, 3, 67), (67, .iconst 0, 1, 68), (68, .istore 9, 2, 70), (70, .aload_n 0, 1, 71), (71, .getfield 64, 3, 74), (74, .ifCond .lt 136, 3, 77), (77, .aload_n 0, 1, 78), (78, .getfield 64, 3, 81), (81, .aload_n 0, 1, 82), (82, .getfield 41, 3, 85), (85, .arraylength, 1, 86), (86, .if_icmp .ge 124, 3, 89), (89, .aload_n 0, 1, 90), (90, .getfield 41, 3, 93), (93, .aload_n 0, 1, 94), (94, .getfield 64, 3, 97), (97, .aaload, 1, 98), (98, .astore 10, 2, 100), (100, .aload 10, 2, 102), (102, .iconst 0, 1, 103), (103, .aload_n 0, 1, 104), (104, .getfield 67, 3, 107), (107, .iastore, 1, 108), (108, .aload 10, 2, 110), (110, .iconst 1, 1, 111), (111, .iload_n 2, 1, 112), (112, .iastore, 1, 113), (113, .aload 10, 2, 115), (115, .iconst 2, 1, 116), (116, .iload_n 1, 1, 117), (117, .iastore, 1, 118), (118, .aload 10, 2, 120), (120, .iconst 3, 1, 121), (121, .aload_n 0, 1, 122), (122, .getfield 92, 3, 125), (125, .iastore, 1, 126), (126, .aload 10, 2, 128), (128, .iconst 4, 1, 129), (129, .iload_n 3, 1, 130), (130, .iastore, 1, 131), (131, .aload 10, 2, 133), (133, .iconst 5, 1, 134), (134, .aload_n 0, 1, 135), (135, .getfield 20, 3, 138), (138, .aload_n 0, 1, 139), (139, .getfield 92, 3, 142), (142, .iload_n 3, 1, 143), (143, .invokevirtual 152, 3, 146), (146, .iastore, 1, 147), (147, .aload 10, 2, 149), (149, .bipush 6, 2, 151), (151, .aload_n 0, 1, 152), (152, .getfield 95, 3, 155), (155, .iastore, 1, 156), (156, .aload 10, 2, 158), (158, .bipush 7, 2, 160), (160, .iload 6, 2, 162), (162, .iastore, 1, 163), (163, .aload 10, 2, 165), (165, .bipush 8, 2, 167), (167, .iload 8, 2, 169), (169, .iastore, 1, 170), (170, .aload 10, 2, 172), (172, .bipush 9, 2, 174), (174, .aload_n 0, 1, 175), (175, .getfield 9, 3, 178), (178, .iconst 1, 1, 179), (179, .invokevirtual 70, 3, 182), (182, .aload_n 0, 1, 183), (183, .getfield 76, 3, 186), (186, .isub, 1, 187), (187, .iastore, 1, 188), (188, .aload 10, 2, 190), (190, .bipush 10, 2, 192), (192, .iload 4, 2, 194), (194, .iastore, 1, 195), (195, .aload 10, 2, 197), (197, .bipush 11, 2, 199), (199, .iload 5, 2, 201), (201, .ifCond .eq 7, 3, 204), (204, .iconst 1, 1, 205), (205, .goto 4, 3, 208), (208, .iconst 0, 1, 209), (209, .iastore, 1, 210), (210, .aload_n 0, 1, 211), (211, .dup, 1, 212), (212, .getfield 64, 3, 215), (215, .iconst 1, 1, 216), (216, .iadd, 1, 217), (217, .putfield 64, 3, 220), (220, .aload_n 0, 1, 221), (221, .iload_n 3, 1, 222), (222, .putfield 92, 3, 225), (225, .aload_n 0, 1, 226), (226, .iload 7, 2, 228), (228, .putfield 95, 3, 231), (231, .iload 9, 2, 233), (233, .ireturn, 1, 234)]
theorem jd_Press_putColumn : qm_D prog_5_method_12_code jl_Press_putColumn := qm_D_of (by decide +kernel)
noncomputable def jf_Press_putColumn (this : Nat) (p1 : Int32) (p2 : Int32) (p3 : Int32) (p4 : Int32) (p5 : Int32) : qm_M Int32 :=
  mB (mGt this 7) fun x1 =>
  mB (jf_Flow_ownLines (qm_rf this 1) x1 p3) fun x2 =>
  mB (mGt this 7) fun x3 =>
  mB (mGt this 8) fun x4 =>
  mB (jf_Fitter_leftOver (qm_rf this 2) x3 p3 x4 p4) fun x5 =>
  mB (jf_Math_max 0 x5) fun x6 =>
  mB (mGt this 8) fun x7 =>
  mB (mP ((x2 + x7) - x6)) fun x8 =>
  mB (mGt this 7) fun x9 =>
  mB (α := Int32) (
    mB (α := (Unit ⊕ Int32)) (
      if x9 < p3 then
        mP (Sum.inl ())
      else
        if x8 ≤ 0 then
          mP (Sum.inr 0)
        else
          mP (Sum.inl ())) (Sum.elim (fun s11 =>
      mP 1) mP)) fun s10 =>
  mB (mGt this 4) fun x12 =>
  mB (α := Unit) (
    if x12 < 0 then
      mP ()
    else
      mB (mGt this 4) fun x14 =>
      if (Int32.ofNat (qm_kd (qm_rf this 3)).2) ≤ x14 then
        mP ()
      else
        mB (mGt this 4) fun x15 =>
        mB (mLr (qm_rf this 3) x15) fun r16 =>
        mB (mGt this 5) fun x17 =>
        mB (mSt r16 0 x17) fun _ =>
        mB (mSt r16 1 p2) fun _ =>
        mB (mSt r16 2 p1) fun _ =>
        mB (mGt this 7) fun x18 =>
        mB (mSt r16 3 x18) fun _ =>
        mB (mSt r16 4 p3) fun _ =>
        mB (mGt this 7) fun x19 =>
        mB (jf_Flow_text (qm_rf this 1) x19 p3) fun x20 =>
        mB (mSt r16 5 x20) fun _ =>
        mB (mGt this 8) fun x21 =>
        mB (mSt r16 6 x21) fun _ =>
        mB (mSt r16 7 x2) fun _ =>
        mB (mSt r16 8 x8) fun _ =>
        mB (jf_Run_setting (qm_rf this 0) 1) fun x22 =>
        mB (mGt this 6) fun x23 =>
        mB (mSt r16 9 (x22 - x23)) fun _ =>
        mB (mSt r16 10 p4) fun _ =>
        mB (α := Int32) (
          if p5 = 0 then
            mP 0
          else
            mP 1) fun s24 =>
        mB (mSt r16 11 s24) fun _ =>
        mP ()) fun s13 =>
  mB (mGt this 4) fun x25 =>
  mB (mPt this 4 (x25 + 1)) fun _ =>
  mB (mPt this 7 p3) fun _ =>
  mB (mPt this 8 x6) fun _ =>
  mB (mZ s10) fun x26 => mP x26
set_option maxRecDepth 20000 in
set_option maxHeartbeats 4000000 in
theorem jb_Press_putColumn {X : qm_X} (hX : qm_ok X qr_Press prog_5_method_12_code 11 2 50 jl_Press_putColumn) {r0 : Int32} {σ0 : qm_Mem} (hR : qm_RI X r0 σ0 .boolean) (this : Nat) (p1 : Int32) (p2 : Int32) (p3 : Int32) (p4 : Int32) (p5 : Int32) (hthis : (qm_kd this).1 = 13) : qm_B X (jf_Press_putColumn this p1 p2 p3 p4 p5) 0 [some (.ref (qx_ad X this)), some (.int p1), some (.int p2), some (.int p3), some (.int p4), some (.int p5), none, none, none, none, none] [] (fun r σ1 => r = r0 ∧ σ1 = σ0) := by
  unfold jf_Press_putColumn
  refine qb_aload_n hX 0 rfl rfl ?_
  refine qb_getR hX 1 rfl fl_Press_20 hthis rfl ?_
  refine qb_aload_n hX 2 rfl rfl ?_
  refine qb_get hX 3 rfl fl_Press_92 hthis rfl (fun x1 => ?_)
  refine qb_iload_n hX 4 rfl rfl ?_
  refine qb_callI hX 5 rfl cv_Press_146 (jm_Flow_ownLines (qk_GI hX) (qm_rf this 1) x1 p3 (kf_Press_1 hthis) ) (ci := 1) (kf_Press_1 hthis) ⟨rfl, rfl, rfl, by decide, by decide⟩ rfl (by exact Nat.le_of_ble_eq_true rfl) (fun x2 => ?_)
  refine qb_istore hX 6 ([some (.ref (qx_ad X this)), some (.int p1), some (.int p2), some (.int p3), some (.int p4), some (.int p5), some (.int x2), none, none, none, none]) rfl (by decide) rfl ?_
  refine qb_iconst hX 7 0 rfl (by decide) ?_
  refine qb_aload_n hX 8 rfl rfl ?_
  refine qb_getR hX 9 rfl fl_Press_29 hthis rfl ?_
  refine qb_aload_n hX 10 rfl rfl ?_
  refine qb_get hX 11 rfl fl_Press_92 hthis rfl (fun x3 => ?_)
  refine qb_iload_n hX 12 rfl rfl ?_
  refine qb_aload_n hX 13 rfl rfl ?_
  refine qb_get hX 14 rfl fl_Press_95 hthis rfl (fun x4 => ?_)
  refine qb_iload hX 15 rfl rfl ?_
  refine qb_callI hX 16 rfl cv_Press_149 (jm_Fitter_leftOver (qk_GI hX) (qm_rf this 2) x3 p3 x4 p4 (kf_Press_2 hthis) ) (ci := 0) (kf_Press_2 hthis) ⟨rfl, rfl, rfl, by decide, by decide⟩ rfl (by exact Nat.le_of_ble_eq_true rfl) (fun x5 => ?_)
  refine qb_mmax hX 17 rfl cv_Press_33 (by decide) (by exact Nat.le_of_ble_eq_true rfl) (fun x6 => ?_)
  refine qb_istore hX 18 ([some (.ref (qx_ad X this)), some (.int p1), some (.int p2), some (.int p3), some (.int p4), some (.int p5), some (.int x2), some (.int x6), none, none, none]) rfl (by decide) rfl ?_
  refine qb_iload hX 19 rfl rfl ?_
  refine qb_aload_n hX 20 rfl rfl ?_
  refine qb_get hX 21 rfl fl_Press_95 hthis rfl (fun x7 => ?_)
  refine qb_iadd hX 22 rfl ?_
  refine qb_iload hX 23 rfl rfl ?_
  refine qb_isub hX 24 rfl ?_
  refine qb_istoreL hX 25 (fun x8 => [some (.ref (qx_ad X this)), some (.int p1), some (.int p2), some (.int p3), some (.int p4), some (.int p5), some (.int x2), some (.int x6), some (.int x8), none, none]) rfl (by decide) (fun _ => rfl) (fun x8 => ?_)
  refine qb_iload_n hX 26 rfl rfl ?_
  refine qb_aload_n hX 27 rfl rfl ?_
  refine qb_get hX 28 rfl fl_Press_92 hthis rfl (fun x9 => ?_)
  refine qb_join 68 (fun s10 => [some (.ref (qx_ad X this)), some (.int p1), some (.int p2), some (.int p3), some (.int p4), some (.int p5), some (.int x2), some (.int x6), some (.int x8), none, none]) (fun s10 => [.int s10]) ?_ ?_
  ·
    refine qb_join2 63 (fun s11 => [some (.ref (qx_ad X this)), some (.int p1), some (.int p2), some (.int p3), some (.int p4), some (.int p5), some (.int x2), some (.int x6), some (.int x8), none, none]) (fun s11 => []) ?_ ?_
    ·
      refine qb_icgt hX 29 63 rfl (by decide) ?_ ?_
      ·
        exact qb_exit (fun σ h => qj_wk (ρ' := [some (.ref (qx_ad X this)), some (.int p1), some (.int p2), some (.int p3), some (.int p4), some (.int p5), some (.int x2), some (.int x6), some (.int x8), none, none]) (qw_s (qw_s (qw_s (qw_s (qw_s (qw_s (qw_s (qw_s (qw_s (qw_n (qw_n (qw_0)))))))))))) h)
      ·
        refine qb_iload hX 30 rfl rfl ?_
        refine qb_ifle hX 31 67 rfl (by decide) ?_ ?_
        ·
          refine qb_iconst hX 34 0 rfl (by decide) ?_
          exact qb_exit (fun σ h => qj_wk (ρ' := [some (.ref (qx_ad X this)), some (.int p1), some (.int p2), some (.int p3), some (.int p4), some (.int p5), some (.int x2), some (.int x6), some (.int x8), none, none]) (qw_s (qw_s (qw_s (qw_s (qw_s (qw_s (qw_s (qw_s (qw_s (qw_n (qw_n (qw_0)))))))))))) h)
        ·
          exact qb_exit (fun σ h => qj_wk (ρ' := [some (.ref (qx_ad X this)), some (.int p1), some (.int p2), some (.int p3), some (.int p4), some (.int p5), some (.int x2), some (.int x6), some (.int x8), none, none]) (qw_s (qw_s (qw_s (qw_s (qw_s (qw_s (qw_s (qw_s (qw_s (qw_n (qw_n (qw_0)))))))))))) h)
    · intro s11
      refine qb_iconst hX 32 1 rfl (by decide) ?_
      exact qb_exit (fun σ h => qj_goto hX 33 rfl (by decide) (qj_wk (ρ' := [some (.ref (qx_ad X this)), some (.int p1), some (.int p2), some (.int p3), some (.int p4), some (.int p5), some (.int x2), some (.int x6), some (.int x8), none, none]) (qw_s (qw_s (qw_s (qw_s (qw_s (qw_s (qw_s (qw_s (qw_s (qw_n (qw_n (qw_0)))))))))))) h))
  · intro s10
    refine qb_istore hX 35 ([some (.ref (qx_ad X this)), some (.int p1), some (.int p2), some (.int p3), some (.int p4), some (.int p5), some (.int x2), some (.int x6), some (.int x8), some (.int s10), none]) rfl (by decide) rfl ?_
    refine qb_aload_n hX 36 rfl rfl ?_
    refine qb_get hX 37 rfl fl_Press_64 hthis rfl (fun x12 => ?_)
    refine qb_join 210 (fun s13 => [some (.ref (qx_ad X this)), none, none, some (.int p3), none, none, none, some (.int x6), none, some (.int s10), none]) (fun s13 => []) ?_ ?_
    ·
      refine qb_iflt hX 38 210 rfl (by decide) ?_ ?_
      ·
        exact qb_exit (fun σ h => qj_wk (ρ' := [some (.ref (qx_ad X this)), none, none, some (.int p3), none, none, none, some (.int x6), none, some (.int s10), none]) (qw_s (qw_n (qw_n (qw_s (qw_n (qw_n (qw_n (qw_s (qw_n (qw_s (qw_n (qw_0)))))))))))) h)
      ·
        refine qb_aload_n hX 39 rfl rfl ?_
        refine qb_get hX 40 rfl fl_Press_64 hthis rfl (fun x14 => ?_)
        refine qb_aload_n hX 41 rfl rfl ?_
        refine qb_getR hX 42 rfl fl_Press_41 hthis rfl ?_
        refine qb_alenR hX 43 (Int32.ofNat (qm_kd (qm_rf this 3)).2) rfl (Or.inl (kf_Press_3 hthis)) rfl ?_
        refine qb_icge hX 44 210 rfl (by decide) ?_ ?_
        ·
          exact qb_exit (fun σ h => qj_wk (ρ' := [some (.ref (qx_ad X this)), none, none, some (.int p3), none, none, none, some (.int x6), none, some (.int s10), none]) (qw_s (qw_n (qw_n (qw_s (qw_n (qw_n (qw_n (qw_s (qw_n (qw_s (qw_n (qw_0)))))))))))) h)
        ·
          refine qb_aload_n hX 45 rfl rfl ?_
          refine qb_getR hX 46 rfl fl_Press_41 hthis rfl ?_
          refine qb_aload_n hX 47 rfl rfl ?_
          refine qb_get hX 48 rfl fl_Press_64 hthis rfl (fun x15 => ?_)
          refine qb_aald hX 49 rfl (Or.inl (kf_Press_3 hthis)) (ka_4 (kf_Press_3 hthis)) (fun r16 hr16 => ?_)
          refine qb_astore hX 50 ([some (.ref (qx_ad X this)), some (.int p1), some (.int p2), some (.int p3), some (.int p4), some (.int p5), some (.int x2), some (.int x6), some (.int x8), some (.int s10), some (.ref (qx_ad X r16))]) rfl (by decide) rfl ?_
          refine qb_aload hX 51 rfl rfl ?_
          refine qb_iconst hX 52 0 rfl (by decide) ?_
          refine qb_aload_n hX 53 rfl rfl ?_
          refine qb_get hX 54 rfl fl_Press_67 hthis rfl (fun x17 => ?_)
          refine qb_iast hX 55 rfl hr16 ?_
          refine qb_aload hX 56 rfl rfl ?_
          refine qb_iconst hX 57 1 rfl (by decide) ?_
          refine qb_iload_n hX 58 rfl rfl ?_
          refine qb_iast hX 59 rfl hr16 ?_
          refine qb_aload hX 60 rfl rfl ?_
          refine qb_iconst hX 61 2 rfl (by decide) ?_
          refine qb_iload_n hX 62 rfl rfl ?_
          refine qb_iast hX 63 rfl hr16 ?_
          refine qb_aload hX 64 rfl rfl ?_
          refine qb_iconst hX 65 3 rfl (by decide) ?_
          refine qb_aload_n hX 66 rfl rfl ?_
          refine qb_get hX 67 rfl fl_Press_92 hthis rfl (fun x18 => ?_)
          refine qb_iast hX 68 rfl hr16 ?_
          refine qb_aload hX 69 rfl rfl ?_
          refine qb_iconst hX 70 4 rfl (by decide) ?_
          refine qb_iload_n hX 71 rfl rfl ?_
          refine qb_iast hX 72 rfl hr16 ?_
          refine qb_aload hX 73 rfl rfl ?_
          refine qb_iconst hX 74 5 rfl (by decide) ?_
          refine qb_aload_n hX 75 rfl rfl ?_
          refine qb_getR hX 76 rfl fl_Press_20 hthis rfl ?_
          refine qb_aload_n hX 77 rfl rfl ?_
          refine qb_get hX 78 rfl fl_Press_92 hthis rfl (fun x19 => ?_)
          refine qb_iload_n hX 79 rfl rfl ?_
          refine qb_callI hX 80 rfl cv_Press_152 (jm_Flow_text (qk_GI hX) (qm_rf this 1) x19 p3 (kf_Press_1 hthis) ) (ci := 1) (kf_Press_1 hthis) ⟨rfl, rfl, rfl, by decide, by decide⟩ rfl (by exact Nat.le_of_ble_eq_true rfl) (fun x20 => ?_)
          refine qb_iast hX 81 rfl hr16 ?_
          refine qb_aload hX 82 rfl rfl ?_
          refine qb_bipush hX 83 6 rfl (by decide) ?_
          refine qb_aload_n hX 84 rfl rfl ?_
          refine qb_get hX 85 rfl fl_Press_95 hthis rfl (fun x21 => ?_)
          refine qb_iast hX 86 rfl hr16 ?_
          refine qb_aload hX 87 rfl rfl ?_
          refine qb_bipush hX 88 7 rfl (by decide) ?_
          refine qb_iload hX 89 rfl rfl ?_
          refine qb_iast hX 90 rfl hr16 ?_
          refine qb_aload hX 91 rfl rfl ?_
          refine qb_bipush hX 92 8 rfl (by decide) ?_
          refine qb_iload hX 93 rfl rfl ?_
          refine qb_iast hX 94 rfl hr16 ?_
          refine qb_aload hX 95 rfl rfl ?_
          refine qb_bipush hX 96 9 rfl (by decide) ?_
          refine qb_aload_n hX 97 rfl rfl ?_
          refine qb_getR hX 98 rfl fl_Press_9 hthis rfl ?_
          refine qb_iconst hX 99 1 rfl (by decide) ?_
          refine qb_callI hX 100 rfl cv_Press_70 (jm_Run_setting (qk_GI hX) (qm_rf this 0) 1 (kf_Press_0 hthis) ) (ci := 4) (kf_Press_0 hthis) ⟨rfl, rfl, rfl, by decide, by decide⟩ rfl (by exact Nat.le_of_ble_eq_true rfl) (fun x22 => ?_)
          refine qb_aload_n hX 101 rfl rfl ?_
          refine qb_get hX 102 rfl fl_Press_76 hthis rfl (fun x23 => ?_)
          refine qb_isub hX 103 rfl ?_
          refine qb_iast hX 104 rfl hr16 ?_
          refine qb_aload hX 105 rfl rfl ?_
          refine qb_bipush hX 106 10 rfl (by decide) ?_
          refine qb_iload hX 107 rfl rfl ?_
          refine qb_iast hX 108 rfl hr16 ?_
          refine qb_aload hX 109 rfl rfl ?_
          refine qb_bipush hX 110 11 rfl (by decide) ?_
          refine qb_iload hX 111 rfl rfl ?_
          refine qb_join 209 (fun s24 => [some (.ref (qx_ad X this)), none, none, some (.int p3), none, none, none, some (.int x6), none, some (.int s10), none]) (fun s24 => [.int s24, .int 11, .ref (qx_ad X r16)]) ?_ ?_
          ·
            refine qb_ifeq hX 112 208 rfl (by decide) ?_ ?_
            ·
              refine qb_iconst hX 115 0 rfl (by decide) ?_
              exact qb_exit (fun σ h => qj_wk (ρ' := [some (.ref (qx_ad X this)), none, none, some (.int p3), none, none, none, some (.int x6), none, some (.int s10), none]) (qw_s (qw_n (qw_n (qw_s (qw_n (qw_n (qw_n (qw_s (qw_n (qw_s (qw_n (qw_0)))))))))))) h)
            ·
              refine qb_iconst hX 113 1 rfl (by decide) ?_
              exact qb_exit (fun σ h => qj_goto hX 114 rfl (by decide) (qj_wk (ρ' := [some (.ref (qx_ad X this)), none, none, some (.int p3), none, none, none, some (.int x6), none, some (.int s10), none]) (qw_s (qw_n (qw_n (qw_s (qw_n (qw_n (qw_n (qw_s (qw_n (qw_s (qw_n (qw_0)))))))))))) h))
          · intro s24
            refine qb_iast hX 116 rfl hr16 ?_
            exact qb_exit (fun σ h => qj_wk (ρ' := [some (.ref (qx_ad X this)), none, none, some (.int p3), none, none, none, some (.int x6), none, some (.int s10), none]) (qw_s (qw_n (qw_n (qw_s (qw_n (qw_n (qw_n (qw_s (qw_n (qw_s (qw_n (qw_0)))))))))))) h)
    · intro s13
      refine qb_aload_n hX 117 rfl rfl ?_
      refine qb_dup hX 118 rfl rfl ?_
      refine qb_get hX 119 rfl fl_Press_64 hthis rfl (fun x25 => ?_)
      refine qb_iconst hX 120 1 rfl (by decide) ?_
      refine qb_iadd hX 121 rfl ?_
      refine qb_put hX 122 rfl fp_Press_64 hthis ?_
      refine qb_aload_n hX 123 rfl rfl ?_
      refine qb_iload_n hX 124 rfl rfl ?_
      refine qb_put hX 125 rfl fp_Press_92 hthis ?_
      refine qb_aload_n hX 126 rfl rfl ?_
      refine qb_iload hX 127 rfl rfl ?_
      refine qb_put hX 128 rfl fp_Press_95 hthis ?_
      refine qb_iload hX 129 rfl rfl ?_
      exact qb_zret hX 130 (a := fun x26 => x26) rfl hR (fun _ h => h)
theorem jm_Press_putColumn {l : Launch} {G : qm_G} (hG : qm_GI G) (this : Nat) (p1 : Int32) (p2 : Int32) (p3 : Int32) (p4 : Int32) (p5 : Int32) (hthis : (qm_kd this).1 = 13) : qm_MI l G jy_Press_putColumn prog_5_method_12_code 11 (some .boolean) 2 50 [.ref (G.1 this), .int p1, .int p2, .int p3, .int p4, .int p5] (jf_Press_putColumn this p1 p2 p3 p4 p5) :=
  qm_metI (by decide +kernel) jd_Press_putColumn (fun v hv => by simp only [List.mem_cons, List.not_mem_nil, or_false] at hv; rcases hv with rfl | rfl | rfl | rfl | rfl | rfl <;> rfl) (by exact Nat.le_of_ble_eq_true rfl) hG rfl (fun X hl hg hX r0 σ0 hR => by subst hl; subst hg; exact jb_Press_putColumn hX hR this p1 p2 p3 p4 p5 hthis)
def jl_Press_level : List qm_I := [(0, .aload_n 0, 1, 1), (1, .getfield 9, 3, 4), (4, .iconst 0, 1, 5), (5, .invokevirtual 70, 3, 8), (8, .istore_n 3, 1, 9), (9, .aload_n 0, 1, 10), (10, .getfield 29, 3, 13), (13, .iload_n 1, 1, 14), (14, .iload_n 3, 1, 15), (15, .iload_n 2, 1, 16), (16, .invokevirtual 134, 3, 19), (19, .iconst 0, 1, 20), (20, .istore 4, 2, 22), (22, .iload 4, 2, 24), (24, .iload_n 3, 1, 25), (25, .if_icmp .ge 52, 3, 28), (28, .aload_n 0, 1, 29), (29, .getfield 29, 3, 32), (32, .iload_n 1, 1, 33), (33, .aload_n 0, 1, 34), (34, .getfield 92, 3, 37), (37, .aload_n 0, 1, 38), (38, .getfield 95, 3, 41), (41, .iload_n 2, 1, 42), (42, .iload_n 3, 1, 43), (43, .iconst 1, 1, 44), (44, .isub, 1, 45), (45, .iload 4, 2, 47), (47, .isub, 1, 48), (48, .invokevirtual 138, 3, 51), (51, .istore 5, 2, 53), (53, .iload 5, 2, 55), (55, .iconst (-1), 1, 56), (56, .if_icmp .eq 15, 3, 59), (59, .aload_n 0, 1, 60), (60, .iload_n 1, 1, 61), (61, .iload 4, 2, 63), (63, .iload 5, 2, 65), (65, .iload_n 2, 1, 66), (66, .iconst 1, 1, 67), (67, .invokevirtual 142, 3, 70), (70, .pop, 1, 71), (71, .iinc 4 1, 3, 74), (74, .goto (-52), 3, 77), (77, .return_, 1, 78)]
theorem jd_Press_level : qm_D prog_5_method_10_code jl_Press_level := qm_D_of (by decide +kernel)
noncomputable def jf_Press_level (this : Nat) (p1 : Int32) (p2 : Int32) : qm_M Unit :=
  mB (jf_Run_setting (qm_rf this 0) 0) fun x1 =>
  mB (jf_Fitter_measure (qm_rf this 2) p1 x1 p2) fun _ =>
  mB (α := Unit) (
    mW (S := Int32) (α := Unit) (fun s3 =>
      if x1 ≤ s3 then
        mP (Sum.inr ())
      else
        mB (mGt this 7) fun x4 =>
        mB (mGt this 8) fun x5 =>
        mB (jf_Fitter_latest (qm_rf this 2) p1 x4 x5 p2 ((x1 - 1) - s3)) fun x6 =>
        mB (α := Unit) (
          if x6 = (-1) then
            mP ()
          else
            mB (jf_Press_putColumn this p1 s3 x6 p2 1) fun x8 =>
            mP ()) fun s7 =>
        mB (mP (s3 + 1)) fun x9 =>
        mP (Sum.inl x9)) 0) fun s2 =>
  mP ()
set_option maxRecDepth 20000 in
set_option maxHeartbeats 4000000 in
theorem jb_Press_level {X : qm_X} (hX : qm_ok X qr_Press prog_5_method_10_code 6 3 80 jl_Press_level) {σ0 : qm_Mem} (hR : qm_RV X σ0) (this : Nat) (p1 : Int32) (p2 : Int32) (hthis : (qm_kd this).1 = 13) : qm_B X (jf_Press_level this p1 p2) 0 [some (.ref (qx_ad X this)), some (.int p1), some (.int p2), none, none, none] [] (fun _ σ1 => σ1 = σ0) := by
  unfold jf_Press_level
  refine qb_aload_n hX 0 rfl rfl ?_
  refine qb_getR hX 1 rfl fl_Press_9 hthis rfl ?_
  refine qb_iconst hX 2 0 rfl (by decide) ?_
  refine qb_callI hX 3 rfl cv_Press_70 (jm_Run_setting (qk_GI hX) (qm_rf this 0) 0 (kf_Press_0 hthis) ) (ci := 4) (kf_Press_0 hthis) ⟨rfl, rfl, rfl, by decide, by decide⟩ rfl (by exact Nat.le_of_ble_eq_true rfl) (fun x1 => ?_)
  refine qb_istore_n hX 4 ([some (.ref (qx_ad X this)), some (.int p1), some (.int p2), some (.int x1), none, none]) rfl (by decide) rfl ?_
  refine qb_aload_n hX 5 rfl rfl ?_
  refine qb_getR hX 6 rfl fl_Press_29 hthis rfl ?_
  refine qb_iload_n hX 7 rfl rfl ?_
  refine qb_iload_n hX 8 rfl rfl ?_
  refine qb_iload_n hX 9 rfl rfl ?_
  refine qb_callV hX 10 rfl cv_Press_134 (jm_Fitter_measure (qk_GI hX) (qm_rf this 2) p1 x1 p2 (kf_Press_2 hthis) ) (ci := 0) (kf_Press_2 hthis) ⟨rfl, rfl, rfl, by decide, by decide⟩ rfl (by exact Nat.le_of_ble_eq_true rfl) ?_
  refine qb_iconst hX 11 0 rfl (by decide) ?_
  refine qb_istore hX 12 ([some (.ref (qx_ad X this)), some (.int p1), some (.int p2), some (.int x1), some (.int 0), none]) rfl (by decide) rfl ?_
  refine qb_join 77 (fun s2 => [none, none, none, none, none, none]) (fun s2 => []) ?_ ?_
  ·
    refine qb_loopw (0) (fun s3 => [some (.ref (qx_ad X this)), some (.int p1), some (.int p2), some (.int x1), some (.int s3), none]) (qw_s (qw_s (qw_s (qw_s (qw_s (qw_n (qw_0))))))) (fun s3 => ?_)
    refine qb_iload hX 13 rfl rfl ?_
    refine qb_iload_n hX 14 rfl rfl ?_
    refine qb_icge hX 15 77 rfl (by decide) ?_ ?_
    ·
      exact qb_exit (fun σ h => qj_wk (ρ' := [none, none, none, none, none, none]) (qw_n (qw_n (qw_n (qw_n (qw_n (qw_n (qw_0))))))) h)
    ·
      refine qb_aload_n hX 16 rfl rfl ?_
      refine qb_getR hX 17 rfl fl_Press_29 hthis rfl ?_
      refine qb_iload_n hX 18 rfl rfl ?_
      refine qb_aload_n hX 19 rfl rfl ?_
      refine qb_get hX 20 rfl fl_Press_92 hthis rfl (fun x4 => ?_)
      refine qb_aload_n hX 21 rfl rfl ?_
      refine qb_get hX 22 rfl fl_Press_95 hthis rfl (fun x5 => ?_)
      refine qb_iload_n hX 23 rfl rfl ?_
      refine qb_iload_n hX 24 rfl rfl ?_
      refine qb_iconst hX 25 1 rfl (by decide) ?_
      refine qb_isub hX 26 rfl ?_
      refine qb_iload hX 27 rfl rfl ?_
      refine qb_isub hX 28 rfl ?_
      refine qb_callI hX 29 rfl cv_Press_138 (jm_Fitter_latest (qk_GI hX) (qm_rf this 2) p1 x4 x5 p2 ((x1 - 1) - s3) (kf_Press_2 hthis) ) (ci := 0) (kf_Press_2 hthis) ⟨rfl, rfl, rfl, by decide, by decide⟩ rfl (by exact Nat.le_of_ble_eq_true rfl) (fun x6 => ?_)
      refine qb_istore hX 30 ([some (.ref (qx_ad X this)), some (.int p1), some (.int p2), some (.int x1), some (.int s3), some (.int x6)]) rfl (by decide) rfl ?_
      refine qb_iload hX 31 rfl rfl ?_
      refine qb_iconst hX 32 (-1) rfl (by decide) ?_
      refine qb_join 71 (fun s7 => [some (.ref (qx_ad X this)), some (.int p1), some (.int p2), some (.int x1), some (.int s3), none]) (fun s7 => []) ?_ ?_
      ·
        refine qb_iceq hX 33 71 rfl (by decide) ?_ ?_
        ·
          exact qb_exit (fun σ h => qj_wk (ρ' := [some (.ref (qx_ad X this)), some (.int p1), some (.int p2), some (.int x1), some (.int s3), none]) (qw_s (qw_s (qw_s (qw_s (qw_s (qw_n (qw_0))))))) h)
        ·
          refine qb_aload_n hX 34 rfl rfl ?_
          refine qb_iload_n hX 35 rfl rfl ?_
          refine qb_iload hX 36 rfl rfl ?_
          refine qb_iload hX 37 rfl rfl ?_
          refine qb_iload_n hX 38 rfl rfl ?_
          refine qb_iconst hX 39 1 rfl (by decide) ?_
          refine qb_callI hX 40 rfl cv_Press_142 (jm_Press_putColumn (qk_GI hX) this p1 s3 x6 p2 1 hthis ) (ci := 3) hthis ⟨rfl, rfl, rfl, by decide, by decide⟩ rfl (by exact Nat.le_of_ble_eq_true rfl) (fun x8 => ?_)
          refine qb_pop hX 41 rfl rfl ?_
          exact qb_exit (fun σ h => qj_wk (ρ' := [some (.ref (qx_ad X this)), some (.int p1), some (.int p2), some (.int x1), some (.int s3), none]) (qw_s (qw_s (qw_s (qw_s (qw_s (qw_n (qw_0))))))) h)
      · intro s7
        refine qb_iinc hX 42 1 (fun x9 => [some (.ref (qx_ad X this)), some (.int p1), some (.int p2), some (.int x1), some (.int x9), none]) rfl (by decide) (by decide) rfl (fun _ => rfl) (fun x9 => ?_)
        exact qb_exit (fun σ h => qj_goto hX 43 rfl (by decide) (qj_wk (ρ' := [some (.ref (qx_ad X this)), some (.int p1), some (.int p2), some (.int x1), some (.int x9), none]) (qw_s (qw_s (qw_s (qw_s (qw_s (qw_n (qw_0))))))) h))
  · intro s2
    exact qb_vret hX 44 rfl hR (fun _ h => h)
theorem jm_Press_level {l : Launch} {G : qm_G} (hG : qm_GI G) (this : Nat) (p1 : Int32) (p2 : Int32) (hthis : (qm_kd this).1 = 13) : qm_MV l G jy_Press_level prog_5_method_10_code 6 3 80 [.ref (G.1 this), .int p1, .int p2] (jf_Press_level this p1 p2) :=
  qm_metV (by decide +kernel) jd_Press_level (fun v hv => by simp only [List.mem_cons, List.not_mem_nil, or_false] at hv; rcases hv with rfl | rfl | rfl <;> rfl) (by exact Nat.le_of_ble_eq_true rfl) hG (fun X hl hg hX σ0 hR => by subst hl; subst hg; exact jb_Press_level hX hR this p1 p2 hthis)
def jl_Press_fill : List qm_I := [(0, .aload_n 0, 1, 1), (1, .getfield 64, 3, 4), (4, .istore_n 2, 1, 5), (5, .aload_n 0, 1, 6), (6, .getfield 92, 3, 9), (9, .istore_n 3, 1, 10), (10, .aload_n 0, 1, 11), (11, .getfield 95, 3, 14), (14, .istore 4, 2, 16), (16, .iconst 0, 1, 17), (17, .istore 5, 2, 19), (19, .aload_n 0, 1, 20), (20, .getfield 9, 3, 23), (23, .iconst 0, 1, 24), (24, .invokevirtual 70, 3, 27), (27, .istore 6, 2, 29), (29, .iconst 0, 1, 30), (30, .istore 7, 2, 32), (32, .iload 7, 2, 34), (34, .iload 6, 2, 36), (36, .if_icmp .ge 73, 3, 39), (39, .aload_n 0, 1, 40), (40, .getfield 29, 3, 43), (43, .iload_n 1, 1, 44), (44, .aload_n 0, 1, 45), (45, .getfield 92, 3, 48), (48, .aload_n 0, 1, 49), (49, .getfield 95, 3, 52), (52, .aload_n 0, 1, 53), (53, .getfield 76, 3, 56), (56, .iconst (-1), 1, 57), (57, .invokevirtual 138, 3, 60), (60, .istore 8, 2, 62), (62, .iload 8, 2, 64), (64, .iconst (-1), 1, 65), (65, .if_icmp .ne 9, 3, 68), (68, .iconst 0, 1, 69), (69, .istore 5, 2, 71), (71, .goto 38, 3, 74), (74, .aload_n 0, 1, 75), (75, .iload_n 1, 1, 76), (76, .iload 7, 2, 78), (78, .iload 8, 2, 80), (80, .aload_n 0, 1, 81), (81, .getfield 76, 3, 84), (84, .iconst 0, 1, 85), (85, .invokevirtual 142, 3, 88), (88, .ifCond .ne 8, 3, 91), (91, .iload 5, 2, 93), (93, .ifCond .eq 7, 3, 96), (96, .iconst 1, 1, 97), (97, .goto 4, 3, 100), (100, .iconst 0, 1, 101), (101, .istore 5, 2, 103), (103, .iinc 7 1, 3, 106), (106, .goto (-74), 3, 109), (109, .iload 5, 2, 111), (111, .ifCond .ne 19, 3, 114), (114, .aload_n 0, 1, 115), (115, .iload_n 2, 1, 116), (116, .putfield 64, 3, 119), (119, .aload_n 0, 1, 120), (120, .iload_n 3, 1, 121), (121, .putfield 92, 3, 124), (124, .aload_n 0, 1, 125), (125, .iload 4, 2, 127), (127, .putfield 95, 3, 130), (130, .iload 5, 2, 132), (132, .ireturn, 1, 133)]
theorem jd_Press_fill : qm_D prog_5_method_11_code jl_Press_fill := qm_D_of (by decide +kernel)
noncomputable def jf_Press_fill (this : Nat) (p1 : Int32) : qm_M Int32 :=
  mB (mGt this 4) fun x1 =>
  mB (mGt this 7) fun x2 =>
  mB (mGt this 8) fun x3 =>
  mB (jf_Run_setting (qm_rf this 0) 0) fun x4 =>
  mB (α := Int32) (
    mB (α := (Unit ⊕ Int32)) (
      mW (S := Int32 × Int32) (α := (Unit ⊕ Int32)) (fun s7 =>
        if x4 ≤ s7.2 then
          mP (Sum.inr (Sum.inr s7.1))
        else
          mB (mGt this 7) fun x8 =>
          mB (mGt this 8) fun x9 =>
          mB (mGt this 6) fun x10 =>
          mB (jf_Fitter_latest (qm_rf this 2) p1 x8 x9 x10 (-1)) fun x11 =>
          if ¬ x11 = (-1) then
            mB (mGt this 6) fun x12 =>
            mB (jf_Press_putColumn this p1 s7.2 x11 x12 0) fun x13 =>
            mB (α := Int32) (
              mB (α := (Unit ⊕ Int32)) (
                if ¬ x13 = 0 then
                  mP (Sum.inl ())
                else
                  if s7.1 = 0 then
                    mP (Sum.inr 0)
                  else
                    mP (Sum.inl ())) (Sum.elim (fun s15 =>
                mP 1) mP)) fun s14 =>
            mB (mP (s7.2 + 1)) fun x16 =>
            mP (Sum.inl (s14, x16))
          else
            mP (Sum.inr (Sum.inl ()))) (0, 0)) (Sum.elim (fun s6 =>
      mP 0) mP)) fun s5 =>
  if ¬ s5 = 0 then
    mB (mZ s5) fun x17 => mP x17
  else
    mB (mPt this 4 x1) fun _ =>
    mB (mPt this 7 x2) fun _ =>
    mB (mPt this 8 x3) fun _ =>
    mB (mZ s5) fun x18 => mP x18
set_option maxRecDepth 20000 in
set_option maxHeartbeats 4000000 in
theorem jb_Press_fill {X : qm_X} (hX : qm_ok X qr_Press prog_5_method_11_code 9 3 80 jl_Press_fill) {r0 : Int32} {σ0 : qm_Mem} (hR : qm_RI X r0 σ0 .boolean) (this : Nat) (p1 : Int32) (hthis : (qm_kd this).1 = 13) : qm_B X (jf_Press_fill this p1) 0 [some (.ref (qx_ad X this)), some (.int p1), none, none, none, none, none, none, none] [] (fun r σ1 => r = r0 ∧ σ1 = σ0) := by
  unfold jf_Press_fill
  refine qb_aload_n hX 0 rfl rfl ?_
  refine qb_get hX 1 rfl fl_Press_64 hthis rfl (fun x1 => ?_)
  refine qb_istore_n hX 2 ([some (.ref (qx_ad X this)), some (.int p1), some (.int x1), none, none, none, none, none, none]) rfl (by decide) rfl ?_
  refine qb_aload_n hX 3 rfl rfl ?_
  refine qb_get hX 4 rfl fl_Press_92 hthis rfl (fun x2 => ?_)
  refine qb_istore_n hX 5 ([some (.ref (qx_ad X this)), some (.int p1), some (.int x1), some (.int x2), none, none, none, none, none]) rfl (by decide) rfl ?_
  refine qb_aload_n hX 6 rfl rfl ?_
  refine qb_get hX 7 rfl fl_Press_95 hthis rfl (fun x3 => ?_)
  refine qb_istore hX 8 ([some (.ref (qx_ad X this)), some (.int p1), some (.int x1), some (.int x2), some (.int x3), none, none, none, none]) rfl (by decide) rfl ?_
  refine qb_iconst hX 9 0 rfl (by decide) ?_
  refine qb_istore hX 10 ([some (.ref (qx_ad X this)), some (.int p1), some (.int x1), some (.int x2), some (.int x3), some (.int 0), none, none, none]) rfl (by decide) rfl ?_
  refine qb_aload_n hX 11 rfl rfl ?_
  refine qb_getR hX 12 rfl fl_Press_9 hthis rfl ?_
  refine qb_iconst hX 13 0 rfl (by decide) ?_
  refine qb_callI hX 14 rfl cv_Press_70 (jm_Run_setting (qk_GI hX) (qm_rf this 0) 0 (kf_Press_0 hthis) ) (ci := 4) (kf_Press_0 hthis) ⟨rfl, rfl, rfl, by decide, by decide⟩ rfl (by exact Nat.le_of_ble_eq_true rfl) (fun x4 => ?_)
  refine qb_istore hX 15 ([some (.ref (qx_ad X this)), some (.int p1), some (.int x1), some (.int x2), some (.int x3), some (.int 0), some (.int x4), none, none]) rfl (by decide) rfl ?_
  refine qb_iconst hX 16 0 rfl (by decide) ?_
  refine qb_istore hX 17 ([some (.ref (qx_ad X this)), some (.int p1), some (.int x1), some (.int x2), some (.int x3), some (.int 0), some (.int x4), some (.int 0), none]) rfl (by decide) rfl ?_
  refine qb_join 109 (fun s5 => [some (.ref (qx_ad X this)), none, some (.int x1), some (.int x2), some (.int x3), some (.int s5), none, none, none]) (fun s5 => []) ?_ ?_
  ·
    refine qb_join2 68 (fun s6 => [some (.ref (qx_ad X this)), none, some (.int x1), some (.int x2), some (.int x3), none, none, none, none]) (fun s6 => []) ?_ ?_
    ·
      refine qb_loopw ((0, 0)) (fun s7 => [some (.ref (qx_ad X this)), some (.int p1), some (.int x1), some (.int x2), some (.int x3), some (.int s7.1), some (.int x4), some (.int s7.2), none]) (qw_s (qw_s (qw_s (qw_s (qw_s (qw_s (qw_s (qw_s (qw_n (qw_0)))))))))) (fun s7 => ?_)
      refine qb_iload hX 18 rfl rfl ?_
      refine qb_iload hX 19 rfl rfl ?_
      refine qb_icge hX 20 109 rfl (by decide) ?_ ?_
      ·
        exact qb_exit (fun σ h => qj_wk (ρ' := [some (.ref (qx_ad X this)), none, some (.int x1), some (.int x2), some (.int x3), some (.int s7.1), none, none, none]) (qw_s (qw_n (qw_s (qw_s (qw_s (qw_s (qw_n (qw_n (qw_n (qw_0)))))))))) h)
      ·
        refine qb_aload_n hX 21 rfl rfl ?_
        refine qb_getR hX 22 rfl fl_Press_29 hthis rfl ?_
        refine qb_iload_n hX 23 rfl rfl ?_
        refine qb_aload_n hX 24 rfl rfl ?_
        refine qb_get hX 25 rfl fl_Press_92 hthis rfl (fun x8 => ?_)
        refine qb_aload_n hX 26 rfl rfl ?_
        refine qb_get hX 27 rfl fl_Press_95 hthis rfl (fun x9 => ?_)
        refine qb_aload_n hX 28 rfl rfl ?_
        refine qb_get hX 29 rfl fl_Press_76 hthis rfl (fun x10 => ?_)
        refine qb_iconst hX 30 (-1) rfl (by decide) ?_
        refine qb_callI hX 31 rfl cv_Press_138 (jm_Fitter_latest (qk_GI hX) (qm_rf this 2) p1 x8 x9 x10 (-1) (kf_Press_2 hthis) ) (ci := 0) (kf_Press_2 hthis) ⟨rfl, rfl, rfl, by decide, by decide⟩ rfl (by exact Nat.le_of_ble_eq_true rfl) (fun x11 => ?_)
        refine qb_istore hX 32 ([some (.ref (qx_ad X this)), some (.int p1), some (.int x1), some (.int x2), some (.int x3), some (.int s7.1), some (.int x4), some (.int s7.2), some (.int x11)]) rfl (by decide) rfl ?_
        refine qb_iload hX 33 rfl rfl ?_
        refine qb_iconst hX 34 (-1) rfl (by decide) ?_
        refine qb_icne hX 35 74 rfl (by decide) ?_ ?_
        ·
          refine qb_aload_n hX 39 rfl rfl ?_
          refine qb_iload_n hX 40 rfl rfl ?_
          refine qb_iload hX 41 rfl rfl ?_
          refine qb_iload hX 42 rfl rfl ?_
          refine qb_aload_n hX 43 rfl rfl ?_
          refine qb_get hX 44 rfl fl_Press_76 hthis rfl (fun x12 => ?_)
          refine qb_iconst hX 45 0 rfl (by decide) ?_
          refine qb_callI hX 46 rfl cv_Press_142 (jm_Press_putColumn (qk_GI hX) this p1 s7.2 x11 x12 0 hthis ) (ci := 3) hthis ⟨rfl, rfl, rfl, by decide, by decide⟩ rfl (by exact Nat.le_of_ble_eq_true rfl) (fun x13 => ?_)
          refine qb_join 101 (fun s14 => [some (.ref (qx_ad X this)), some (.int p1), some (.int x1), some (.int x2), some (.int x3), none, some (.int x4), some (.int s7.2), none]) (fun s14 => [.int s14]) ?_ ?_
          ·
            refine qb_join2 96 (fun s15 => [some (.ref (qx_ad X this)), some (.int p1), some (.int x1), some (.int x2), some (.int x3), none, some (.int x4), some (.int s7.2), none]) (fun s15 => []) ?_ ?_
            ·
              refine qb_ifne hX 47 96 rfl (by decide) ?_ ?_
              ·
                exact qb_exit (fun σ h => qj_wk (ρ' := [some (.ref (qx_ad X this)), some (.int p1), some (.int x1), some (.int x2), some (.int x3), none, some (.int x4), some (.int s7.2), none]) (qw_s (qw_s (qw_s (qw_s (qw_s (qw_n (qw_s (qw_s (qw_n (qw_0)))))))))) h)
              ·
                refine qb_iload hX 48 rfl rfl ?_
                refine qb_ifeq hX 49 100 rfl (by decide) ?_ ?_
                ·
                  refine qb_iconst hX 52 0 rfl (by decide) ?_
                  exact qb_exit (fun σ h => qj_wk (ρ' := [some (.ref (qx_ad X this)), some (.int p1), some (.int x1), some (.int x2), some (.int x3), none, some (.int x4), some (.int s7.2), none]) (qw_s (qw_s (qw_s (qw_s (qw_s (qw_n (qw_s (qw_s (qw_n (qw_0)))))))))) h)
                ·
                  exact qb_exit (fun σ h => qj_wk (ρ' := [some (.ref (qx_ad X this)), some (.int p1), some (.int x1), some (.int x2), some (.int x3), none, some (.int x4), some (.int s7.2), none]) (qw_s (qw_s (qw_s (qw_s (qw_s (qw_n (qw_s (qw_s (qw_n (qw_0)))))))))) h)
            · intro s15
              refine qb_iconst hX 50 1 rfl (by decide) ?_
              exact qb_exit (fun σ h => qj_goto hX 51 rfl (by decide) (qj_wk (ρ' := [some (.ref (qx_ad X this)), some (.int p1), some (.int x1), some (.int x2), some (.int x3), none, some (.int x4), some (.int s7.2), none]) (qw_s (qw_s (qw_s (qw_s (qw_s (qw_n (qw_s (qw_s (qw_n (qw_0)))))))))) h))
          · intro s14
            refine qb_istore hX 53 ([some (.ref (qx_ad X this)), some (.int p1), some (.int x1), some (.int x2), some (.int x3), some (.int s14), some (.int x4), some (.int s7.2), none]) rfl (by decide) rfl ?_
            refine qb_iinc hX 54 1 (fun x16 => [some (.ref (qx_ad X this)), some (.int p1), some (.int x1), some (.int x2), some (.int x3), some (.int s14), some (.int x4), some (.int x16), none]) rfl (by decide) (by decide) rfl (fun _ => rfl) (fun x16 => ?_)
            exact qb_exit (fun σ h => qj_goto hX 55 rfl (by decide) (qj_wk (ρ' := [some (.ref (qx_ad X this)), some (.int p1), some (.int x1), some (.int x2), some (.int x3), some (.int s14), some (.int x4), some (.int x16), none]) (qw_s (qw_s (qw_s (qw_s (qw_s (qw_s (qw_s (qw_s (qw_n (qw_0)))))))))) h))
        ·
          exact qb_exit (fun σ h => qj_wk (ρ' := [some (.ref (qx_ad X this)), none, some (.int x1), some (.int x2), some (.int x3), none, none, none, none]) (qw_s (qw_n (qw_s (qw_s (qw_s (qw_n (qw_n (qw_n (qw_n (qw_0)))))))))) h)
    · intro s6
      refine qb_iconst hX 36 0 rfl (by decide) ?_
      refine qb_istore hX 37 ([some (.ref (qx_ad X this)), none, some (.int x1), some (.int x2), some (.int x3), some (.int 0), none, none, none]) rfl (by decide) rfl ?_
      exact qb_exit (fun σ h => qj_goto hX 38 rfl (by decide) (qj_wk (ρ' := [some (.ref (qx_ad X this)), none, some (.int x1), some (.int x2), some (.int x3), some (.int 0), none, none, none]) (qw_s (qw_n (qw_s (qw_s (qw_s (qw_s (qw_n (qw_n (qw_n (qw_0)))))))))) h))
  · intro s5
    refine qb_iload hX 56 rfl rfl ?_
    refine qb_ifne hX 57 130 rfl (by decide) ?_ ?_
    ·
      refine qb_iload hX 67 rfl rfl ?_
      exact qb_zret hX 68 (a := fun x17 => x17) rfl hR (fun _ h => h)
    ·
      refine qb_aload_n hX 58 rfl rfl ?_
      refine qb_iload_n hX 59 rfl rfl ?_
      refine qb_put hX 60 rfl fp_Press_64 hthis ?_
      refine qb_aload_n hX 61 rfl rfl ?_
      refine qb_iload_n hX 62 rfl rfl ?_
      refine qb_put hX 63 rfl fp_Press_92 hthis ?_
      refine qb_aload_n hX 64 rfl rfl ?_
      refine qb_iload hX 65 rfl rfl ?_
      refine qb_put hX 66 rfl fp_Press_95 hthis ?_
      refine qb_iload hX 67 rfl rfl ?_
      exact qb_zret hX 68 (a := fun x18 => x18) rfl hR (fun _ h => h)
theorem jm_Press_fill {l : Launch} {G : qm_G} (hG : qm_GI G) (this : Nat) (p1 : Int32) (hthis : (qm_kd this).1 = 13) : qm_MI l G jy_Press_fill prog_5_method_11_code 9 (some .boolean) 3 80 [.ref (G.1 this), .int p1] (jf_Press_fill this p1) :=
  qm_metI (by decide +kernel) jd_Press_fill (fun v hv => by simp only [List.mem_cons, List.not_mem_nil, or_false] at hv; rcases hv with rfl | rfl <;> rfl) (by exact Nat.le_of_ble_eq_true rfl) hG rfl (fun X hl hg hX r0 σ0 hR => by subst hl; subst hg; exact jb_Press_fill hX hR this p1 hthis)
def jl_Press_pourSection : List qm_I := [(0, .iconst 0, 1, 1), (1, .istore_n 2, 1, 2), (2, .iconst 0, 1, 3), (3, .istore_n 3, 1, 4), (4, .iload_n 3, 1, 5), (5, .bipush 40, 2, 7), (7, .if_icmp .gt 103, 3, 10), (10, .iload_n 2, 1, 11), (11, .ifCond .ne 99, 3, 14), (14, .aload_n 0, 1, 15), (15, .getfield 51, 3, 18), (18, .iconst (-1), 1, 19), (19, .if_icmp .ne 91, 3, 22), (22, .aload_n 0, 1, 23), (23, .getfield 29, 3, 26), (26, .iload_n 1, 1, 27), (27, .aload_n 0, 1, 28), (28, .getfield 92, 3, 31), (31, .aload_n 0, 1, 32), (32, .getfield 95, 3, 35), (35, .aload_n 0, 1, 36), (36, .getfield 76, 3, 39), (39, .invokevirtual 122, 3, 42), (42, .istore 4, 2, 44), (44, .iload 4, 2, 46), (46, .bipush (-2), 2, 48), (48, .if_icmp .eq 26, 3, 51), (51, .aload_n 0, 1, 52), (52, .iload_n 1, 1, 53), (53, .iload 4, 2, 55), (55, .invokevirtual 126, 3, 58), (58, .aload_n 0, 1, 59), (59, .dup, 1, 60), (60, .getfield 76, 3, 63), (63, .iload 4, 2, 65), (65, .isub, 1, 66), (66, .putfield 76, 3, 69), (69, .iconst 1, 1, 70), (70, .istore_n 2, 1, 71), (71, .goto 33, 3, 74), (74, .aload_n 0, 1, 75), (75, .iload_n 1, 1, 76), (76, .invokevirtual 130, 3, 79), (79, .ifCond .ne 21, 3, 82), (82, .aload_n 0, 1, 83), (83, .invokevirtual 115, 3, 86), (86, .ifCond .eq 14, 3, 89), (89, .aload_n 0, 1, 90), (90, .aload_n 0, 1, 91), (91, .getfield 92, 3, 94), (94, .putfield 51, 3, 97), (97, .goto 7, 3, 100), (100, .aload_n 0, 1, 101), (101, .invokevirtual 119, 3, 104), (104, .iinc 3 1, 3, 107), (107, .goto (-103), 3, 110), (110, .return_, 1, 111)]
theorem jd_Press_pourSection : qm_D prog_5_method_9_code jl_Press_pourSection := qm_D_of (by decide +kernel)
noncomputable def jf_Press_pourSection (this : Nat) (p1 : Int32) : qm_M Unit :=
  mB (α := Unit) (
    mW (S := Int32 × Int32) (α := Unit) (fun s2 =>
      if 40 < s2.2 then
        mP (Sum.inr ())
      else
        if ¬ s2.1 = 0 then
          mP (Sum.inr ())
        else
          mB (mGt this 9) fun x3 =>
          if ¬ x3 = (-1) then
            mP (Sum.inr ())
          else
            mB (mGt this 7) fun x4 =>
            mB (mGt this 8) fun x5 =>
            mB (mGt this 6) fun x6 =>
            mB (jf_Fitter_leastFrom (qm_rf this 2) p1 x4 x5 x6) fun x7 =>
            mB (α := Int32) (
              if x7 = (-2) then
                mB (jf_Press_fill this p1) fun x9 =>
                mB (α := (Unit ⊕ Int32)) (
                  if ¬ x9 = 0 then
                    mP (Sum.inl ())
                  else
                    mB (jf_Press_pageIsFree this) fun x11 =>
                    if x11 = 0 then
                      mP (Sum.inl ())
                    else
                      mB (mGt this 7) fun x12 =>
                      mB (mPt this 9 x12) fun _ =>
                      mP (Sum.inr s2.1)) (Sum.elim (fun s10 =>
                  mB (jf_Press_turnPage this) fun _ =>
                  mP s2.1) mP)
              else
                mB (jf_Press_level this p1 x7) fun _ =>
                mB (mGt this 6) fun x13 =>
                mB (mPt this 6 (x13 - x7)) fun _ =>
                mP 1) fun s8 =>
            mB (mP (s2.2 + 1)) fun x14 =>
            mP (Sum.inl (s8, x14))) (0, 0)) fun s1 =>
  mP ()
set_option maxRecDepth 20000 in
set_option maxHeartbeats 4000000 in
theorem jb_Press_pourSection {X : qm_X} (hX : qm_ok X qr_Press prog_5_method_9_code 5 4 109 jl_Press_pourSection) {σ0 : qm_Mem} (hR : qm_RV X σ0) (this : Nat) (p1 : Int32) (hthis : (qm_kd this).1 = 13) : qm_B X (jf_Press_pourSection this p1) 0 [some (.ref (qx_ad X this)), some (.int p1), none, none, none] [] (fun _ σ1 => σ1 = σ0) := by
  unfold jf_Press_pourSection
  refine qb_iconst hX 0 0 rfl (by decide) ?_
  refine qb_istore_n hX 1 ([some (.ref (qx_ad X this)), some (.int p1), some (.int 0), none, none]) rfl (by decide) rfl ?_
  refine qb_iconst hX 2 0 rfl (by decide) ?_
  refine qb_istore_n hX 3 ([some (.ref (qx_ad X this)), some (.int p1), some (.int 0), some (.int 0), none]) rfl (by decide) rfl ?_
  refine qb_join 110 (fun s1 => [none, none, none, none, none]) (fun s1 => []) ?_ ?_
  ·
    refine qb_loopw ((0, 0)) (fun s2 => [some (.ref (qx_ad X this)), some (.int p1), some (.int s2.1), some (.int s2.2), none]) (qw_s (qw_s (qw_s (qw_s (qw_n (qw_0)))))) (fun s2 => ?_)
    refine qb_iload_n hX 4 rfl rfl ?_
    refine qb_bipush hX 5 40 rfl (by decide) ?_
    refine qb_icgt hX 6 110 rfl (by decide) ?_ ?_
    ·
      exact qb_exit (fun σ h => qj_wk (ρ' := [none, none, none, none, none]) (qw_n (qw_n (qw_n (qw_n (qw_n (qw_0)))))) h)
    ·
      refine qb_iload_n hX 7 rfl rfl ?_
      refine qb_ifne hX 8 110 rfl (by decide) ?_ ?_
      ·
        exact qb_exit (fun σ h => qj_wk (ρ' := [none, none, none, none, none]) (qw_n (qw_n (qw_n (qw_n (qw_n (qw_0)))))) h)
      ·
        refine qb_aload_n hX 9 rfl rfl ?_
        refine qb_get hX 10 rfl fl_Press_51 hthis rfl (fun x3 => ?_)
        refine qb_iconst hX 11 (-1) rfl (by decide) ?_
        refine qb_icne hX 12 110 rfl (by decide) ?_ ?_
        ·
          exact qb_exit (fun σ h => qj_wk (ρ' := [none, none, none, none, none]) (qw_n (qw_n (qw_n (qw_n (qw_n (qw_0)))))) h)
        ·
          refine qb_aload_n hX 13 rfl rfl ?_
          refine qb_getR hX 14 rfl fl_Press_29 hthis rfl ?_
          refine qb_iload_n hX 15 rfl rfl ?_
          refine qb_aload_n hX 16 rfl rfl ?_
          refine qb_get hX 17 rfl fl_Press_92 hthis rfl (fun x4 => ?_)
          refine qb_aload_n hX 18 rfl rfl ?_
          refine qb_get hX 19 rfl fl_Press_95 hthis rfl (fun x5 => ?_)
          refine qb_aload_n hX 20 rfl rfl ?_
          refine qb_get hX 21 rfl fl_Press_76 hthis rfl (fun x6 => ?_)
          refine qb_callI hX 22 rfl cv_Press_122 (jm_Fitter_leastFrom (qk_GI hX) (qm_rf this 2) p1 x4 x5 x6 (kf_Press_2 hthis) ) (ci := 0) (kf_Press_2 hthis) ⟨rfl, rfl, rfl, by decide, by decide⟩ rfl (by exact Nat.le_of_ble_eq_true rfl) (fun x7 => ?_)
          refine qb_istore hX 23 ([some (.ref (qx_ad X this)), some (.int p1), some (.int s2.1), some (.int s2.2), some (.int x7)]) rfl (by decide) rfl ?_
          refine qb_iload hX 24 rfl rfl ?_
          refine qb_bipush hX 25 (-2) rfl (by decide) ?_
          refine qb_join 104 (fun s8 => [some (.ref (qx_ad X this)), some (.int p1), some (.int s8), some (.int s2.2), none]) (fun s8 => []) ?_ ?_
          ·
            refine qb_iceq hX 26 74 rfl (by decide) ?_ ?_
            ·
              refine qb_aload_n hX 40 rfl rfl ?_
              refine qb_iload_n hX 41 rfl rfl ?_
              refine qb_callI hX 42 rfl cv_Press_130 (jm_Press_fill (qk_GI hX) this p1 hthis ) (ci := 3) hthis ⟨rfl, rfl, rfl, by decide, by decide⟩ rfl (by exact Nat.le_of_ble_eq_true rfl) (fun x9 => ?_)
              refine qb_join2 100 (fun s10 => [some (.ref (qx_ad X this)), some (.int p1), some (.int s2.1), some (.int s2.2), none]) (fun s10 => []) ?_ ?_
              ·
                refine qb_ifne hX 43 100 rfl (by decide) ?_ ?_
                ·
                  exact qb_exit (fun σ h => qj_wk (ρ' := [some (.ref (qx_ad X this)), some (.int p1), some (.int s2.1), some (.int s2.2), none]) (qw_s (qw_s (qw_s (qw_s (qw_n (qw_0)))))) h)
                ·
                  refine qb_aload_n hX 44 rfl rfl ?_
                  refine qb_callI hX 45 rfl cv_Press_115 (jm_Press_pageIsFree (qk_GI hX) this  hthis ) (ci := 3) hthis ⟨rfl, rfl, rfl, by decide, by decide⟩ rfl (by exact Nat.le_of_ble_eq_true rfl) (fun x11 => ?_)
                  refine qb_ifeq hX 46 100 rfl (by decide) ?_ ?_
                  ·
                    exact qb_exit (fun σ h => qj_wk (ρ' := [some (.ref (qx_ad X this)), some (.int p1), some (.int s2.1), some (.int s2.2), none]) (qw_s (qw_s (qw_s (qw_s (qw_n (qw_0)))))) h)
                  ·
                    refine qb_aload_n hX 47 rfl rfl ?_
                    refine qb_aload_n hX 48 rfl rfl ?_
                    refine qb_get hX 49 rfl fl_Press_92 hthis rfl (fun x12 => ?_)
                    refine qb_put hX 50 rfl fp_Press_51 hthis ?_
                    exact qb_exit (fun σ h => qj_goto hX 51 rfl (by decide) (qj_wk (ρ' := [some (.ref (qx_ad X this)), some (.int p1), some (.int s2.1), some (.int s2.2), none]) (qw_s (qw_s (qw_s (qw_s (qw_n (qw_0)))))) h))
              · intro s10
                refine qb_aload_n hX 52 rfl rfl ?_
                refine qb_callV hX 53 rfl cv_Press_119 (jm_Press_turnPage (qk_GI hX) this  hthis ) (ci := 3) hthis ⟨rfl, rfl, rfl, by decide, by decide⟩ rfl (by exact Nat.le_of_ble_eq_true rfl) ?_
                exact qb_exit (fun σ h => qj_wk (ρ' := [some (.ref (qx_ad X this)), some (.int p1), some (.int s2.1), some (.int s2.2), none]) (qw_s (qw_s (qw_s (qw_s (qw_n (qw_0)))))) h)
            ·
              refine qb_aload_n hX 27 rfl rfl ?_
              refine qb_iload_n hX 28 rfl rfl ?_
              refine qb_iload hX 29 rfl rfl ?_
              refine qb_callV hX 30 rfl cv_Press_126 (jm_Press_level (qk_GI hX) this p1 x7 hthis ) (ci := 3) hthis ⟨rfl, rfl, rfl, by decide, by decide⟩ rfl (by exact Nat.le_of_ble_eq_true rfl) ?_
              refine qb_aload_n hX 31 rfl rfl ?_
              refine qb_dup hX 32 rfl rfl ?_
              refine qb_get hX 33 rfl fl_Press_76 hthis rfl (fun x13 => ?_)
              refine qb_iload hX 34 rfl rfl ?_
              refine qb_isub hX 35 rfl ?_
              refine qb_put hX 36 rfl fp_Press_76 hthis ?_
              refine qb_iconst hX 37 1 rfl (by decide) ?_
              refine qb_istore_n hX 38 ([some (.ref (qx_ad X this)), some (.int p1), some (.int 1), some (.int s2.2), some (.int x7)]) rfl (by decide) rfl ?_
              exact qb_exit (fun σ h => qj_goto hX 39 rfl (by decide) (qj_wk (ρ' := [some (.ref (qx_ad X this)), some (.int p1), some (.int 1), some (.int s2.2), none]) (qw_s (qw_s (qw_s (qw_s (qw_n (qw_0)))))) h))
          · intro s8
            refine qb_iinc hX 54 1 (fun x14 => [some (.ref (qx_ad X this)), some (.int p1), some (.int s8), some (.int x14), none]) rfl (by decide) (by decide) rfl (fun _ => rfl) (fun x14 => ?_)
            exact qb_exit (fun σ h => qj_goto hX 55 rfl (by decide) (qj_wk (ρ' := [some (.ref (qx_ad X this)), some (.int p1), some (.int s8), some (.int x14), none]) (qw_s (qw_s (qw_s (qw_s (qw_n (qw_0)))))) h))
  · intro s1
    exact qb_vret hX 56 rfl hR (fun _ h => h)
theorem jm_Press_pourSection {l : Launch} {G : qm_G} (hG : qm_GI G) (this : Nat) (p1 : Int32) (hthis : (qm_kd this).1 = 13) : qm_MV l G jy_Press_pourSection prog_5_method_9_code 5 4 109 [.ref (G.1 this), .int p1] (jf_Press_pourSection this p1) :=
  qm_metV (by decide +kernel) jd_Press_pourSection (fun v hv => by simp only [List.mem_cons, List.not_mem_nil, or_false] at hv; rcases hv with rfl | rfl <;> rfl) (by exact Nat.le_of_ble_eq_true rfl) hG (fun X hl hg hX σ0 hR => by subst hl; subst hg; exact jb_Press_pourSection hX hR this p1 hthis)
def jl_Press_answer : List qm_I := [(0, .aload_n 0, 1, 1), (1, .getfield 51, 3, 4), (4, .iconst (-1), 1, 5), (5, .if_icmp .eq 11, 3, 8), (8, .bipush (-2), 2, 10), (10, .aload_n 0, 1, 11), (11, .getfield 51, 3, 14), (14, .isub, 1, 15), (15, .ireturn, 1, 16), (16, .aload_n 0, 1, 17), (17, .getfield 20, 3, 20), (20, .getfield 82, 3, 23), (23, .ifCond .ne 7, 3, 26), (26, .iconst 0, 1, 27), (27, .goto 9, 3, 30), (30, .aload_n 0, 1, 31), (31, .getfield 67, 3, 34), (34, .iconst 1, 1, 35), (35, .iadd, 1, 36), (36, .ireturn, 1, 37)]
theorem jd_Press_answer : qm_D prog_5_method_5_code jl_Press_answer := qm_D_of (by decide +kernel)
noncomputable def jf_Press_answer (this : Nat) : qm_M Int32 :=
  mB (mGt this 9) fun x1 =>
  if x1 = (-1) then
    mB (mGt (qm_rf this 1) 1) fun x2 =>
    if ¬ x2 = 0 then
      mB (mGt this 5) fun x3 =>
      mP (x3 + 1)
    else
      mP 0
  else
    mB (mGt this 9) fun x4 =>
    mP ((-2) - x4)
set_option maxRecDepth 20000 in
set_option maxHeartbeats 4000000 in
theorem jb_Press_answer {X : qm_X} (hX : qm_ok X qr_Press prog_5_method_5_code 1 0 0 jl_Press_answer) {r0 : Int32} {σ0 : qm_Mem} (hR : qm_RI X r0 σ0 .int) (this : Nat) (hthis : (qm_kd this).1 = 13) : qm_B X (jf_Press_answer this) 0 [some (.ref (qx_ad X this))] [] (fun r σ1 => r = r0 ∧ σ1 = σ0) := by
  unfold jf_Press_answer
  refine qb_aload_n hX 0 rfl rfl ?_
  refine qb_get hX 1 rfl fl_Press_51 hthis rfl (fun x1 => ?_)
  refine qb_iconst hX 2 (-1) rfl (by decide) ?_
  refine qb_iceq hX 3 16 rfl (by decide) ?_ ?_
  ·
    refine qb_aload_n hX 9 rfl rfl ?_
    refine qb_getR hX 10 rfl fl_Press_20 hthis rfl ?_
    refine qb_get hX 11 rfl fl_Press_82 (kf_Press_1 hthis) rfl (fun x2 => ?_)
    refine qb_ifne hX 12 30 rfl (by decide) ?_ ?_
    ·
      refine qb_aload_n hX 15 rfl rfl ?_
      refine qb_get hX 16 rfl fl_Press_67 hthis rfl (fun x3 => ?_)
      refine qb_iconst hX 17 1 rfl (by decide) ?_
      refine qb_iadd hX 18 rfl ?_
      exact qb_iret hX 19 rfl hR (fun _ h => h)
    ·
      refine qb_iconst hX 13 0 rfl (by decide) ?_
      refine qb_goto hX 14 (tgt := 36) rfl (by decide) ?_
      exact qb_iret hX 19 rfl hR (fun _ h => h)
  ·
    refine qb_bipush hX 4 (-2) rfl (by decide) ?_
    refine qb_aload_n hX 5 rfl rfl ?_
    refine qb_get hX 6 rfl fl_Press_51 hthis rfl (fun x4 => ?_)
    refine qb_isub hX 7 rfl ?_
    exact qb_iret hX 8 rfl hR (fun _ h => h)
theorem jm_Press_answer {l : Launch} {G : qm_G} (hG : qm_GI G) (this : Nat) (hthis : (qm_kd this).1 = 13) : qm_MI l G jy_Press_answer prog_5_method_5_code 1 (some .int) 0 0 [.ref (G.1 this)] (jf_Press_answer this) :=
  qm_metI (by decide +kernel) jd_Press_answer (fun v hv => by simp only [List.mem_cons, List.not_mem_nil, or_false] at hv; rcases hv with rfl <;> rfl) (by exact Nat.le_of_ble_eq_true rfl) hG rfl (fun X hl hg hX r0 σ0 hR => by subst hl; subst hg; exact jb_Press_answer hX hR this hthis)
def jl_Press_pourAll : List qm_I := [(0, .aload_n 0, 1, 1), (1, .iconst 0, 1, 2), (2, .putfield 64, 3, 5), (5, .aload_n 0, 1, 6), (6, .iconst 0, 1, 7), (7, .putfield 67, 3, 10), (10, .aload_n 0, 1, 11), (11, .aload_n 0, 1, 12), (12, .getfield 9, 3, 15), (15, .iconst 1, 1, 16), (16, .invokevirtual 70, 3, 19), (19, .putfield 76, 3, 22), (22, .aload_n 0, 1, 23), (23, .iconst (-1), 1, 24), (24, .putfield 51, 3, 27), (27, .aload_n 0, 1, 28), (28, .iconst 0, 1, 29), (29, .putfield 79, 3, 32), (32, .iconst 0, 1, 33), (33, .istore_n 1, 1, 34), (34, .iload_n 1, 1, 35), (35, .aload_n 0, 1, 36), (36, .getfield 20, 3, 39), (39, .getfield 82, 3, 42), (42, .if_icmp .ge 77, 3, 45), (45, .aload_n 0, 1, 46), (46, .getfield 51, 3, 49), (49, .iconst (-1), 1, 50), (50, .if_icmp .ne 69, 3, 53), (53, .aload_n 0, 1, 54), (54, .aload_n 0, 1, 55), (55, .getfield 20, 3, 58), (58, .getfield 85, 3, 61), (61, .iload_n 1, 1, 62), (62, .invokestatic 88, 3, 65), (65, .putfield 92, 3, 68), (68, .aload_n 0, 1, 69), (69, .iconst 0, 1, 70), (70, .putfield 95, 3, 73), (73, .iload_n 1, 1, 74), (74, .ifCond .le 8, 3, 77), (77, .aload_n 0, 1, 78), (78, .iload_n 1, 1, 79), (79, .invokevirtual 98, 3, 82), (82, .aload_n 0, 1, 83), (83, .getfield 51, 3, 86), (86, .iconst (-1), 1, 87), (87, .if_icmp .ne 26, 3, 90), (90, .aload_n 0, 1, 91), (91, .getfield 92, 3, 94), (94, .aload_n 0, 1, 95), (95, .getfield 20, 3, 98), (98, .getfield 102, 3, 101), (101, .iload_n 1, 1, 102), (102, .invokestatic 88, 3, 105), (105, .if_icmp .ge 8, 3, 108), (108, .aload_n 0, 1, 109), (109, .iload_n 1, 1, 110), (110, .invokevirtual 105, 3, 113), (113, .iinc 1 1, 3, 116), (116, .goto (-82), 3, 119), (119, .aload_n 0, 1, 120), (120, .invokevirtual 108, 3, 123), (123, .ireturn, 1, 124)]
theorem jd_Press_pourAll : qm_D prog_5_method_4_code jl_Press_pourAll := qm_D_of (by decide +kernel)
noncomputable def jf_Press_pourAll (this : Nat) : qm_M Int32 :=
  mB (mPt this 4 0) fun _ =>
  mB (mPt this 5 0) fun _ =>
  mB (jf_Run_setting (qm_rf this 0) 1) fun x1 =>
  mB (mPt this 6 x1) fun _ =>
  mB (mPt this 9 (-1)) fun _ =>
  mB (mPt this 10 0) fun _ =>
  mB (α := Unit) (
    mW (S := Int32) (α := Unit) (fun s3 =>
      mB (mGt (qm_rf this 1) 1) fun x4 =>
      if x4 ≤ s3 then
        mP (Sum.inr ())
      else
        mB (mGt this 9) fun x5 =>
        if ¬ x5 = (-1) then
          mP (Sum.inr ())
        else
          mB (jf_Top_at (qm_rf (qm_rf this 1) 16) s3) fun x6 =>
          mB (mPt this 7 x6) fun _ =>
          mB (mPt this 8 0) fun _ =>
          mB (α := Unit) (
            if s3 ≤ 0 then
              mP ()
            else
              mB (jf_Press_putSpan this s3) fun _ =>
              mP ()) fun s7 =>
          mB (mGt this 9) fun x8 =>
          mB (α := Unit) (
            if ¬ x8 = (-1) then
              mP ()
            else
              mB (mGt this 7) fun x10 =>
              mB (jf_Top_at (qm_rf (qm_rf this 1) 17) s3) fun x11 =>
              if x11 ≤ x10 then
                mP ()
              else
                mB (jf_Press_pourSection this s3) fun _ =>
                mP ()) fun s9 =>
          mB (mP (s3 + 1)) fun x12 =>
          mP (Sum.inl x12)) 0) fun s2 =>
  mB (jf_Press_answer this) fun x13 =>
  mP x13
set_option maxRecDepth 20000 in
set_option maxHeartbeats 4000000 in
theorem jb_Press_pourAll {X : qm_X} (hX : qm_ok X qr_Press prog_5_method_4_code 2 5 133 jl_Press_pourAll) {r0 : Int32} {σ0 : qm_Mem} (hR : qm_RI X r0 σ0 .int) (this : Nat) (hthis : (qm_kd this).1 = 13) : qm_B X (jf_Press_pourAll this) 0 [some (.ref (qx_ad X this)), none] [] (fun r σ1 => r = r0 ∧ σ1 = σ0) := by
  unfold jf_Press_pourAll
  refine qb_aload_n hX 0 rfl rfl ?_
  refine qb_iconst hX 1 0 rfl (by decide) ?_
  refine qb_put hX 2 rfl fp_Press_64 hthis ?_
  refine qb_aload_n hX 3 rfl rfl ?_
  refine qb_iconst hX 4 0 rfl (by decide) ?_
  refine qb_put hX 5 rfl fp_Press_67 hthis ?_
  refine qb_aload_n hX 6 rfl rfl ?_
  refine qb_aload_n hX 7 rfl rfl ?_
  refine qb_getR hX 8 rfl fl_Press_9 hthis rfl ?_
  refine qb_iconst hX 9 1 rfl (by decide) ?_
  refine qb_callI hX 10 rfl cv_Press_70 (jm_Run_setting (qk_GI hX) (qm_rf this 0) 1 (kf_Press_0 hthis) ) (ci := 4) (kf_Press_0 hthis) ⟨rfl, rfl, rfl, by decide, by decide⟩ rfl (by exact Nat.le_of_ble_eq_true rfl) (fun x1 => ?_)
  refine qb_put hX 11 rfl fp_Press_76 hthis ?_
  refine qb_aload_n hX 12 rfl rfl ?_
  refine qb_iconst hX 13 (-1) rfl (by decide) ?_
  refine qb_put hX 14 rfl fp_Press_51 hthis ?_
  refine qb_aload_n hX 15 rfl rfl ?_
  refine qb_iconst hX 16 0 rfl (by decide) ?_
  refine qb_put hX 17 rfl fp_Press_79 hthis ?_
  refine qb_iconst hX 18 0 rfl (by decide) ?_
  refine qb_istore_n hX 19 ([some (.ref (qx_ad X this)), some (.int 0)]) rfl (by decide) rfl ?_
  refine qb_join 119 (fun s2 => [some (.ref (qx_ad X this)), none]) (fun s2 => []) ?_ ?_
  ·
    refine qb_loopw (0) (fun s3 => [some (.ref (qx_ad X this)), some (.int s3)]) (qw_s (qw_s (qw_0))) (fun s3 => ?_)
    refine qb_iload_n hX 20 rfl rfl ?_
    refine qb_aload_n hX 21 rfl rfl ?_
    refine qb_getR hX 22 rfl fl_Press_20 hthis rfl ?_
    refine qb_get hX 23 rfl fl_Press_82 (kf_Press_1 hthis) rfl (fun x4 => ?_)
    refine qb_icge hX 24 119 rfl (by decide) ?_ ?_
    ·
      exact qb_exit (fun σ h => qj_wk (ρ' := [some (.ref (qx_ad X this)), none]) (qw_s (qw_n (qw_0))) h)
    ·
      refine qb_aload_n hX 25 rfl rfl ?_
      refine qb_get hX 26 rfl fl_Press_51 hthis rfl (fun x5 => ?_)
      refine qb_iconst hX 27 (-1) rfl (by decide) ?_
      refine qb_icne hX 28 119 rfl (by decide) ?_ ?_
      ·
        exact qb_exit (fun σ h => qj_wk (ρ' := [some (.ref (qx_ad X this)), none]) (qw_s (qw_n (qw_0))) h)
      ·
        refine qb_aload_n hX 29 rfl rfl ?_
        refine qb_aload_n hX 30 rfl rfl ?_
        refine qb_getR hX 31 rfl fl_Press_20 hthis rfl ?_
        refine qb_getR hX 32 rfl fl_Press_85 (kf_Press_1 hthis) rfl ?_
        refine qb_iload_n hX 33 rfl rfl ?_
        refine qb_calNI hX 34 rfl cv_Press_88 (jm_Top_at (qk_GI hX) (qm_rf (qm_rf this 1) 16) s3 (kf_Flow_16 (kf_Press_1 hthis))) ⟨rfl, by decide, by decide⟩ rfl (by exact Nat.le_of_ble_eq_true rfl) (fun x6 => ?_)
        refine qb_put hX 35 rfl fp_Press_92 hthis ?_
        refine qb_aload_n hX 36 rfl rfl ?_
        refine qb_iconst hX 37 0 rfl (by decide) ?_
        refine qb_put hX 38 rfl fp_Press_95 hthis ?_
        refine qb_iload_n hX 39 rfl rfl ?_
        refine qb_join 82 (fun s7 => [some (.ref (qx_ad X this)), some (.int s3)]) (fun s7 => []) ?_ ?_
        ·
          refine qb_ifle hX 40 82 rfl (by decide) ?_ ?_
          ·
            exact qb_exit (fun σ h => qj_wk (ρ' := [some (.ref (qx_ad X this)), some (.int s3)]) (qw_s (qw_s (qw_0))) h)
          ·
            refine qb_aload_n hX 41 rfl rfl ?_
            refine qb_iload_n hX 42 rfl rfl ?_
            refine qb_callV hX 43 rfl cv_Press_98 (jm_Press_putSpan (qk_GI hX) this s3 hthis ) (ci := 3) hthis ⟨rfl, rfl, rfl, by decide, by decide⟩ rfl (by exact Nat.le_of_ble_eq_true rfl) ?_
            exact qb_exit (fun σ h => qj_wk (ρ' := [some (.ref (qx_ad X this)), some (.int s3)]) (qw_s (qw_s (qw_0))) h)
        · intro s7
          refine qb_aload_n hX 44 rfl rfl ?_
          refine qb_get hX 45 rfl fl_Press_51 hthis rfl (fun x8 => ?_)
          refine qb_iconst hX 46 (-1) rfl (by decide) ?_
          refine qb_join 113 (fun s9 => [some (.ref (qx_ad X this)), some (.int s3)]) (fun s9 => []) ?_ ?_
          ·
            refine qb_icne hX 47 113 rfl (by decide) ?_ ?_
            ·
              exact qb_exit (fun σ h => qj_wk (ρ' := [some (.ref (qx_ad X this)), some (.int s3)]) (qw_s (qw_s (qw_0))) h)
            ·
              refine qb_aload_n hX 48 rfl rfl ?_
              refine qb_get hX 49 rfl fl_Press_92 hthis rfl (fun x10 => ?_)
              refine qb_aload_n hX 50 rfl rfl ?_
              refine qb_getR hX 51 rfl fl_Press_20 hthis rfl ?_
              refine qb_getR hX 52 rfl fl_Press_102 (kf_Press_1 hthis) rfl ?_
              refine qb_iload_n hX 53 rfl rfl ?_
              refine qb_calNI hX 54 rfl cv_Press_88 (jm_Top_at (qk_GI hX) (qm_rf (qm_rf this 1) 17) s3 (kf_Flow_17 (kf_Press_1 hthis))) ⟨rfl, by decide, by decide⟩ rfl (by exact Nat.le_of_ble_eq_true rfl) (fun x11 => ?_)
              refine qb_icge hX 55 113 rfl (by decide) ?_ ?_
              ·
                exact qb_exit (fun σ h => qj_wk (ρ' := [some (.ref (qx_ad X this)), some (.int s3)]) (qw_s (qw_s (qw_0))) h)
              ·
                refine qb_aload_n hX 56 rfl rfl ?_
                refine qb_iload_n hX 57 rfl rfl ?_
                refine qb_callV hX 58 rfl cv_Press_105 (jm_Press_pourSection (qk_GI hX) this s3 hthis ) (ci := 3) hthis ⟨rfl, rfl, rfl, by decide, by decide⟩ rfl (by exact Nat.le_of_ble_eq_true rfl) ?_
                exact qb_exit (fun σ h => qj_wk (ρ' := [some (.ref (qx_ad X this)), some (.int s3)]) (qw_s (qw_s (qw_0))) h)
          · intro s9
            refine qb_iinc hX 59 1 (fun x12 => [some (.ref (qx_ad X this)), some (.int x12)]) rfl (by decide) (by decide) rfl (fun _ => rfl) (fun x12 => ?_)
            exact qb_exit (fun σ h => qj_goto hX 60 rfl (by decide) (qj_wk (ρ' := [some (.ref (qx_ad X this)), some (.int x12)]) (qw_s (qw_s (qw_0))) h))
  · intro s2
    refine qb_aload_n hX 61 rfl rfl ?_
    refine qb_callI hX 62 rfl cv_Press_108 (jm_Press_answer (qk_GI hX) this  hthis ) (ci := 3) hthis ⟨rfl, rfl, rfl, by decide, by decide⟩ rfl (by exact Nat.le_of_ble_eq_true rfl) (fun x13 => ?_)
    exact qb_iret hX 63 rfl hR (fun _ h => h)
theorem jm_Press_pourAll {l : Launch} {G : qm_G} (hG : qm_GI G) (this : Nat) (hthis : (qm_kd this).1 = 13) : qm_MI l G jy_Press_pourAll prog_5_method_4_code 2 (some .int) 5 133 [.ref (G.1 this)] (jf_Press_pourAll this) :=
  qm_metI (by decide +kernel) jd_Press_pourAll (fun v hv => by simp only [List.mem_cons, List.not_mem_nil, or_false] at hv; rcases hv with rfl <;> rfl) (by exact Nat.le_of_ble_eq_true rfl) hG rfl (fun X hl hg hX r0 σ0 hR => by subst hl; subst hg; exact jb_Press_pourAll hX hR this hthis)
def jl_Press_cell : List qm_I := [(0, .iload_n 1, 1, 1), (1, .ifCond .lt 33, 3, 4), (4, .iload_n 1, 1, 5), (5, .aload_n 0, 1, 6), (6, .getfield 41, 3, 9), (9, .arraylength, 1, 10), (10, .if_icmp .ge 24, 3, 13), (13, .iload_n 1, 1, 14), (14, .aload_n 0, 1, 15), (15, .getfield 64, 3, 18), (18, .if_icmp .ge 16, 3, 21), (21, .aload_n 0, 1, 22), (22, .getfield 41, 3, 25), (25, .iload_n 1, 1, 26), (26, .aaload, 1, 27), (27, .iload_n 2, 1, 28), (28, .invokestatic 88, 3, 31), (31, .goto 4, 3, 34), (34, .iconst 0, 1, 35), (35, .ireturn, 1, 36)]
theorem jd_Press_cell : qm_D prog_5_method_13_code jl_Press_cell := qm_D_of (by decide +kernel)
noncomputable def jf_Press_cell (this : Nat) (p1 : Int32) (p2 : Int32) : qm_M Int32 :=
  if p1 < 0 then
    mP 0
  else
    if (Int32.ofNat (qm_kd (qm_rf this 3)).2) ≤ p1 then
      mP 0
    else
      mB (mGt this 4) fun x1 =>
      if x1 ≤ p1 then
        mP 0
      else
        mB (mLr (qm_rf this 3) p1) fun r2 =>
        mB (jf_Top_at r2 p2) fun x3 =>
        mP x3
set_option maxRecDepth 20000 in
set_option maxHeartbeats 4000000 in
theorem jb_Press_cell {X : qm_X} (hX : qm_ok X qr_Press prog_5_method_13_code 3 1 21 jl_Press_cell) {r0 : Int32} {σ0 : qm_Mem} (hR : qm_RI X r0 σ0 .int) (this : Nat) (p1 : Int32) (p2 : Int32) (hthis : (qm_kd this).1 = 13) : qm_B X (jf_Press_cell this p1 p2) 0 [some (.ref (qx_ad X this)), some (.int p1), some (.int p2)] [] (fun r σ1 => r = r0 ∧ σ1 = σ0) := by
  unfold jf_Press_cell
  refine qb_iload_n hX 0 rfl rfl ?_
  refine qb_iflt hX 1 34 rfl (by decide) ?_ ?_
  ·
    refine qb_iconst hX 18 0 rfl (by decide) ?_
    exact qb_iret hX 19 rfl hR (fun _ h => h)
  ·
    refine qb_iload_n hX 2 rfl rfl ?_
    refine qb_aload_n hX 3 rfl rfl ?_
    refine qb_getR hX 4 rfl fl_Press_41 hthis rfl ?_
    refine qb_alenR hX 5 (Int32.ofNat (qm_kd (qm_rf this 3)).2) rfl (Or.inl (kf_Press_3 hthis)) rfl ?_
    refine qb_icge hX 6 34 rfl (by decide) ?_ ?_
    ·
      refine qb_iconst hX 18 0 rfl (by decide) ?_
      exact qb_iret hX 19 rfl hR (fun _ h => h)
    ·
      refine qb_iload_n hX 7 rfl rfl ?_
      refine qb_aload_n hX 8 rfl rfl ?_
      refine qb_get hX 9 rfl fl_Press_64 hthis rfl (fun x1 => ?_)
      refine qb_icge hX 10 34 rfl (by decide) ?_ ?_
      ·
        refine qb_iconst hX 18 0 rfl (by decide) ?_
        exact qb_iret hX 19 rfl hR (fun _ h => h)
      ·
        refine qb_aload_n hX 11 rfl rfl ?_
        refine qb_getR hX 12 rfl fl_Press_41 hthis rfl ?_
        refine qb_iload_n hX 13 rfl rfl ?_
        refine qb_aald hX 14 rfl (Or.inl (kf_Press_3 hthis)) (ka_4 (kf_Press_3 hthis)) (fun r2 hr2 => ?_)
        refine qb_iload_n hX 15 rfl rfl ?_
        refine qb_calNI hX 16 rfl cv_Press_88 (jm_Top_at (qk_GI hX) r2 p2 hr2) ⟨rfl, by decide, by decide⟩ rfl (by exact Nat.le_of_ble_eq_true rfl) (fun x3 => ?_)
        refine qb_goto hX 17 (tgt := 35) rfl (by decide) ?_
        exact qb_iret hX 19 rfl hR (fun _ h => h)
theorem jm_Press_cell {l : Launch} {G : qm_G} (hG : qm_GI G) (this : Nat) (p1 : Int32) (p2 : Int32) (hthis : (qm_kd this).1 = 13) : qm_MI l G jy_Press_cell prog_5_method_13_code 3 (some .int) 1 21 [.ref (G.1 this), .int p1, .int p2] (jf_Press_cell this p1 p2) :=
  qm_metI (by decide +kernel) jd_Press_cell (fun v hv => by simp only [List.mem_cons, List.not_mem_nil, or_false] at hv; rcases hv with rfl | rfl | rfl <;> rfl) (by exact Nat.le_of_ble_eq_true rfl) hG rfl (fun X hl hg hX r0 σ0 hR => by subst hl; subst hg; exact jb_Press_cell hX hR this p1 p2 hthis)
end
section
def jl_Press_used : List qm_I := [(0, .aload_n 0, 1, 1), (1, .iload_n 1, 1, 2), (2, .bipush 7, 2, 4), (4, .invokevirtual 155, 3, 7), (7, .aload_n 0, 1, 8), (8, .iload_n 1, 1, 9), (9, .bipush 6, 2, 11), (11, .invokevirtual 155, 3, 14), (14, .iadd, 1, 15), (15, .ifCond .le 7, 3, 18), (18, .iconst 1, 1, 19), (19, .goto 4, 3, 22), (22, .iconst 0, 1, 23), (23, .istore_n 2, 1, 24), (24, .iload_n 2, 1, 25), (25, .ifCond .eq 15, 3, 28), (28, .aload_n 0, 1, 29), (29, .getfield 9, 3, 32), (32, .bipush 6, 2, 34), (34, .invokevirtual 70, 3, 37), (37, .goto 4, 3, 40), (40, .iconst 0, 1, 41), (41, .istore_n 3, 1, 42), (42, .aload_n 0, 1, 43), (43, .iload_n 1, 1, 44), (44, .iconst 5, 1, 45), (45, .invokevirtual 155, 3, 48), (48, .iload_n 3, 1, 49), (49, .iadd, 1, 50), (50, .aload_n 0, 1, 51), (51, .iload_n 1, 1, 52), (52, .bipush 8, 2, 54), (54, .invokevirtual 155, 3, 57), (57, .aload_n 0, 1, 58), (58, .getfield 9, 3, 61), (61, .iconst 5, 1, 62), (62, .invokevirtual 70, 3, 65), (65, .imul, 1, 66), (66, .iadd, 1, 67), (67, .ireturn, 1, 68)]
theorem jd_Press_used : qm_D prog_5_method_14_code jl_Press_used := qm_D_of (by decide +kernel)
noncomputable def jf_Press_used (this : Nat) (p1 : Int32) : qm_M Int32 :=
  mB (jf_Press_cell this p1 7) fun x1 =>
  mB (jf_Press_cell this p1 6) fun x2 =>
  mB (α := Int32) (
    if (x1 + x2) ≤ 0 then
      mP 0
    else
      mP 1) fun s3 =>
  mB (α := Int32) (
    if s3 = 0 then
      mP 0
    else
      mB (jf_Run_setting (qm_rf this 0) 6) fun x5 =>
      mP x5) fun s4 =>
  mB (jf_Press_cell this p1 5) fun x6 =>
  mB (jf_Press_cell this p1 8) fun x7 =>
  mB (jf_Run_setting (qm_rf this 0) 5) fun x8 =>
  mP ((x6 + s4) + (x7 * x8))
set_option maxRecDepth 20000 in
set_option maxHeartbeats 4000000 in
theorem jb_Press_used {X : qm_X} (hX : qm_ok X qr_Press prog_5_method_14_code 4 2 43 jl_Press_used) {r0 : Int32} {σ0 : qm_Mem} (hR : qm_RI X r0 σ0 .int) (this : Nat) (p1 : Int32) (hthis : (qm_kd this).1 = 13) : qm_B X (jf_Press_used this p1) 0 [some (.ref (qx_ad X this)), some (.int p1), none, none] [] (fun r σ1 => r = r0 ∧ σ1 = σ0) := by
  unfold jf_Press_used
  refine qb_aload_n hX 0 rfl rfl ?_
  refine qb_iload_n hX 1 rfl rfl ?_
  refine qb_bipush hX 2 7 rfl (by decide) ?_
  refine qb_callI hX 3 rfl cv_Press_155 (jm_Press_cell (qk_GI hX) this p1 7 hthis ) (ci := 3) hthis ⟨rfl, rfl, rfl, by decide, by decide⟩ rfl (by exact Nat.le_of_ble_eq_true rfl) (fun x1 => ?_)
  refine qb_aload_n hX 4 rfl rfl ?_
  refine qb_iload_n hX 5 rfl rfl ?_
  refine qb_bipush hX 6 6 rfl (by decide) ?_
  refine qb_callI hX 7 rfl cv_Press_155 (jm_Press_cell (qk_GI hX) this p1 6 hthis ) (ci := 3) hthis ⟨rfl, rfl, rfl, by decide, by decide⟩ rfl (by exact Nat.le_of_ble_eq_true rfl) (fun x2 => ?_)
  refine qb_iadd hX 8 rfl ?_
  refine qb_join 23 (fun s3 => [some (.ref (qx_ad X this)), some (.int p1), none, none]) (fun s3 => [.int s3]) ?_ ?_
  ·
    refine qb_ifle hX 9 22 rfl (by decide) ?_ ?_
    ·
      refine qb_iconst hX 12 0 rfl (by decide) ?_
      exact qb_exit (fun σ h => qj_wk (ρ' := [some (.ref (qx_ad X this)), some (.int p1), none, none]) (qw_s (qw_s (qw_n (qw_n (qw_0))))) h)
    ·
      refine qb_iconst hX 10 1 rfl (by decide) ?_
      exact qb_exit (fun σ h => qj_goto hX 11 rfl (by decide) (qj_wk (ρ' := [some (.ref (qx_ad X this)), some (.int p1), none, none]) (qw_s (qw_s (qw_n (qw_n (qw_0))))) h))
  · intro s3
    refine qb_istore_n hX 13 ([some (.ref (qx_ad X this)), some (.int p1), some (.int s3), none]) rfl (by decide) rfl ?_
    refine qb_iload_n hX 14 rfl rfl ?_
    refine qb_join 41 (fun s4 => [some (.ref (qx_ad X this)), some (.int p1), none, none]) (fun s4 => [.int s4]) ?_ ?_
    ·
      refine qb_ifeq hX 15 40 rfl (by decide) ?_ ?_
      ·
        refine qb_iconst hX 21 0 rfl (by decide) ?_
        exact qb_exit (fun σ h => qj_wk (ρ' := [some (.ref (qx_ad X this)), some (.int p1), none, none]) (qw_s (qw_s (qw_n (qw_n (qw_0))))) h)
      ·
        refine qb_aload_n hX 16 rfl rfl ?_
        refine qb_getR hX 17 rfl fl_Press_9 hthis rfl ?_
        refine qb_bipush hX 18 6 rfl (by decide) ?_
        refine qb_callI hX 19 rfl cv_Press_70 (jm_Run_setting (qk_GI hX) (qm_rf this 0) 6 (kf_Press_0 hthis) ) (ci := 4) (kf_Press_0 hthis) ⟨rfl, rfl, rfl, by decide, by decide⟩ rfl (by exact Nat.le_of_ble_eq_true rfl) (fun x5 => ?_)
        exact qb_exit (fun σ h => qj_goto hX 20 rfl (by decide) (qj_wk (ρ' := [some (.ref (qx_ad X this)), some (.int p1), none, none]) (qw_s (qw_s (qw_n (qw_n (qw_0))))) h))
    · intro s4
      refine qb_istore_n hX 22 ([some (.ref (qx_ad X this)), some (.int p1), none, some (.int s4)]) rfl (by decide) rfl ?_
      refine qb_aload_n hX 23 rfl rfl ?_
      refine qb_iload_n hX 24 rfl rfl ?_
      refine qb_iconst hX 25 5 rfl (by decide) ?_
      refine qb_callI hX 26 rfl cv_Press_155 (jm_Press_cell (qk_GI hX) this p1 5 hthis ) (ci := 3) hthis ⟨rfl, rfl, rfl, by decide, by decide⟩ rfl (by exact Nat.le_of_ble_eq_true rfl) (fun x6 => ?_)
      refine qb_iload_n hX 27 rfl rfl ?_
      refine qb_iadd hX 28 rfl ?_
      refine qb_aload_n hX 29 rfl rfl ?_
      refine qb_iload_n hX 30 rfl rfl ?_
      refine qb_bipush hX 31 8 rfl (by decide) ?_
      refine qb_callI hX 32 rfl cv_Press_155 (jm_Press_cell (qk_GI hX) this p1 8 hthis ) (ci := 3) hthis ⟨rfl, rfl, rfl, by decide, by decide⟩ rfl (by exact Nat.le_of_ble_eq_true rfl) (fun x7 => ?_)
      refine qb_aload_n hX 33 rfl rfl ?_
      refine qb_getR hX 34 rfl fl_Press_9 hthis rfl ?_
      refine qb_iconst hX 35 5 rfl (by decide) ?_
      refine qb_callI hX 36 rfl cv_Press_70 (jm_Run_setting (qk_GI hX) (qm_rf this 0) 5 (kf_Press_0 hthis) ) (ci := 4) (kf_Press_0 hthis) ⟨rfl, rfl, rfl, by decide, by decide⟩ rfl (by exact Nat.le_of_ble_eq_true rfl) (fun x8 => ?_)
      refine qb_imul hX 37 rfl ?_
      refine qb_iadd hX 38 rfl ?_
      exact qb_iret hX 39 rfl hR (fun _ h => h)
theorem jm_Press_used {l : Launch} {G : qm_G} (hG : qm_GI G) (this : Nat) (p1 : Int32) (hthis : (qm_kd this).1 = 13) : qm_MI l G jy_Press_used prog_5_method_14_code 4 (some .int) 2 43 [.ref (G.1 this), .int p1] (jf_Press_used this p1) :=
  qm_metI (by decide +kernel) jd_Press_used (fun v hv => by simp only [List.mem_cons, List.not_mem_nil, or_false] at hv; rcases hv with rfl | rfl <;> rfl) (by exact Nat.le_of_ble_eq_true rfl) hG rfl (fun X hl hg hX r0 σ0 hR => by subst hl; subst hg; exact jb_Press_used hX hR this p1 hthis)
def jl_Press_columnOf : List qm_I := [(0, .iconst 0, 1, 1), (1, .istore_n 2, 1, 2), (2, .iload_n 2, 1, 3), (3, .aload_n 0, 1, 4), (4, .getfield 64, 3, 7), (7, .if_icmp .ge 31, 3, 10), (10, .aload_n 0, 1, 11), (11, .iload_n 2, 1, 12), (12, .iconst 3, 1, 13), (13, .invokevirtual 155, 3, 16), (16, .iload_n 1, 1, 17), (17, .if_icmp .gt 15, 3, 20), (20, .iload_n 1, 1, 21), (21, .aload_n 0, 1, 22), (22, .iload_n 2, 1, 23), (23, .iconst 4, 1, 24), (24, .invokevirtual 155, 3, 27), (27, .if_icmp .ge 5, 3, 30), (30, .iload_n 2, 1, 31), (31, .ireturn, 1, 32), (32, .iinc 2 1, 3, 35), (35, .goto (-33), 3, 38), (38, .iconst (-1), 1, 39), (39, .ireturn, 1, 40)]
theorem jd_Press_columnOf : qm_D prog_5_method_17_code jl_Press_columnOf := qm_D_of (by decide +kernel)
noncomputable def jf_Press_columnOf (this : Nat) (p1 : Int32) : qm_M Int32 :=
  mB (α := (Unit ⊕ Int32)) (
    mW (S := Int32) (α := (Unit ⊕ Int32)) (fun s2 =>
      mB (mGt this 4) fun x3 =>
      if x3 ≤ s2 then
        mP (Sum.inr (Sum.inl ()))
      else
        mB (jf_Press_cell this s2 3) fun x4 =>
        mB (α := (Unit ⊕ (Int32 ⊕ (Unit ⊕ Int32)))) (
          if p1 < x4 then
            mP (Sum.inl ())
          else
            mB (jf_Press_cell this s2 4) fun x6 =>
            if x6 ≤ p1 then
              mP (Sum.inl ())
            else
              mP (Sum.inr (Sum.inr (Sum.inr s2)))) (Sum.elim (fun s5 =>
          mB (mP (s2 + 1)) fun x7 =>
          mP (Sum.inl x7)) mP)) 0) (Sum.elim (fun s1 =>
    mP (-1)) mP)
set_option maxRecDepth 20000 in
set_option maxHeartbeats 4000000 in
theorem jb_Press_columnOf {X : qm_X} (hX : qm_ok X qr_Press prog_5_method_17_code 3 2 43 jl_Press_columnOf) {r0 : Int32} {σ0 : qm_Mem} (hR : qm_RI X r0 σ0 .int) (this : Nat) (p1 : Int32) (hthis : (qm_kd this).1 = 13) : qm_B X (jf_Press_columnOf this p1) 0 [some (.ref (qx_ad X this)), some (.int p1), none] [] (fun r σ1 => r = r0 ∧ σ1 = σ0) := by
  unfold jf_Press_columnOf
  refine qb_iconst hX 0 0 rfl (by decide) ?_
  refine qb_istore_n hX 1 ([some (.ref (qx_ad X this)), some (.int p1), some (.int 0)]) rfl (by decide) rfl ?_
  refine qb_join2 38 (fun s1 => [none, none, none]) (fun s1 => []) ?_ ?_
  ·
    refine qb_loopw (0) (fun s2 => [some (.ref (qx_ad X this)), some (.int p1), some (.int s2)]) (qw_s (qw_s (qw_s (qw_0)))) (fun s2 => ?_)
    refine qb_iload_n hX 2 rfl rfl ?_
    refine qb_aload_n hX 3 rfl rfl ?_
    refine qb_get hX 4 rfl fl_Press_64 hthis rfl (fun x3 => ?_)
    refine qb_icge hX 5 38 rfl (by decide) ?_ ?_
    ·
      exact qb_exit (fun σ h => qj_wk (ρ' := [none, none, none]) (qw_n (qw_n (qw_n (qw_0)))) h)
    ·
      refine qb_aload_n hX 6 rfl rfl ?_
      refine qb_iload_n hX 7 rfl rfl ?_
      refine qb_iconst hX 8 3 rfl (by decide) ?_
      refine qb_callI hX 9 rfl cv_Press_155 (jm_Press_cell (qk_GI hX) this s2 3 hthis ) (ci := 3) hthis ⟨rfl, rfl, rfl, by decide, by decide⟩ rfl (by exact Nat.le_of_ble_eq_true rfl) (fun x4 => ?_)
      refine qb_iload_n hX 10 rfl rfl ?_
      refine qb_join2 32 (fun s5 => [some (.ref (qx_ad X this)), some (.int p1), some (.int s2)]) (fun s5 => []) ?_ ?_
      ·
        refine qb_icgt hX 11 32 rfl (by decide) ?_ ?_
        ·
          exact qb_exit (fun σ h => qj_wk (ρ' := [some (.ref (qx_ad X this)), some (.int p1), some (.int s2)]) (qw_s (qw_s (qw_s (qw_0)))) h)
        ·
          refine qb_iload_n hX 12 rfl rfl ?_
          refine qb_aload_n hX 13 rfl rfl ?_
          refine qb_iload_n hX 14 rfl rfl ?_
          refine qb_iconst hX 15 4 rfl (by decide) ?_
          refine qb_callI hX 16 rfl cv_Press_155 (jm_Press_cell (qk_GI hX) this s2 4 hthis ) (ci := 3) hthis ⟨rfl, rfl, rfl, by decide, by decide⟩ rfl (by exact Nat.le_of_ble_eq_true rfl) (fun x6 => ?_)
          refine qb_icge hX 17 32 rfl (by decide) ?_ ?_
          ·
            exact qb_exit (fun σ h => qj_wk (ρ' := [some (.ref (qx_ad X this)), some (.int p1), some (.int s2)]) (qw_s (qw_s (qw_s (qw_0)))) h)
          ·
            refine qb_iload_n hX 18 rfl rfl ?_
            exact qb_iret hX 19 rfl hR (fun _ h => h)
      · intro s5
        refine qb_iinc hX 20 1 (fun x7 => [some (.ref (qx_ad X this)), some (.int p1), some (.int x7)]) rfl (by decide) (by decide) rfl (fun _ => rfl) (fun x7 => ?_)
        exact qb_exit (fun σ h => qj_goto hX 21 rfl (by decide) (qj_wk (ρ' := [some (.ref (qx_ad X this)), some (.int p1), some (.int x7)]) (qw_s (qw_s (qw_s (qw_0)))) h))
  · intro s1
    refine qb_iconst hX 22 (-1) rfl (by decide) ?_
    exact qb_iret hX 23 rfl hR (fun _ h => h)
theorem jm_Press_columnOf {l : Launch} {G : qm_G} (hG : qm_GI G) (this : Nat) (p1 : Int32) (hthis : (qm_kd this).1 = 13) : qm_MI l G jy_Press_columnOf prog_5_method_17_code 3 (some .int) 2 43 [.ref (G.1 this), .int p1] (jf_Press_columnOf this p1) :=
  qm_metI (by decide +kernel) jd_Press_columnOf (fun v hv => by simp only [List.mem_cons, List.not_mem_nil, or_false] at hv; rcases hv with rfl | rfl <;> rfl) (by exact Nat.le_of_ble_eq_true rfl) hG rfl (fun X hl hg hX r0 σ0 hR => by subst hl; subst hg; exact jb_Press_columnOf hX hR this p1 hthis)
def jl_Press_leftOfNote : List qm_I := [(0, .aload_n 0, 1, 1), (1, .getfield 20, 3, 4), (4, .iload_n 1, 1, 5), (5, .iconst 1, 1, 6), (6, .iadd, 1, 7), (7, .aload_n 0, 1, 8), (8, .iload_n 2, 1, 9), (9, .iconst 4, 1, 10), (10, .invokevirtual 155, 3, 13), (13, .invokevirtual 146, 3, 16), (16, .ifCond .ne 7, 3, 19), (19, .iconst 1, 1, 20), (20, .goto 4, 3, 23), (23, .iconst 0, 1, 24), (24, .istore_n 3, 1, 25), (25, .iload_n 3, 1, 26), (26, .ifCond .eq 29, 3, 29), (29, .aload_n 0, 1, 30), (30, .iload_n 2, 1, 31), (31, .bipush 6, 2, 33), (33, .invokevirtual 155, 3, 36), (36, .aload_n 0, 1, 37), (37, .iload_n 2, 1, 38), (38, .bipush 7, 2, 40), (40, .invokevirtual 155, 3, 43), (43, .iadd, 1, 44), (44, .aload_n 0, 1, 45), (45, .iload_n 2, 1, 46), (46, .bipush 8, 2, 48), (48, .invokevirtual 155, 3, 51), (51, .isub, 1, 52), (52, .goto 4, 3, 55), (55, .iconst 0, 1, 56), (56, .ireturn, 1, 57)]
theorem jd_Press_leftOfNote : qm_D prog_5_method_18_code jl_Press_leftOfNote := qm_D_of (by decide +kernel)
noncomputable def jf_Press_leftOfNote (this : Nat) (p1 : Int32) (p2 : Int32) : qm_M Int32 :=
  mB (jf_Press_cell this p2 4) fun x1 =>
  mB (jf_Flow_ownLines (qm_rf this 1) (p1 + 1) x1) fun x2 =>
  mB (α := Int32) (
    if ¬ x2 = 0 then
      mP 0
    else
      mP 1) fun s3 =>
  if s3 = 0 then
    mP 0
  else
    mB (jf_Press_cell this p2 6) fun x4 =>
    mB (jf_Press_cell this p2 7) fun x5 =>
    mB (jf_Press_cell this p2 8) fun x6 =>
    mP ((x4 + x5) - x6)
set_option maxRecDepth 20000 in
set_option maxHeartbeats 4000000 in
theorem jb_Press_leftOfNote {X : qm_X} (hX : qm_ok X qr_Press prog_5_method_18_code 4 2 43 jl_Press_leftOfNote) {r0 : Int32} {σ0 : qm_Mem} (hR : qm_RI X r0 σ0 .int) (this : Nat) (p1 : Int32) (p2 : Int32) (hthis : (qm_kd this).1 = 13) : qm_B X (jf_Press_leftOfNote this p1 p2) 0 [some (.ref (qx_ad X this)), some (.int p1), some (.int p2), none] [] (fun r σ1 => r = r0 ∧ σ1 = σ0) := by
  unfold jf_Press_leftOfNote
  refine qb_aload_n hX 0 rfl rfl ?_
  refine qb_getR hX 1 rfl fl_Press_20 hthis rfl ?_
  refine qb_iload_n hX 2 rfl rfl ?_
  refine qb_iconst hX 3 1 rfl (by decide) ?_
  refine qb_iadd hX 4 rfl ?_
  refine qb_aload_n hX 5 rfl rfl ?_
  refine qb_iload_n hX 6 rfl rfl ?_
  refine qb_iconst hX 7 4 rfl (by decide) ?_
  refine qb_callI hX 8 rfl cv_Press_155 (jm_Press_cell (qk_GI hX) this p2 4 hthis ) (ci := 3) hthis ⟨rfl, rfl, rfl, by decide, by decide⟩ rfl (by exact Nat.le_of_ble_eq_true rfl) (fun x1 => ?_)
  refine qb_callI hX 9 rfl cv_Press_146 (jm_Flow_ownLines (qk_GI hX) (qm_rf this 1) (p1 + 1) x1 (kf_Press_1 hthis) ) (ci := 1) (kf_Press_1 hthis) ⟨rfl, rfl, rfl, by decide, by decide⟩ rfl (by exact Nat.le_of_ble_eq_true rfl) (fun x2 => ?_)
  refine qb_join 24 (fun s3 => [some (.ref (qx_ad X this)), none, some (.int p2), none]) (fun s3 => [.int s3]) ?_ ?_
  ·
    refine qb_ifne hX 10 23 rfl (by decide) ?_ ?_
    ·
      refine qb_iconst hX 13 0 rfl (by decide) ?_
      exact qb_exit (fun σ h => qj_wk (ρ' := [some (.ref (qx_ad X this)), none, some (.int p2), none]) (qw_s (qw_n (qw_s (qw_n (qw_0))))) h)
    ·
      refine qb_iconst hX 11 1 rfl (by decide) ?_
      exact qb_exit (fun σ h => qj_goto hX 12 rfl (by decide) (qj_wk (ρ' := [some (.ref (qx_ad X this)), none, some (.int p2), none]) (qw_s (qw_n (qw_s (qw_n (qw_0))))) h))
  · intro s3
    refine qb_istore_n hX 14 ([some (.ref (qx_ad X this)), none, some (.int p2), some (.int s3)]) rfl (by decide) rfl ?_
    refine qb_iload_n hX 15 rfl rfl ?_
    refine qb_ifeq hX 16 55 rfl (by decide) ?_ ?_
    ·
      refine qb_iconst hX 32 0 rfl (by decide) ?_
      exact qb_iret hX 33 rfl hR (fun _ h => h)
    ·
      refine qb_aload_n hX 17 rfl rfl ?_
      refine qb_iload_n hX 18 rfl rfl ?_
      refine qb_bipush hX 19 6 rfl (by decide) ?_
      refine qb_callI hX 20 rfl cv_Press_155 (jm_Press_cell (qk_GI hX) this p2 6 hthis ) (ci := 3) hthis ⟨rfl, rfl, rfl, by decide, by decide⟩ rfl (by exact Nat.le_of_ble_eq_true rfl) (fun x4 => ?_)
      refine qb_aload_n hX 21 rfl rfl ?_
      refine qb_iload_n hX 22 rfl rfl ?_
      refine qb_bipush hX 23 7 rfl (by decide) ?_
      refine qb_callI hX 24 rfl cv_Press_155 (jm_Press_cell (qk_GI hX) this p2 7 hthis ) (ci := 3) hthis ⟨rfl, rfl, rfl, by decide, by decide⟩ rfl (by exact Nat.le_of_ble_eq_true rfl) (fun x5 => ?_)
      refine qb_iadd hX 25 rfl ?_
      refine qb_aload_n hX 26 rfl rfl ?_
      refine qb_iload_n hX 27 rfl rfl ?_
      refine qb_bipush hX 28 8 rfl (by decide) ?_
      refine qb_callI hX 29 rfl cv_Press_155 (jm_Press_cell (qk_GI hX) this p2 8 hthis ) (ci := 3) hthis ⟨rfl, rfl, rfl, by decide, by decide⟩ rfl (by exact Nat.le_of_ble_eq_true rfl) (fun x6 => ?_)
      refine qb_isub hX 30 rfl ?_
      refine qb_goto hX 31 (tgt := 56) rfl (by decide) ?_
      exact qb_iret hX 33 rfl hR (fun _ h => h)
theorem jm_Press_leftOfNote {l : Launch} {G : qm_G} (hG : qm_GI G) (this : Nat) (p1 : Int32) (p2 : Int32) (hthis : (qm_kd this).1 = 13) : qm_MI l G jy_Press_leftOfNote prog_5_method_18_code 4 (some .int) 2 43 [.ref (G.1 this), .int p1, .int p2] (jf_Press_leftOfNote this p1 p2) :=
  qm_metI (by decide +kernel) jd_Press_leftOfNote (fun v hv => by simp only [List.mem_cons, List.not_mem_nil, or_false] at hv; rcases hv with rfl | rfl | rfl <;> rfl) (by exact Nat.le_of_ble_eq_true rfl) hG rfl (fun X hl hg hX r0 σ0 hR => by subst hl; subst hg; exact jb_Press_leftOfNote hX hR this p1 p2 hthis)
def jl_Press_linesByMark : List qm_I := [(0, .aload_n 0, 1, 1), (1, .iload_n 1, 1, 2), (2, .invokevirtual 164, 3, 5), (5, .istore_n 2, 1, 6), (6, .iload_n 2, 1, 7), (7, .iconst (-1), 1, 8), (8, .if_icmp .ne 8, 3, 11), (11, .bipush (-2), 2, 13), (13, .goto 21, 3, 16), (16, .aload_n 0, 1, 17), (17, .getfield 20, 3, 20), (20, .getfield 167, 3, 23), (23, .iload_n 1, 1, 24), (24, .invokestatic 88, 3, 27), (27, .aload_n 0, 1, 28), (28, .iload_n 1, 1, 29), (29, .iload_n 2, 1, 30), (30, .invokevirtual 170, 3, 33), (33, .isub, 1, 34), (34, .ireturn, 1, 35)]
theorem jd_Press_linesByMark : qm_D prog_5_method_19_code jl_Press_linesByMark := qm_D_of (by decide +kernel)
noncomputable def jf_Press_linesByMark (this : Nat) (p1 : Int32) : qm_M Int32 :=
  mB (jf_Press_columnOf this p1) fun x1 =>
  if ¬ x1 = (-1) then
    mB (jf_Top_at (qm_rf (qm_rf this 1) 9) p1) fun x2 =>
    mB (jf_Press_leftOfNote this p1 x1) fun x3 =>
    mP (x2 - x3)
  else
    mP (-2)
set_option maxRecDepth 20000 in
set_option maxHeartbeats 4000000 in
theorem jb_Press_linesByMark {X : qm_X} (hX : qm_ok X qr_Press prog_5_method_19_code 3 3 66 jl_Press_linesByMark) {r0 : Int32} {σ0 : qm_Mem} (hR : qm_RI X r0 σ0 .int) (this : Nat) (p1 : Int32) (hthis : (qm_kd this).1 = 13) : qm_B X (jf_Press_linesByMark this p1) 0 [some (.ref (qx_ad X this)), some (.int p1), none] [] (fun r σ1 => r = r0 ∧ σ1 = σ0) := by
  unfold jf_Press_linesByMark
  refine qb_aload_n hX 0 rfl rfl ?_
  refine qb_iload_n hX 1 rfl rfl ?_
  refine qb_callI hX 2 rfl cv_Press_164 (jm_Press_columnOf (qk_GI hX) this p1 hthis ) (ci := 3) hthis ⟨rfl, rfl, rfl, by decide, by decide⟩ rfl (by exact Nat.le_of_ble_eq_true rfl) (fun x1 => ?_)
  refine qb_istore_n hX 3 ([some (.ref (qx_ad X this)), some (.int p1), some (.int x1)]) rfl (by decide) rfl ?_
  refine qb_iload_n hX 4 rfl rfl ?_
  refine qb_iconst hX 5 (-1) rfl (by decide) ?_
  refine qb_icne hX 6 16 rfl (by decide) ?_ ?_
  ·
    refine qb_aload_n hX 9 rfl rfl ?_
    refine qb_getR hX 10 rfl fl_Press_20 hthis rfl ?_
    refine qb_getR hX 11 rfl fl_Press_167 (kf_Press_1 hthis) rfl ?_
    refine qb_iload_n hX 12 rfl rfl ?_
    refine qb_calNI hX 13 rfl cv_Press_88 (jm_Top_at (qk_GI hX) (qm_rf (qm_rf this 1) 9) p1 (kf_Flow_9 (kf_Press_1 hthis))) ⟨rfl, by decide, by decide⟩ rfl (by exact Nat.le_of_ble_eq_true rfl) (fun x2 => ?_)
    refine qb_aload_n hX 14 rfl rfl ?_
    refine qb_iload_n hX 15 rfl rfl ?_
    refine qb_iload_n hX 16 rfl rfl ?_
    refine qb_callI hX 17 rfl cv_Press_170 (jm_Press_leftOfNote (qk_GI hX) this p1 x1 hthis ) (ci := 3) hthis ⟨rfl, rfl, rfl, by decide, by decide⟩ rfl (by exact Nat.le_of_ble_eq_true rfl) (fun x3 => ?_)
    refine qb_isub hX 18 rfl ?_
    exact qb_iret hX 19 rfl hR (fun _ h => h)
  ·
    refine qb_bipush hX 7 (-2) rfl (by decide) ?_
    refine qb_goto hX 8 (tgt := 34) rfl (by decide) ?_
    exact qb_iret hX 19 rfl hR (fun _ h => h)
theorem jm_Press_linesByMark {l : Launch} {G : qm_G} (hG : qm_GI G) (this : Nat) (p1 : Int32) (hthis : (qm_kd this).1 = 13) : qm_MI l G jy_Press_linesByMark prog_5_method_19_code 3 (some .int) 3 66 [.ref (G.1 this), .int p1] (jf_Press_linesByMark this p1) :=
  qm_metI (by decide +kernel) jd_Press_linesByMark (fun v hv => by simp only [List.mem_cons, List.not_mem_nil, or_false] at hv; rcases hv with rfl | rfl <;> rfl) (by exact Nat.le_of_ble_eq_true rfl) hG rfl (fun X hl hg hX r0 σ0 hR => by subst hl; subst hg; exact jb_Press_linesByMark hX hR this p1 hthis)
def jl_Press_columnsOfNote : List qm_I := [(0, .aload_n 0, 1, 1), (1, .iload_n 1, 1, 2), (2, .invokevirtual 164, 3, 5), (5, .istore_n 2, 1, 6), (6, .iload_n 2, 1, 7), (7, .iconst (-1), 1, 8), (8, .if_icmp .ne 6, 3, 11), (11, .bipush (-2), 2, 13), (13, .ireturn, 1, 14), (14, .iconst 1, 1, 15), (15, .istore_n 3, 1, 16), (16, .aload_n 0, 1, 17), (17, .iload_n 1, 1, 18), (18, .iload_n 2, 1, 19), (19, .invokevirtual 170, 3, 22), (22, .istore 4, 2, 24), (24, .iload_n 2, 1, 25), (25, .iconst 1, 1, 26), (26, .iadd, 1, 27), (27, .istore 5, 2, 29), (29, .iload 5, 2, 31), (31, .aload_n 0, 1, 32), (32, .getfield 64, 3, 35), (35, .if_icmp .ge 41, 3, 38), (38, .iload 4, 2, 40), (40, .ifCond .le 36, 3, 43), (43, .aload_n 0, 1, 44), (44, .iload 5, 2, 46), (46, .bipush 8, 2, 48), (48, .invokevirtual 155, 3, 51), (51, .ifCond .le 6, 3, 54), (54, .iinc 3 1, 3, 57), (57, .iload 4, 2, 59), (59, .aload_n 0, 1, 60), (60, .iload 5, 2, 62), (62, .bipush 8, 2, 64), (64, .invokevirtual 155, 3, 67), (67, .isub, 1, 68), (68, .istore 4, 2, 70), (70, .iinc 5 1, 3, 73), (73, .goto (-44), 3, 76), (76, .iload_n 3, 1, 77), (77, .ireturn, 1, 78)]
theorem jd_Press_columnsOfNote : qm_D prog_5_method_20_code jl_Press_columnsOfNote := qm_D_of (by decide +kernel)
noncomputable def jf_Press_columnsOfNote (this : Nat) (p1 : Int32) : qm_M Int32 :=
  mB (jf_Press_columnOf this p1) fun x1 =>
  if ¬ x1 = (-1) then
    mB (jf_Press_leftOfNote this p1 x1) fun x2 =>
    mB (mP (x1 + 1)) fun x3 =>
    mB (α := Int32) (
      mW (S := Int32 × Int32 × Int32) (α := Int32) (fun s5 =>
        mB (mGt this 4) fun x6 =>
        if x6 ≤ s5.2.2 then
          mP (Sum.inr s5.1)
        else
          if s5.2.1 ≤ 0 then
            mP (Sum.inr s5.1)
          else
            mB (jf_Press_cell this s5.2.2 8) fun x7 =>
            mB (α := Int32) (
              if x7 ≤ 0 then
                mP s5.1
              else
                mB (mP (s5.1 + 1)) fun x9 =>
                mP x9) fun s8 =>
            mB (jf_Press_cell this s5.2.2 8) fun x10 =>
            mB (mP (s5.2.1 - x10)) fun x11 =>
            mB (mP (s5.2.2 + 1)) fun x12 =>
            mP (Sum.inl (s8, x11, x12))) (1, x2, x3)) fun s4 =>
    mP s4
  else
    mP (-2)
set_option maxRecDepth 20000 in
set_option maxHeartbeats 4000000 in
theorem jb_Press_columnsOfNote {X : qm_X} (hX : qm_ok X qr_Press prog_5_method_20_code 6 3 66 jl_Press_columnsOfNote) {r0 : Int32} {σ0 : qm_Mem} (hR : qm_RI X r0 σ0 .int) (this : Nat) (p1 : Int32) (hthis : (qm_kd this).1 = 13) : qm_B X (jf_Press_columnsOfNote this p1) 0 [some (.ref (qx_ad X this)), some (.int p1), none, none, none, none] [] (fun r σ1 => r = r0 ∧ σ1 = σ0) := by
  unfold jf_Press_columnsOfNote
  refine qb_aload_n hX 0 rfl rfl ?_
  refine qb_iload_n hX 1 rfl rfl ?_
  refine qb_callI hX 2 rfl cv_Press_164 (jm_Press_columnOf (qk_GI hX) this p1 hthis ) (ci := 3) hthis ⟨rfl, rfl, rfl, by decide, by decide⟩ rfl (by exact Nat.le_of_ble_eq_true rfl) (fun x1 => ?_)
  refine qb_istore_n hX 3 ([some (.ref (qx_ad X this)), some (.int p1), some (.int x1), none, none, none]) rfl (by decide) rfl ?_
  refine qb_iload_n hX 4 rfl rfl ?_
  refine qb_iconst hX 5 (-1) rfl (by decide) ?_
  refine qb_icne hX 6 14 rfl (by decide) ?_ ?_
  ·
    refine qb_iconst hX 9 1 rfl (by decide) ?_
    refine qb_istore_n hX 10 ([some (.ref (qx_ad X this)), some (.int p1), some (.int x1), some (.int 1), none, none]) rfl (by decide) rfl ?_
    refine qb_aload_n hX 11 rfl rfl ?_
    refine qb_iload_n hX 12 rfl rfl ?_
    refine qb_iload_n hX 13 rfl rfl ?_
    refine qb_callI hX 14 rfl cv_Press_170 (jm_Press_leftOfNote (qk_GI hX) this p1 x1 hthis ) (ci := 3) hthis ⟨rfl, rfl, rfl, by decide, by decide⟩ rfl (by exact Nat.le_of_ble_eq_true rfl) (fun x2 => ?_)
    refine qb_istore hX 15 ([some (.ref (qx_ad X this)), some (.int p1), some (.int x1), some (.int 1), some (.int x2), none]) rfl (by decide) rfl ?_
    refine qb_iload_n hX 16 rfl rfl ?_
    refine qb_iconst hX 17 1 rfl (by decide) ?_
    refine qb_iadd hX 18 rfl ?_
    refine qb_istoreL hX 19 (fun x3 => [some (.ref (qx_ad X this)), some (.int p1), some (.int x1), some (.int 1), some (.int x2), some (.int x3)]) rfl (by decide) (fun _ => rfl) (fun x3 => ?_)
    refine qb_join 76 (fun s4 => [none, none, none, some (.int s4), none, none]) (fun s4 => []) ?_ ?_
    ·
      refine qb_loopw ((1, x2, x3)) (fun s5 => [some (.ref (qx_ad X this)), none, none, some (.int s5.1), some (.int s5.2.1), some (.int s5.2.2)]) (qw_s (qw_n (qw_n (qw_s (qw_s (qw_s (qw_0))))))) (fun s5 => ?_)
      refine qb_iload hX 20 rfl rfl ?_
      refine qb_aload_n hX 21 rfl rfl ?_
      refine qb_get hX 22 rfl fl_Press_64 hthis rfl (fun x6 => ?_)
      refine qb_icge hX 23 76 rfl (by decide) ?_ ?_
      ·
        exact qb_exit (fun σ h => qj_wk (ρ' := [none, none, none, some (.int s5.1), none, none]) (qw_n (qw_n (qw_n (qw_s (qw_n (qw_n (qw_0))))))) h)
      ·
        refine qb_iload hX 24 rfl rfl ?_
        refine qb_ifle hX 25 76 rfl (by decide) ?_ ?_
        ·
          exact qb_exit (fun σ h => qj_wk (ρ' := [none, none, none, some (.int s5.1), none, none]) (qw_n (qw_n (qw_n (qw_s (qw_n (qw_n (qw_0))))))) h)
        ·
          refine qb_aload_n hX 26 rfl rfl ?_
          refine qb_iload hX 27 rfl rfl ?_
          refine qb_bipush hX 28 8 rfl (by decide) ?_
          refine qb_callI hX 29 rfl cv_Press_155 (jm_Press_cell (qk_GI hX) this s5.2.2 8 hthis ) (ci := 3) hthis ⟨rfl, rfl, rfl, by decide, by decide⟩ rfl (by exact Nat.le_of_ble_eq_true rfl) (fun x7 => ?_)
          refine qb_join 57 (fun s8 => [some (.ref (qx_ad X this)), none, none, some (.int s8), some (.int s5.2.1), some (.int s5.2.2)]) (fun s8 => []) ?_ ?_
          ·
            refine qb_ifle hX 30 57 rfl (by decide) ?_ ?_
            ·
              exact qb_exit (fun σ h => qj_wk (ρ' := [some (.ref (qx_ad X this)), none, none, some (.int s5.1), some (.int s5.2.1), some (.int s5.2.2)]) (qw_s (qw_n (qw_n (qw_s (qw_s (qw_s (qw_0))))))) h)
            ·
              refine qb_iinc hX 31 1 (fun x9 => [some (.ref (qx_ad X this)), none, none, some (.int x9), some (.int s5.2.1), some (.int s5.2.2)]) rfl (by decide) (by decide) rfl (fun _ => rfl) (fun x9 => ?_)
              exact qb_exit (fun σ h => qj_wk (ρ' := [some (.ref (qx_ad X this)), none, none, some (.int x9), some (.int s5.2.1), some (.int s5.2.2)]) (qw_s (qw_n (qw_n (qw_s (qw_s (qw_s (qw_0))))))) h)
          · intro s8
            refine qb_iload hX 32 rfl rfl ?_
            refine qb_aload_n hX 33 rfl rfl ?_
            refine qb_iload hX 34 rfl rfl ?_
            refine qb_bipush hX 35 8 rfl (by decide) ?_
            refine qb_callI hX 36 rfl cv_Press_155 (jm_Press_cell (qk_GI hX) this s5.2.2 8 hthis ) (ci := 3) hthis ⟨rfl, rfl, rfl, by decide, by decide⟩ rfl (by exact Nat.le_of_ble_eq_true rfl) (fun x10 => ?_)
            refine qb_isub hX 37 rfl ?_
            refine qb_istoreL hX 38 (fun x11 => [some (.ref (qx_ad X this)), none, none, some (.int s8), some (.int x11), some (.int s5.2.2)]) rfl (by decide) (fun _ => rfl) (fun x11 => ?_)
            refine qb_iinc hX 39 1 (fun x12 => [some (.ref (qx_ad X this)), none, none, some (.int s8), some (.int x11), some (.int x12)]) rfl (by decide) (by decide) rfl (fun _ => rfl) (fun x12 => ?_)
            exact qb_exit (fun σ h => qj_goto hX 40 rfl (by decide) (qj_wk (ρ' := [some (.ref (qx_ad X this)), none, none, some (.int s8), some (.int x11), some (.int x12)]) (qw_s (qw_n (qw_n (qw_s (qw_s (qw_s (qw_0))))))) h))
    · intro s4
      refine qb_iload_n hX 41 rfl rfl ?_
      exact qb_iret hX 42 rfl hR (fun _ h => h)
  ·
    refine qb_bipush hX 7 (-2) rfl (by decide) ?_
    exact qb_iret hX 8 rfl hR (fun _ h => h)
theorem jm_Press_columnsOfNote {l : Launch} {G : qm_G} (hG : qm_GI G) (this : Nat) (p1 : Int32) (hthis : (qm_kd this).1 = 13) : qm_MI l G jy_Press_columnsOfNote prog_5_method_20_code 6 (some .int) 3 66 [.ref (G.1 this), .int p1] (jf_Press_columnsOfNote this p1) :=
  qm_metI (by decide +kernel) jd_Press_columnsOfNote (fun v hv => by simp only [List.mem_cons, List.not_mem_nil, or_false] at hv; rcases hv with rfl | rfl <;> rfl) (by exact Nat.le_of_ble_eq_true rfl) hG rfl (fun X hl hg hX r0 σ0 hR => by subst hl; subst hg; exact jb_Press_columnsOfNote hX hR this p1 hthis)
def jl_Run_takes : List qm_I := [(0, .iload_n 0, 1, 1), (1, .ifCond .lt 31, 3, 4), (4, .iload_n 0, 1, 5), (5, .bipush 8, 2, 7), (7, .if_icmp .ge 25, 3, 10), (10, .iload_n 1, 1, 11), (11, .getstatic 21, 3, 14), (14, .iload_n 0, 1, 15), (15, .iaload, 1, 16), (16, .if_icmp .lt 16, 3, 19), (19, .iload_n 1, 1, 20), (20, .getstatic 24, 3, 23), (23, .iload_n 0, 1, 24), (24, .iaload, 1, 25), (25, .if_icmp .gt 7, 3, 28), (28, .iconst 1, 1, 29), (29, .goto 4, 3, 32), (32, .iconst 0, 1, 33), (33, .ireturn, 1, 34)]
theorem jd_Run_takes : qm_D prog_6_method_2_code jl_Run_takes := qm_D_of (by decide +kernel)
noncomputable def jf_Run_takes (p1 : Int32) (p2 : Int32) : qm_M Int32 :=
  if p1 < 0 then
    mP 0
  else
    if 8 ≤ p1 then
      mP 0
    else
      mB (mLd 406 p1) fun x1 =>
      if p2 < x1 then
        mP 0
      else
        mB (mLd 407 p1) fun x2 =>
        if x2 < p2 then
          mP 0
        else
          mP 1
set_option maxRecDepth 20000 in
set_option maxHeartbeats 4000000 in
theorem jb_Run_takes {X : qm_X} (hX : qm_ok X qr_Run prog_6_method_2_code 2 0 0 jl_Run_takes) {r0 : Int32} {σ0 : qm_Mem} (hR : qm_RI X r0 σ0 .boolean) (p1 : Int32) (p2 : Int32)  : qm_B X (jf_Run_takes p1 p2) 0 [some (.int p1), some (.int p2)] [] (fun r σ1 => r = r0 ∧ σ1 = σ0) := by
  unfold jf_Run_takes
  refine qb_iload_n hX 0 rfl rfl ?_
  refine qb_iflt hX 1 32 rfl (by decide) ?_ ?_
  ·
    refine qb_iconst hX 17 0 rfl (by decide) ?_
    exact qb_zret1 hX 18 rfl hR (by decide) (fun _ h => h)
  ·
    refine qb_iload_n hX 2 rfl rfl ?_
    refine qb_bipush hX 3 8 rfl (by decide) ?_
    refine qb_icge hX 4 32 rfl (by decide) ?_ ?_
    ·
      refine qb_iconst hX 17 0 rfl (by decide) ?_
      exact qb_zret1 hX 18 rfl hR (by decide) (fun _ h => h)
    ·
      refine qb_iload_n hX 5 rfl rfl ?_
      refine qb_getsN hX 6 (n := "SETTING_LEAST") 406 rfl (by decide +kernel) (by decide +kernel) ?_
      refine qb_iload_n hX 7 rfl rfl ?_
      refine qb_iald hX 8 rfl (rfl : (qm_kd 406).1 = 1) (fun x1 => ?_)
      refine qb_iclt hX 9 32 rfl (by decide) ?_ ?_
      ·
        refine qb_iconst hX 17 0 rfl (by decide) ?_
        exact qb_zret1 hX 18 rfl hR (by decide) (fun _ h => h)
      ·
        refine qb_iload_n hX 10 rfl rfl ?_
        refine qb_getsN hX 11 (n := "SETTING_MOST") 407 rfl (by decide +kernel) (by decide +kernel) ?_
        refine qb_iload_n hX 12 rfl rfl ?_
        refine qb_iald hX 13 rfl (rfl : (qm_kd 407).1 = 1) (fun x2 => ?_)
        refine qb_icgt hX 14 32 rfl (by decide) ?_ ?_
        ·
          refine qb_iconst hX 17 0 rfl (by decide) ?_
          exact qb_zret1 hX 18 rfl hR (by decide) (fun _ h => h)
        ·
          refine qb_iconst hX 15 1 rfl (by decide) ?_
          refine qb_goto hX 16 (tgt := 33) rfl (by decide) ?_
          exact qb_zret1 hX 18 rfl hR (by decide) (fun _ h => h)
theorem jm_Run_takes {l : Launch} {G : qm_G} (hG : qm_GI G) (p1 : Int32) (p2 : Int32)  : qm_MI l G jy_Run_takes prog_6_method_2_code 2 (some .boolean) 0 0 [.int p1, .int p2] (jf_Run_takes p1 p2) :=
  qm_metI (by decide +kernel) jd_Run_takes (fun v hv => by simp only [List.mem_cons, List.not_mem_nil, or_false] at hv; rcases hv with rfl | rfl <;> rfl) (by exact Nat.le_of_ble_eq_true rfl) hG rfl (fun X hl hg hX r0 σ0 hR => by subst hl; subst hg; exact jb_Run_takes hX hR p1 p2 )
def jl_Run_clear : List qm_I := [(0, .aload_n 0, 1, 1), (1, .iconst 0, 1, 2), (2, .putfield 27, 3, 5), (5, .iconst 0, 1, 6), (6, .istore_n 1, 1, 7), (7, .iload_n 1, 1, 8), (8, .bipush 8, 2, 10), (10, .if_icmp .ge 20, 3, 13), (13, .aload_n 0, 1, 14), (14, .getfield 11, 3, 17), (17, .iload_n 1, 1, 18), (18, .getstatic 31, 3, 21), (21, .iload_n 1, 1, 22), (22, .iaload, 1, 23), (23, .iastore, 1, 24), (24, .iinc 1 1, 3, 27), (27, .goto (-20), 3, 30), (30, .return_, 1, 31)]
theorem jd_Run_clear : qm_D prog_6_method_3_code jl_Run_clear := qm_D_of (by decide +kernel)
noncomputable def jf_Run_clear (this : Nat) : qm_M Unit :=
  mB (mPt this 0 0) fun _ =>
  mB (α := Unit) (
    mW (S := Int32) (α := Unit) (fun s2 =>
      if 8 ≤ s2 then
        mP (Sum.inr ())
      else
        mB (mLd 405 s2) fun x3 =>
        mB (mSt (qm_rf this 1) s2 x3) fun _ =>
        mB (mP (s2 + 1)) fun x4 =>
        mP (Sum.inl x4)) 0) fun s1 =>
  mP ()
set_option maxRecDepth 20000 in
set_option maxHeartbeats 4000000 in
theorem jb_Run_clear {X : qm_X} (hX : qm_ok X qr_Run prog_6_method_3_code 2 0 0 jl_Run_clear) {σ0 : qm_Mem} (hR : qm_RV X σ0) (this : Nat) (hthis : (qm_kd this).1 = 14) : qm_B X (jf_Run_clear this) 0 [some (.ref (qx_ad X this)), none] [] (fun _ σ1 => σ1 = σ0) := by
  unfold jf_Run_clear
  refine qb_aload_n hX 0 rfl rfl ?_
  refine qb_iconst hX 1 0 rfl (by decide) ?_
  refine qb_put hX 2 rfl fp_Run_27 hthis ?_
  refine qb_iconst hX 3 0 rfl (by decide) ?_
  refine qb_istore_n hX 4 ([some (.ref (qx_ad X this)), some (.int 0)]) rfl (by decide) rfl ?_
  refine qb_join 30 (fun s1 => [none, none]) (fun s1 => []) ?_ ?_
  ·
    refine qb_loopw (0) (fun s2 => [some (.ref (qx_ad X this)), some (.int s2)]) (qw_s (qw_s (qw_0))) (fun s2 => ?_)
    refine qb_iload_n hX 5 rfl rfl ?_
    refine qb_bipush hX 6 8 rfl (by decide) ?_
    refine qb_icge hX 7 30 rfl (by decide) ?_ ?_
    ·
      exact qb_exit (fun σ h => qj_wk (ρ' := [none, none]) (qw_n (qw_n (qw_0))) h)
    ·
      refine qb_aload_n hX 8 rfl rfl ?_
      refine qb_getR hX 9 rfl fl_Run_11 hthis rfl ?_
      refine qb_iload_n hX 10 rfl rfl ?_
      refine qb_getsN hX 11 (n := "SETTING_FIRST") 405 rfl (by decide +kernel) (by decide +kernel) ?_
      refine qb_iload_n hX 12 rfl rfl ?_
      refine qb_iald hX 13 rfl (rfl : (qm_kd 405).1 = 1) (fun x3 => ?_)
      refine qb_iast hX 14 rfl (kf_Run_1 hthis) ?_
      refine qb_iinc hX 15 1 (fun x4 => [some (.ref (qx_ad X this)), some (.int x4)]) rfl (by decide) (by decide) rfl (fun _ => rfl) (fun x4 => ?_)
      exact qb_exit (fun σ h => qj_goto hX 16 rfl (by decide) (qj_wk (ρ' := [some (.ref (qx_ad X this)), some (.int x4)]) (qw_s (qw_s (qw_0))) h))
  · intro s1
    exact qb_vret hX 17 rfl hR (fun _ h => h)
theorem jm_Run_clear {l : Launch} {G : qm_G} (hG : qm_GI G) (this : Nat) (hthis : (qm_kd this).1 = 14) : qm_MV l G jy_Run_clear prog_6_method_3_code 2 0 0 [.ref (G.1 this)] (jf_Run_clear this) :=
  qm_metV (by decide +kernel) jd_Run_clear (fun v hv => by simp only [List.mem_cons, List.not_mem_nil, or_false] at hv; rcases hv with rfl <;> rfl) (by exact Nat.le_of_ble_eq_true rfl) hG (fun X hl hg hX σ0 hR => by subst hl; subst hg; exact jb_Run_clear hX hR this hthis)
def jl_Run_put : List qm_I := [(0, .iload_n 1, 1, 1), (1, .iload_n 2, 1, 2), (2, .invokestatic 34, 3, 5), (5, .ifCond .eq 10, 3, 8), (8, .aload_n 0, 1, 9), (9, .getfield 11, 3, 12), (12, .iload_n 1, 1, 13), (13, .iload_n 2, 1, 14), (14, .iastore, 1, 15), (15, .return_, 1, 16)]
theorem jd_Run_put : qm_D prog_6_method_6_code jl_Run_put := qm_D_of (by decide +kernel)
noncomputable def jf_Run_put (this : Nat) (p1 : Int32) (p2 : Int32) : qm_M Unit :=
  mB (jf_Run_takes p1 p2) fun x1 =>
  if x1 = 0 then
    mP ()
  else
    mB (mSt (qm_rf this 1) p1 p2) fun _ =>
    mP ()
set_option maxRecDepth 20000 in
set_option maxHeartbeats 4000000 in
theorem jb_Run_put {X : qm_X} (hX : qm_ok X qr_Run prog_6_method_6_code 3 1 21 jl_Run_put) {σ0 : qm_Mem} (hR : qm_RV X σ0) (this : Nat) (p1 : Int32) (p2 : Int32) (hthis : (qm_kd this).1 = 14) : qm_B X (jf_Run_put this p1 p2) 0 [some (.ref (qx_ad X this)), some (.int p1), some (.int p2)] [] (fun _ σ1 => σ1 = σ0) := by
  unfold jf_Run_put
  refine qb_iload_n hX 0 rfl rfl ?_
  refine qb_iload_n hX 1 rfl rfl ?_
  refine qb_calSI hX 2 rfl cv_Run_34 (jm_Run_takes (qk_GI hX) p1 p2 ) ⟨rfl, by decide, by decide⟩ rfl (by exact Nat.le_of_ble_eq_true rfl) (fun x1 => ?_)
  refine qb_ifeq hX 3 15 rfl (by decide) ?_ ?_
  ·
    exact qb_vret hX 9 rfl hR (fun _ h => h)
  ·
    refine qb_aload_n hX 4 rfl rfl ?_
    refine qb_getR hX 5 rfl fl_Run_11 hthis rfl ?_
    refine qb_iload_n hX 6 rfl rfl ?_
    refine qb_iload_n hX 7 rfl rfl ?_
    refine qb_iast hX 8 rfl (kf_Run_1 hthis) ?_
    exact qb_vret hX 9 rfl hR (fun _ h => h)
theorem jm_Run_put {l : Launch} {G : qm_G} (hG : qm_GI G) (this : Nat) (p1 : Int32) (p2 : Int32) (hthis : (qm_kd this).1 = 14) : qm_MV l G jy_Run_put prog_6_method_6_code 3 1 21 [.ref (G.1 this), .int p1, .int p2] (jf_Run_put this p1 p2) :=
  qm_metV (by decide +kernel) jd_Run_put (fun v hv => by simp only [List.mem_cons, List.not_mem_nil, or_false] at hv; rcases hv with rfl | rfl | rfl <;> rfl) (by exact Nat.le_of_ble_eq_true rfl) hG (fun X hl hg hX σ0 hR => by subst hl; subst hg; exact jb_Run_put hX hR this p1 p2 hthis)
def jl_Run_has : List qm_I := [(0, .iload_n 1, 1, 1), (1, .ifCond .lt 15, 3, 4), (4, .iload_n 1, 1, 5), (5, .aload_n 0, 1, 6), (6, .getfield 27, 3, 9), (9, .if_icmp .ge 7, 3, 12), (12, .iconst 1, 1, 13), (13, .goto 4, 3, 16), (16, .iconst 0, 1, 17), (17, .ireturn, 1, 18)]
theorem jd_Run_has : qm_D prog_6_method_7_code jl_Run_has := qm_D_of (by decide +kernel)
noncomputable def jf_Run_has (this : Nat) (p1 : Int32) : qm_M Int32 :=
  if p1 < 0 then
    mP 0
  else
    mB (mGt this 0) fun x1 =>
    if x1 ≤ p1 then
      mP 0
    else
      mP 1
set_option maxRecDepth 20000 in
set_option maxHeartbeats 4000000 in
theorem jb_Run_has {X : qm_X} (hX : qm_ok X qr_Run prog_6_method_7_code 2 0 0 jl_Run_has) {r0 : Int32} {σ0 : qm_Mem} (hR : qm_RI X r0 σ0 .boolean) (this : Nat) (p1 : Int32) (hthis : (qm_kd this).1 = 14) : qm_B X (jf_Run_has this p1) 0 [some (.ref (qx_ad X this)), some (.int p1)] [] (fun r σ1 => r = r0 ∧ σ1 = σ0) := by
  unfold jf_Run_has
  refine qb_iload_n hX 0 rfl rfl ?_
  refine qb_iflt hX 1 16 rfl (by decide) ?_ ?_
  ·
    refine qb_iconst hX 8 0 rfl (by decide) ?_
    exact qb_zret1 hX 9 rfl hR (by decide) (fun _ h => h)
  ·
    refine qb_iload_n hX 2 rfl rfl ?_
    refine qb_aload_n hX 3 rfl rfl ?_
    refine qb_get hX 4 rfl fl_Run_27 hthis rfl (fun x1 => ?_)
    refine qb_icge hX 5 16 rfl (by decide) ?_ ?_
    ·
      refine qb_iconst hX 8 0 rfl (by decide) ?_
      exact qb_zret1 hX 9 rfl hR (by decide) (fun _ h => h)
    ·
      refine qb_iconst hX 6 1 rfl (by decide) ?_
      refine qb_goto hX 7 (tgt := 17) rfl (by decide) ?_
      exact qb_zret1 hX 9 rfl hR (by decide) (fun _ h => h)
theorem jm_Run_has {l : Launch} {G : qm_G} (hG : qm_GI G) (this : Nat) (p1 : Int32) (hthis : (qm_kd this).1 = 14) : qm_MI l G jy_Run_has prog_6_method_7_code 2 (some .boolean) 0 0 [.ref (G.1 this), .int p1] (jf_Run_has this p1) :=
  qm_metI (by decide +kernel) jd_Run_has (fun v hv => by simp only [List.mem_cons, List.not_mem_nil, or_false] at hv; rcases hv with rfl | rfl <;> rfl) (by exact Nat.le_of_ble_eq_true rfl) hG rfl (fun X hl hg hX r0 σ0 hR => by subst hl; subst hg; exact jb_Run_has hX hR this p1 hthis)
def jl_Run_hasPieces : List qm_I := [(0, .aload_n 0, 1, 1), (1, .iload_n 1, 1, 2), (2, .invokevirtual 38, 3, 5), (5, .ifCond .eq 17, 3, 8), (8, .aload_n 0, 1, 9), (9, .iload_n 1, 1, 10), (10, .iconst 0, 1, 11), (11, .invokevirtual 42, 3, 14), (14, .iconst 4, 1, 15), (15, .if_icmp .eq 7, 3, 18), (18, .iconst 1, 1, 19), (19, .goto 4, 3, 22), (22, .iconst 0, 1, 23), (23, .ireturn, 1, 24)]
theorem jd_Run_hasPieces : qm_D prog_6_method_8_code jl_Run_hasPieces := qm_D_of (by decide +kernel)
noncomputable def jf_Run_hasPieces (this : Nat) (p1 : Int32) : qm_M Int32 :=
  mB (jf_Run_has this p1) fun x1 =>
  if x1 = 0 then
    mP 0
  else
    mB (jf_Run_cell this p1 0) fun x2 =>
    if x2 = 4 then
      mP 0
    else
      mP 1
set_option maxRecDepth 20000 in
set_option maxHeartbeats 4000000 in
theorem jb_Run_hasPieces {X : qm_X} (hX : qm_ok X qr_Run prog_6_method_8_code 2 1 22 jl_Run_hasPieces) {r0 : Int32} {σ0 : qm_Mem} (hR : qm_RI X r0 σ0 .boolean) (this : Nat) (p1 : Int32) (hthis : (qm_kd this).1 = 14) : qm_B X (jf_Run_hasPieces this p1) 0 [some (.ref (qx_ad X this)), some (.int p1)] [] (fun r σ1 => r = r0 ∧ σ1 = σ0) := by
  unfold jf_Run_hasPieces
  refine qb_aload_n hX 0 rfl rfl ?_
  refine qb_iload_n hX 1 rfl rfl ?_
  refine qb_callI hX 2 rfl cv_Run_38 (jm_Run_has (qk_GI hX) this p1 hthis ) (ci := 4) hthis ⟨rfl, rfl, rfl, by decide, by decide⟩ rfl (by exact Nat.le_of_ble_eq_true rfl) (fun x1 => ?_)
  refine qb_ifeq hX 3 22 rfl (by decide) ?_ ?_
  ·
    refine qb_iconst hX 12 0 rfl (by decide) ?_
    exact qb_zret1 hX 13 rfl hR (by decide) (fun _ h => h)
  ·
    refine qb_aload_n hX 4 rfl rfl ?_
    refine qb_iload_n hX 5 rfl rfl ?_
    refine qb_iconst hX 6 0 rfl (by decide) ?_
    refine qb_callI hX 7 rfl cv_Run_42 (jm_Run_cell (qk_GI hX) this p1 0 hthis ) (ci := 4) hthis ⟨rfl, rfl, rfl, by decide, by decide⟩ rfl (by exact Nat.le_of_ble_eq_true rfl) (fun x2 => ?_)
    refine qb_iconst hX 8 4 rfl (by decide) ?_
    refine qb_iceq hX 9 22 rfl (by decide) ?_ ?_
    ·
      refine qb_iconst hX 12 0 rfl (by decide) ?_
      exact qb_zret1 hX 13 rfl hR (by decide) (fun _ h => h)
    ·
      refine qb_iconst hX 10 1 rfl (by decide) ?_
      refine qb_goto hX 11 (tgt := 23) rfl (by decide) ?_
      exact qb_zret1 hX 13 rfl hR (by decide) (fun _ h => h)
theorem jm_Run_hasPieces {l : Launch} {G : qm_G} (hG : qm_GI G) (this : Nat) (p1 : Int32) (hthis : (qm_kd this).1 = 14) : qm_MI l G jy_Run_hasPieces prog_6_method_8_code 2 (some .boolean) 1 22 [.ref (G.1 this), .int p1] (jf_Run_hasPieces this p1) :=
  qm_metI (by decide +kernel) jd_Run_hasPieces (fun v hv => by simp only [List.mem_cons, List.not_mem_nil, or_false] at hv; rcases hv with rfl | rfl <;> rfl) (by exact Nat.le_of_ble_eq_true rfl) hG rfl (fun X hl hg hX r0 σ0 hR => by subst hl; subst hg; exact jb_Run_hasPieces hX hR this p1 hthis)
def jl_Run_putCell : List qm_I := [(0, .iload_n 1, 1, 1), (1, .ifCond .lt 31, 3, 4), (4, .iload_n 1, 1, 5), (5, .bipush 16, 2, 7), (7, .if_icmp .ge 25, 3, 10), (10, .iload_n 2, 1, 11), (11, .ifCond .lt 21, 3, 14), (14, .iload_n 2, 1, 15), (15, .bipush 16, 2, 17), (17, .if_icmp .ge 15, 3, 20), (20, .aload_n 0, 1, 21), (21, .getfield 15, 3, 24), (24, .iload_n 1, 1, 25), (25, .bipush 16, 2, 27), (27, .imul, 1, 28), (28, .iload_n 2, 1, 29), (29, .iadd, 1, 30), (30, .iload_n 3, 1, 31), (31, .iastore, 1, 32), (32, .return_, 1, 33)]
theorem jd_Run_putCell : qm_D prog_6_method_10_code jl_Run_putCell := qm_D_of (by decide +kernel)
noncomputable def jf_Run_putCell (this : Nat) (p1 : Int32) (p2 : Int32) (p3 : Int32) : qm_M Unit :=
  if p1 < 0 then
    mP ()
  else
    if 16 ≤ p1 then
      mP ()
    else
      if p2 < 0 then
        mP ()
      else
        if 16 ≤ p2 then
          mP ()
        else
          mB (mSt (qm_rf this 2) ((p1 * 16) + p2) p3) fun _ =>
          mP ()
set_option maxRecDepth 20000 in
set_option maxHeartbeats 4000000 in
theorem jb_Run_putCell {X : qm_X} (hX : qm_ok X qr_Run prog_6_method_10_code 4 0 0 jl_Run_putCell) {σ0 : qm_Mem} (hR : qm_RV X σ0) (this : Nat) (p1 : Int32) (p2 : Int32) (p3 : Int32) (hthis : (qm_kd this).1 = 14) : qm_B X (jf_Run_putCell this p1 p2 p3) 0 [some (.ref (qx_ad X this)), some (.int p1), some (.int p2), some (.int p3)] [] (fun _ σ1 => σ1 = σ0) := by
  unfold jf_Run_putCell
  refine qb_iload_n hX 0 rfl rfl ?_
  refine qb_iflt hX 1 32 rfl (by decide) ?_ ?_
  ·
    exact qb_vret hX 19 rfl hR (fun _ h => h)
  ·
    refine qb_iload_n hX 2 rfl rfl ?_
    refine qb_bipush hX 3 16 rfl (by decide) ?_
    refine qb_icge hX 4 32 rfl (by decide) ?_ ?_
    ·
      exact qb_vret hX 19 rfl hR (fun _ h => h)
    ·
      refine qb_iload_n hX 5 rfl rfl ?_
      refine qb_iflt hX 6 32 rfl (by decide) ?_ ?_
      ·
        exact qb_vret hX 19 rfl hR (fun _ h => h)
      ·
        refine qb_iload_n hX 7 rfl rfl ?_
        refine qb_bipush hX 8 16 rfl (by decide) ?_
        refine qb_icge hX 9 32 rfl (by decide) ?_ ?_
        ·
          exact qb_vret hX 19 rfl hR (fun _ h => h)
        ·
          refine qb_aload_n hX 10 rfl rfl ?_
          refine qb_getR hX 11 rfl fl_Run_15 hthis rfl ?_
          refine qb_iload_n hX 12 rfl rfl ?_
          refine qb_bipush hX 13 16 rfl (by decide) ?_
          refine qb_imul hX 14 rfl ?_
          refine qb_iload_n hX 15 rfl rfl ?_
          refine qb_iadd hX 16 rfl ?_
          refine qb_iload_n hX 17 rfl rfl ?_
          refine qb_iast hX 18 rfl (kf_Run_2 hthis) ?_
          exact qb_vret hX 19 rfl hR (fun _ h => h)
theorem jm_Run_putCell {l : Launch} {G : qm_G} (hG : qm_GI G) (this : Nat) (p1 : Int32) (p2 : Int32) (p3 : Int32) (hthis : (qm_kd this).1 = 14) : qm_MV l G jy_Run_putCell prog_6_method_10_code 4 0 0 [.ref (G.1 this), .int p1, .int p2, .int p3] (jf_Run_putCell this p1 p2 p3) :=
  qm_metV (by decide +kernel) jd_Run_putCell (fun v hv => by simp only [List.mem_cons, List.not_mem_nil, or_false] at hv; rcases hv with rfl | rfl | rfl | rfl <;> rfl) (by exact Nat.le_of_ble_eq_true rfl) hG (fun X hl hg hX σ0 hR => by subst hl; subst hg; exact jb_Run_putCell hX hR this p1 p2 p3 hthis)
def jl_Run_allPieces : List qm_I := [(0, .iconst 0, 1, 1), (1, .istore_n 1, 1, 2), (2, .iconst 0, 1, 3), (3, .istore_n 2, 1, 4), (4, .iload_n 2, 1, 5), (5, .aload_n 0, 1, 6), (6, .getfield 27, 3, 9), (9, .if_icmp .ge 18, 3, 12), (12, .iload_n 1, 1, 13), (13, .aload_n 0, 1, 14), (14, .iload_n 2, 1, 15), (15, .iconst 1, 1, 16), (16, .invokevirtual 42, 3, 19), (19, .iadd, 1, 20), (20, .istore_n 1, 1, 21), (21, .iinc 2 1, 3, 24), (24, .goto (-20), 3, 27), (27, .iload_n 1, 1, 28), (28, .ireturn, 1, 29)]
theorem jd_Run_allPieces : qm_D prog_6_method_11_code jl_Run_allPieces := qm_D_of (by decide +kernel)
noncomputable def jf_Run_allPieces (this : Nat) : qm_M Int32 :=
  mB (α := Int32) (
    mW (S := Int32 × Int32) (α := Int32) (fun s2 =>
      mB (mGt this 0) fun x3 =>
      if x3 ≤ s2.2 then
        mP (Sum.inr s2.1)
      else
        mB (jf_Run_cell this s2.2 1) fun x4 =>
        mB (mP (s2.1 + x4)) fun x5 =>
        mB (mP (s2.2 + 1)) fun x6 =>
        mP (Sum.inl (x5, x6))) (0, 0)) fun s1 =>
  mP s1
set_option maxRecDepth 20000 in
set_option maxHeartbeats 4000000 in
theorem jb_Run_allPieces {X : qm_X} (hX : qm_ok X qr_Run prog_6_method_11_code 3 1 22 jl_Run_allPieces) {r0 : Int32} {σ0 : qm_Mem} (hR : qm_RI X r0 σ0 .int) (this : Nat) (hthis : (qm_kd this).1 = 14) : qm_B X (jf_Run_allPieces this) 0 [some (.ref (qx_ad X this)), none, none] [] (fun r σ1 => r = r0 ∧ σ1 = σ0) := by
  unfold jf_Run_allPieces
  refine qb_iconst hX 0 0 rfl (by decide) ?_
  refine qb_istore_n hX 1 ([some (.ref (qx_ad X this)), some (.int 0), none]) rfl (by decide) rfl ?_
  refine qb_iconst hX 2 0 rfl (by decide) ?_
  refine qb_istore_n hX 3 ([some (.ref (qx_ad X this)), some (.int 0), some (.int 0)]) rfl (by decide) rfl ?_
  refine qb_join 27 (fun s1 => [none, some (.int s1), none]) (fun s1 => []) ?_ ?_
  ·
    refine qb_loopw ((0, 0)) (fun s2 => [some (.ref (qx_ad X this)), some (.int s2.1), some (.int s2.2)]) (qw_s (qw_s (qw_s (qw_0)))) (fun s2 => ?_)
    refine qb_iload_n hX 4 rfl rfl ?_
    refine qb_aload_n hX 5 rfl rfl ?_
    refine qb_get hX 6 rfl fl_Run_27 hthis rfl (fun x3 => ?_)
    refine qb_icge hX 7 27 rfl (by decide) ?_ ?_
    ·
      exact qb_exit (fun σ h => qj_wk (ρ' := [none, some (.int s2.1), none]) (qw_n (qw_s (qw_n (qw_0)))) h)
    ·
      refine qb_iload_n hX 8 rfl rfl ?_
      refine qb_aload_n hX 9 rfl rfl ?_
      refine qb_iload_n hX 10 rfl rfl ?_
      refine qb_iconst hX 11 1 rfl (by decide) ?_
      refine qb_callI hX 12 rfl cv_Run_42 (jm_Run_cell (qk_GI hX) this s2.2 1 hthis ) (ci := 4) hthis ⟨rfl, rfl, rfl, by decide, by decide⟩ rfl (by exact Nat.le_of_ble_eq_true rfl) (fun x4 => ?_)
      refine qb_iadd hX 13 rfl ?_
      refine qb_istore_nL hX 14 (fun x5 => [some (.ref (qx_ad X this)), some (.int x5), some (.int s2.2)]) rfl (by decide) (fun _ => rfl) (fun x5 => ?_)
      refine qb_iinc hX 15 1 (fun x6 => [some (.ref (qx_ad X this)), some (.int x5), some (.int x6)]) rfl (by decide) (by decide) rfl (fun _ => rfl) (fun x6 => ?_)
      exact qb_exit (fun σ h => qj_goto hX 16 rfl (by decide) (qj_wk (ρ' := [some (.ref (qx_ad X this)), some (.int x5), some (.int x6)]) (qw_s (qw_s (qw_s (qw_0)))) h))
  · intro s1
    refine qb_iload_n hX 17 rfl rfl ?_
    exact qb_iret hX 18 rfl hR (fun _ h => h)
theorem jm_Run_allPieces {l : Launch} {G : qm_G} (hG : qm_GI G) (this : Nat) (hthis : (qm_kd this).1 = 14) : qm_MI l G jy_Run_allPieces prog_6_method_11_code 3 (some .int) 1 22 [.ref (G.1 this)] (jf_Run_allPieces this) :=
  qm_metI (by decide +kernel) jd_Run_allPieces (fun v hv => by simp only [List.mem_cons, List.not_mem_nil, or_false] at hv; rcases hv with rfl <;> rfl) (by exact Nat.le_of_ble_eq_true rfl) hG rfl (fun X hl hg hX r0 σ0 hR => by subst hl; subst hg; exact jb_Run_allPieces hX hR this hthis)
def jl_Run_add : List qm_I := [(0, .aload_n 0, 1, 1), (1, .getfield 27, 3, 4), (4, .istore_n 2, 1, 5), (5, .iload_n 2, 1, 6), (6, .bipush 16, 2, 8), (8, .if_icmp .ge 41, 3, 11), (11, .iconst 0, 1, 12), (12, .istore_n 3, 1, 13), (13, .iload_n 3, 1, 14), (14, .bipush 16, 2, 16), (16, .if_icmp .ge 16, 3, 19), (19, .aload_n 0, 1, 20), (20, .iload_n 2, 1, 21), (21, .iload_n 3, 1, 22), (22, .iconst 0, 1, 23), (23, .invokevirtual 46, 3, 26), (26, .iinc 3 1, 3, 29), (29, .goto (-16), 3, 32), (32, .aload_n 0, 1, 33), (33, .iload_n 2, 1, 34), (34, .iconst 0, 1, 35), (35, .iload_n 1, 1, 36), (36, .invokevirtual 46, 3, 39), (39, .aload_n 0, 1, 40), (40, .dup, 1, 41), (41, .getfield 27, 3, 44), (44, .iconst 1, 1, 45), (45, .iadd, 1, 46), (46, .putfield 27, 3, 49), (49, .iload_n 2, 1, 50), (50, .ireturn, 1, 51)]
theorem jd_Run_add : qm_D prog_6_method_12_code jl_Run_add := qm_D_of (by decide +kernel)
noncomputable def jf_Run_add (this : Nat) (p1 : Int32) : qm_M Int32 :=
  mB (mGt this 0) fun x1 =>
  if 16 ≤ x1 then
    mP x1
  else
    mB (α := Unit) (
      mW (S := Int32) (α := Unit) (fun s3 =>
        if 16 ≤ s3 then
          mP (Sum.inr ())
        else
          mB (jf_Run_putCell this x1 s3 0) fun _ =>
          mB (mP (s3 + 1)) fun x4 =>
          mP (Sum.inl x4)) 0) fun s2 =>
    mB (jf_Run_putCell this x1 0 p1) fun _ =>
    mB (mGt this 0) fun x5 =>
    mB (mPt this 0 (x5 + 1)) fun _ =>
    mP x1
set_option maxRecDepth 20000 in
set_option maxHeartbeats 4000000 in
theorem jb_Run_add {X : qm_X} (hX : qm_ok X qr_Run prog_6_method_12_code 4 1 23 jl_Run_add) {r0 : Int32} {σ0 : qm_Mem} (hR : qm_RI X r0 σ0 .int) (this : Nat) (p1 : Int32) (hthis : (qm_kd this).1 = 14) : qm_B X (jf_Run_add this p1) 0 [some (.ref (qx_ad X this)), some (.int p1), none, none] [] (fun r σ1 => r = r0 ∧ σ1 = σ0) := by
  unfold jf_Run_add
  refine qb_aload_n hX 0 rfl rfl ?_
  refine qb_get hX 1 rfl fl_Run_27 hthis rfl (fun x1 => ?_)
  refine qb_istore_n hX 2 ([some (.ref (qx_ad X this)), some (.int p1), some (.int x1), none]) rfl (by decide) rfl ?_
  refine qb_iload_n hX 3 rfl rfl ?_
  refine qb_bipush hX 4 16 rfl (by decide) ?_
  refine qb_icge hX 5 49 rfl (by decide) ?_ ?_
  ·
    refine qb_iload_n hX 29 rfl rfl ?_
    exact qb_iret hX 30 rfl hR (fun _ h => h)
  ·
    refine qb_iconst hX 6 0 rfl (by decide) ?_
    refine qb_istore_n hX 7 ([some (.ref (qx_ad X this)), some (.int p1), some (.int x1), some (.int 0)]) rfl (by decide) rfl ?_
    refine qb_join 32 (fun s2 => [some (.ref (qx_ad X this)), some (.int p1), some (.int x1), none]) (fun s2 => []) ?_ ?_
    ·
      refine qb_loopw (0) (fun s3 => [some (.ref (qx_ad X this)), some (.int p1), some (.int x1), some (.int s3)]) (qw_s (qw_s (qw_s (qw_s (qw_0))))) (fun s3 => ?_)
      refine qb_iload_n hX 8 rfl rfl ?_
      refine qb_bipush hX 9 16 rfl (by decide) ?_
      refine qb_icge hX 10 32 rfl (by decide) ?_ ?_
      ·
        exact qb_exit (fun σ h => qj_wk (ρ' := [some (.ref (qx_ad X this)), some (.int p1), some (.int x1), none]) (qw_s (qw_s (qw_s (qw_n (qw_0))))) h)
      ·
        refine qb_aload_n hX 11 rfl rfl ?_
        refine qb_iload_n hX 12 rfl rfl ?_
        refine qb_iload_n hX 13 rfl rfl ?_
        refine qb_iconst hX 14 0 rfl (by decide) ?_
        refine qb_callV hX 15 rfl cv_Run_46 (jm_Run_putCell (qk_GI hX) this x1 s3 0 hthis ) (ci := 4) hthis ⟨rfl, rfl, rfl, by decide, by decide⟩ rfl (by exact Nat.le_of_ble_eq_true rfl) ?_
        refine qb_iinc hX 16 1 (fun x4 => [some (.ref (qx_ad X this)), some (.int p1), some (.int x1), some (.int x4)]) rfl (by decide) (by decide) rfl (fun _ => rfl) (fun x4 => ?_)
        exact qb_exit (fun σ h => qj_goto hX 17 rfl (by decide) (qj_wk (ρ' := [some (.ref (qx_ad X this)), some (.int p1), some (.int x1), some (.int x4)]) (qw_s (qw_s (qw_s (qw_s (qw_0))))) h))
    · intro s2
      refine qb_aload_n hX 18 rfl rfl ?_
      refine qb_iload_n hX 19 rfl rfl ?_
      refine qb_iconst hX 20 0 rfl (by decide) ?_
      refine qb_iload_n hX 21 rfl rfl ?_
      refine qb_callV hX 22 rfl cv_Run_46 (jm_Run_putCell (qk_GI hX) this x1 0 p1 hthis ) (ci := 4) hthis ⟨rfl, rfl, rfl, by decide, by decide⟩ rfl (by exact Nat.le_of_ble_eq_true rfl) ?_
      refine qb_aload_n hX 23 rfl rfl ?_
      refine qb_dup hX 24 rfl rfl ?_
      refine qb_get hX 25 rfl fl_Run_27 hthis rfl (fun x5 => ?_)
      refine qb_iconst hX 26 1 rfl (by decide) ?_
      refine qb_iadd hX 27 rfl ?_
      refine qb_put hX 28 rfl fp_Run_27 hthis ?_
      refine qb_iload_n hX 29 rfl rfl ?_
      exact qb_iret hX 30 rfl hR (fun _ h => h)
theorem jm_Run_add {l : Launch} {G : qm_G} (hG : qm_GI G) (this : Nat) (p1 : Int32) (hthis : (qm_kd this).1 = 14) : qm_MI l G jy_Run_add prog_6_method_12_code 4 (some .int) 1 23 [.ref (G.1 this), .int p1] (jf_Run_add this p1) :=
  qm_metI (by decide +kernel) jd_Run_add (fun v hv => by simp only [List.mem_cons, List.not_mem_nil, or_false] at hv; rcases hv with rfl | rfl <;> rfl) (by exact Nat.le_of_ble_eq_true rfl) hG rfl (fun X hl hg hX r0 σ0 hR => by subst hl; subst hg; exact jb_Run_add hX hR this p1 hthis)
def jl_Run_exchange : List qm_I := [(0, .iconst 0, 1, 1), (1, .istore_n 3, 1, 2), (2, .iload_n 3, 1, 3), (3, .bipush 16, 2, 5), (5, .if_icmp .ge 37, 3, 8), (8, .aload_n 0, 1, 9), (9, .iload_n 1, 1, 10), (10, .iload_n 3, 1, 11), (11, .invokevirtual 42, 3, 14), (14, .istore 4, 2, 16), (16, .aload_n 0, 1, 17), (17, .iload_n 1, 1, 18), (18, .iload_n 3, 1, 19), (19, .aload_n 0, 1, 20), (20, .iload_n 2, 1, 21), (21, .iload_n 3, 1, 22), (22, .invokevirtual 42, 3, 25), (25, .invokevirtual 46, 3, 28), (28, .aload_n 0, 1, 29), (29, .iload_n 2, 1, 30), (30, .iload_n 3, 1, 31), (31, .iload 4, 2, 33), (33, .invokevirtual 46, 3, 36), (36, .iinc 3 1, 3, 39), (39, .goto (-37), 3, 42), (42, .return_, 1, 43)]
theorem jd_Run_exchange : qm_D prog_6_method_13_code jl_Run_exchange := qm_D_of (by decide +kernel)
noncomputable def jf_Run_exchange (this : Nat) (p1 : Int32) (p2 : Int32) : qm_M Unit :=
  mB (α := Unit) (
    mW (S := Int32) (α := Unit) (fun s2 =>
      if 16 ≤ s2 then
        mP (Sum.inr ())
      else
        mB (jf_Run_cell this p1 s2) fun x3 =>
        mB (jf_Run_cell this p2 s2) fun x4 =>
        mB (jf_Run_putCell this p1 s2 x4) fun _ =>
        mB (jf_Run_putCell this p2 s2 x3) fun _ =>
        mB (mP (s2 + 1)) fun x5 =>
        mP (Sum.inl x5)) 0) fun s1 =>
  mP ()
set_option maxRecDepth 20000 in
set_option maxHeartbeats 4000000 in
theorem jb_Run_exchange {X : qm_X} (hX : qm_ok X qr_Run prog_6_method_13_code 5 1 23 jl_Run_exchange) {σ0 : qm_Mem} (hR : qm_RV X σ0) (this : Nat) (p1 : Int32) (p2 : Int32) (hthis : (qm_kd this).1 = 14) : qm_B X (jf_Run_exchange this p1 p2) 0 [some (.ref (qx_ad X this)), some (.int p1), some (.int p2), none, none] [] (fun _ σ1 => σ1 = σ0) := by
  unfold jf_Run_exchange
  refine qb_iconst hX 0 0 rfl (by decide) ?_
  refine qb_istore_n hX 1 ([some (.ref (qx_ad X this)), some (.int p1), some (.int p2), some (.int 0), none]) rfl (by decide) rfl ?_
  refine qb_join 42 (fun s1 => [none, none, none, none, none]) (fun s1 => []) ?_ ?_
  ·
    refine qb_loopw (0) (fun s2 => [some (.ref (qx_ad X this)), some (.int p1), some (.int p2), some (.int s2), none]) (qw_s (qw_s (qw_s (qw_s (qw_n (qw_0)))))) (fun s2 => ?_)
    refine qb_iload_n hX 2 rfl rfl ?_
    refine qb_bipush hX 3 16 rfl (by decide) ?_
    refine qb_icge hX 4 42 rfl (by decide) ?_ ?_
    ·
      exact qb_exit (fun σ h => qj_wk (ρ' := [none, none, none, none, none]) (qw_n (qw_n (qw_n (qw_n (qw_n (qw_0)))))) h)
    ·
      refine qb_aload_n hX 5 rfl rfl ?_
      refine qb_iload_n hX 6 rfl rfl ?_
      refine qb_iload_n hX 7 rfl rfl ?_
      refine qb_callI hX 8 rfl cv_Run_42 (jm_Run_cell (qk_GI hX) this p1 s2 hthis ) (ci := 4) hthis ⟨rfl, rfl, rfl, by decide, by decide⟩ rfl (by exact Nat.le_of_ble_eq_true rfl) (fun x3 => ?_)
      refine qb_istore hX 9 ([some (.ref (qx_ad X this)), some (.int p1), some (.int p2), some (.int s2), some (.int x3)]) rfl (by decide) rfl ?_
      refine qb_aload_n hX 10 rfl rfl ?_
      refine qb_iload_n hX 11 rfl rfl ?_
      refine qb_iload_n hX 12 rfl rfl ?_
      refine qb_aload_n hX 13 rfl rfl ?_
      refine qb_iload_n hX 14 rfl rfl ?_
      refine qb_iload_n hX 15 rfl rfl ?_
      refine qb_callI hX 16 rfl cv_Run_42 (jm_Run_cell (qk_GI hX) this p2 s2 hthis ) (ci := 4) hthis ⟨rfl, rfl, rfl, by decide, by decide⟩ rfl (by exact Nat.le_of_ble_eq_true rfl) (fun x4 => ?_)
      refine qb_callV hX 17 rfl cv_Run_46 (jm_Run_putCell (qk_GI hX) this p1 s2 x4 hthis ) (ci := 4) hthis ⟨rfl, rfl, rfl, by decide, by decide⟩ rfl (by exact Nat.le_of_ble_eq_true rfl) ?_
      refine qb_aload_n hX 18 rfl rfl ?_
      refine qb_iload_n hX 19 rfl rfl ?_
      refine qb_iload_n hX 20 rfl rfl ?_
      refine qb_iload hX 21 rfl rfl ?_
      refine qb_callV hX 22 rfl cv_Run_46 (jm_Run_putCell (qk_GI hX) this p2 s2 x3 hthis ) (ci := 4) hthis ⟨rfl, rfl, rfl, by decide, by decide⟩ rfl (by exact Nat.le_of_ble_eq_true rfl) ?_
      refine qb_iinc hX 23 1 (fun x5 => [some (.ref (qx_ad X this)), some (.int p1), some (.int p2), some (.int x5), some (.int x3)]) rfl (by decide) (by decide) rfl (fun _ => rfl) (fun x5 => ?_)
      exact qb_exit (fun σ h => qj_goto hX 24 rfl (by decide) (qj_wk (ρ' := [some (.ref (qx_ad X this)), some (.int p1), some (.int p2), some (.int x5), none]) (qw_s (qw_s (qw_s (qw_s (qw_n (qw_0)))))) h))
  · intro s1
    exact qb_vret hX 25 rfl hR (fun _ h => h)
theorem jm_Run_exchange {l : Launch} {G : qm_G} (hG : qm_GI G) (this : Nat) (p1 : Int32) (p2 : Int32) (hthis : (qm_kd this).1 = 14) : qm_MV l G jy_Run_exchange prog_6_method_13_code 5 1 23 [.ref (G.1 this), .int p1, .int p2] (jf_Run_exchange this p1 p2) :=
  qm_metV (by decide +kernel) jd_Run_exchange (fun v hv => by simp only [List.mem_cons, List.not_mem_nil, or_false] at hv; rcases hv with rfl | rfl | rfl <;> rfl) (by exact Nat.le_of_ble_eq_true rfl) hG (fun X hl hg hX σ0 hR => by subst hl; subst hg; exact jb_Run_exchange hX hR this p1 p2 hthis)
def jl_Run_copyCells : List qm_I := [(0, .iconst 0, 1, 1), (1, .istore_n 3, 1, 2), (2, .iload_n 3, 1, 3), (3, .bipush 16, 2, 5), (5, .if_icmp .ge 21, 3, 8), (8, .aload_n 0, 1, 9), (9, .iload_n 2, 1, 10), (10, .iload_n 3, 1, 11), (11, .aload_n 0, 1, 12), (12, .iload_n 1, 1, 13), (13, .iload_n 3, 1, 14), (14, .invokevirtual 42, 3, 17), (17, .invokevirtual 46, 3, 20), (20, .iinc 3 1, 3, 23), (23, .goto (-21), 3, 26), (26, .return_, 1, 27)]
theorem jd_Run_copyCells : qm_D prog_6_method_16_code jl_Run_copyCells := qm_D_of (by decide +kernel)
noncomputable def jf_Run_copyCells (this : Nat) (p1 : Int32) (p2 : Int32) : qm_M Unit :=
  mB (α := Unit) (
    mW (S := Int32) (α := Unit) (fun s2 =>
      if 16 ≤ s2 then
        mP (Sum.inr ())
      else
        mB (jf_Run_cell this p1 s2) fun x3 =>
        mB (jf_Run_putCell this p2 s2 x3) fun _ =>
        mB (mP (s2 + 1)) fun x4 =>
        mP (Sum.inl x4)) 0) fun s1 =>
  mP ()
set_option maxRecDepth 20000 in
set_option maxHeartbeats 4000000 in
theorem jb_Run_copyCells {X : qm_X} (hX : qm_ok X qr_Run prog_6_method_16_code 4 1 23 jl_Run_copyCells) {σ0 : qm_Mem} (hR : qm_RV X σ0) (this : Nat) (p1 : Int32) (p2 : Int32) (hthis : (qm_kd this).1 = 14) : qm_B X (jf_Run_copyCells this p1 p2) 0 [some (.ref (qx_ad X this)), some (.int p1), some (.int p2), none] [] (fun _ σ1 => σ1 = σ0) := by
  unfold jf_Run_copyCells
  refine qb_iconst hX 0 0 rfl (by decide) ?_
  refine qb_istore_n hX 1 ([some (.ref (qx_ad X this)), some (.int p1), some (.int p2), some (.int 0)]) rfl (by decide) rfl ?_
  refine qb_join 26 (fun s1 => [none, none, none, none]) (fun s1 => []) ?_ ?_
  ·
    refine qb_loopw (0) (fun s2 => [some (.ref (qx_ad X this)), some (.int p1), some (.int p2), some (.int s2)]) (qw_s (qw_s (qw_s (qw_s (qw_0))))) (fun s2 => ?_)
    refine qb_iload_n hX 2 rfl rfl ?_
    refine qb_bipush hX 3 16 rfl (by decide) ?_
    refine qb_icge hX 4 26 rfl (by decide) ?_ ?_
    ·
      exact qb_exit (fun σ h => qj_wk (ρ' := [none, none, none, none]) (qw_n (qw_n (qw_n (qw_n (qw_0))))) h)
    ·
      refine qb_aload_n hX 5 rfl rfl ?_
      refine qb_iload_n hX 6 rfl rfl ?_
      refine qb_iload_n hX 7 rfl rfl ?_
      refine qb_aload_n hX 8 rfl rfl ?_
      refine qb_iload_n hX 9 rfl rfl ?_
      refine qb_iload_n hX 10 rfl rfl ?_
      refine qb_callI hX 11 rfl cv_Run_42 (jm_Run_cell (qk_GI hX) this p1 s2 hthis ) (ci := 4) hthis ⟨rfl, rfl, rfl, by decide, by decide⟩ rfl (by exact Nat.le_of_ble_eq_true rfl) (fun x3 => ?_)
      refine qb_callV hX 12 rfl cv_Run_46 (jm_Run_putCell (qk_GI hX) this p2 s2 x3 hthis ) (ci := 4) hthis ⟨rfl, rfl, rfl, by decide, by decide⟩ rfl (by exact Nat.le_of_ble_eq_true rfl) ?_
      refine qb_iinc hX 13 1 (fun x4 => [some (.ref (qx_ad X this)), some (.int p1), some (.int p2), some (.int x4)]) rfl (by decide) (by decide) rfl (fun _ => rfl) (fun x4 => ?_)
      exact qb_exit (fun σ h => qj_goto hX 14 rfl (by decide) (qj_wk (ρ' := [some (.ref (qx_ad X this)), some (.int p1), some (.int p2), some (.int x4)]) (qw_s (qw_s (qw_s (qw_s (qw_0))))) h))
  · intro s1
    exact qb_vret hX 15 rfl hR (fun _ h => h)
theorem jm_Run_copyCells {l : Launch} {G : qm_G} (hG : qm_GI G) (this : Nat) (p1 : Int32) (p2 : Int32) (hthis : (qm_kd this).1 = 14) : qm_MV l G jy_Run_copyCells prog_6_method_16_code 4 1 23 [.ref (G.1 this), .int p1, .int p2] (jf_Run_copyCells this p1 p2) :=
  qm_metV (by decide +kernel) jd_Run_copyCells (fun v hv => by simp only [List.mem_cons, List.not_mem_nil, or_false] at hv; rcases hv with rfl | rfl | rfl <;> rfl) (by exact Nat.le_of_ble_eq_true rfl) hG (fun X hl hg hX σ0 hR => by subst hl; subst hg; exact jb_Run_copyCells hX hR this p1 p2 hthis)
def jl_Run_repeat : List qm_I := [(0, .aload_n 0, 1, 1), (1, .aload_n 0, 1, 2), (2, .iload_n 1, 1, 3), (3, .iconst 0, 1, 4), (4, .invokevirtual 42, 3, 7), (7, .invokevirtual 50, 3, 10), (10, .istore_n 2, 1, 11), (11, .aload_n 0, 1, 12), (12, .iload_n 1, 1, 13), (13, .iload_n 2, 1, 14), (14, .invokevirtual 54, 3, 17), (17, .return_, 1, 18)]
theorem jd_Run_repeat : qm_D prog_6_method_14_code jl_Run_repeat := qm_D_of (by decide +kernel)
noncomputable def jf_Run_repeat (this : Nat) (p1 : Int32) : qm_M Unit :=
  mB (jf_Run_cell this p1 0) fun x1 =>
  mB (jf_Run_add this x1) fun x2 =>
  mB (jf_Run_copyCells this p1 x2) fun _ =>
  mP ()
set_option maxRecDepth 20000 in
set_option maxHeartbeats 4000000 in
theorem jb_Run_repeat {X : qm_X} (hX : qm_ok X qr_Run prog_6_method_14_code 3 2 46 jl_Run_repeat) {σ0 : qm_Mem} (hR : qm_RV X σ0) (this : Nat) (p1 : Int32) (hthis : (qm_kd this).1 = 14) : qm_B X (jf_Run_repeat this p1) 0 [some (.ref (qx_ad X this)), some (.int p1), none] [] (fun _ σ1 => σ1 = σ0) := by
  unfold jf_Run_repeat
  refine qb_aload_n hX 0 rfl rfl ?_
  refine qb_aload_n hX 1 rfl rfl ?_
  refine qb_iload_n hX 2 rfl rfl ?_
  refine qb_iconst hX 3 0 rfl (by decide) ?_
  refine qb_callI hX 4 rfl cv_Run_42 (jm_Run_cell (qk_GI hX) this p1 0 hthis ) (ci := 4) hthis ⟨rfl, rfl, rfl, by decide, by decide⟩ rfl (by exact Nat.le_of_ble_eq_true rfl) (fun x1 => ?_)
  refine qb_callI hX 5 rfl cv_Run_50 (jm_Run_add (qk_GI hX) this x1 hthis ) (ci := 4) hthis ⟨rfl, rfl, rfl, by decide, by decide⟩ rfl (by exact Nat.le_of_ble_eq_true rfl) (fun x2 => ?_)
  refine qb_istore_n hX 6 ([some (.ref (qx_ad X this)), some (.int p1), some (.int x2)]) rfl (by decide) rfl ?_
  refine qb_aload_n hX 7 rfl rfl ?_
  refine qb_iload_n hX 8 rfl rfl ?_
  refine qb_iload_n hX 9 rfl rfl ?_
  refine qb_callV hX 10 rfl cv_Run_54 (jm_Run_copyCells (qk_GI hX) this p1 x2 hthis ) (ci := 4) hthis ⟨rfl, rfl, rfl, by decide, by decide⟩ rfl (by exact Nat.le_of_ble_eq_true rfl) ?_
  exact qb_vret hX 11 rfl hR (fun _ h => h)
theorem jm_Run_repeat {l : Launch} {G : qm_G} (hG : qm_GI G) (this : Nat) (p1 : Int32) (hthis : (qm_kd this).1 = 14) : qm_MV l G jy_Run_repeat prog_6_method_14_code 3 2 46 [.ref (G.1 this), .int p1] (jf_Run_repeat this p1) :=
  qm_metV (by decide +kernel) jd_Run_repeat (fun v hv => by simp only [List.mem_cons, List.not_mem_nil, or_false] at hv; rcases hv with rfl | rfl <;> rfl) (by exact Nat.le_of_ble_eq_true rfl) hG (fun X hl hg hX σ0 hR => by subst hl; subst hg; exact jb_Run_repeat hX hR this p1 hthis)
def jl_Run_remove : List qm_I := [(0, .iload_n 1, 1, 1), (1, .istore_n 2, 1, 2), (2, .iload_n 2, 1, 3), (3, .iconst 1, 1, 4), (4, .iadd, 1, 5), (5, .aload_n 0, 1, 6), (6, .getfield 27, 3, 9), (9, .if_icmp .ge 17, 3, 12), (12, .aload_n 0, 1, 13), (13, .iload_n 2, 1, 14), (14, .iconst 1, 1, 15), (15, .iadd, 1, 16), (16, .iload_n 2, 1, 17), (17, .invokevirtual 54, 3, 20), (20, .iinc 2 1, 3, 23), (23, .goto (-21), 3, 26), (26, .aload_n 0, 1, 27), (27, .dup, 1, 28), (28, .getfield 27, 3, 31), (31, .iconst 1, 1, 32), (32, .isub, 1, 33), (33, .putfield 27, 3, 36), (36, .return_, 1, 37)]
theorem jd_Run_remove : qm_D prog_6_method_15_code jl_Run_remove := qm_D_of (by decide +kernel)
noncomputable def jf_Run_remove (this : Nat) (p1 : Int32) : qm_M Unit :=
  mB (α := Unit) (
    mW (S := Int32) (α := Unit) (fun s2 =>
      mB (mGt this 0) fun x3 =>
      if x3 ≤ (s2 + 1) then
        mP (Sum.inr ())
      else
        mB (jf_Run_copyCells this (s2 + 1) s2) fun _ =>
        mB (mP (s2 + 1)) fun x4 =>
        mP (Sum.inl x4)) p1) fun s1 =>
  mB (mGt this 0) fun x5 =>
  mB (mPt this 0 (x5 - 1)) fun _ =>
  mP ()
set_option maxRecDepth 20000 in
set_option maxHeartbeats 4000000 in
theorem jb_Run_remove {X : qm_X} (hX : qm_ok X qr_Run prog_6_method_15_code 3 2 46 jl_Run_remove) {σ0 : qm_Mem} (hR : qm_RV X σ0) (this : Nat) (p1 : Int32) (hthis : (qm_kd this).1 = 14) : qm_B X (jf_Run_remove this p1) 0 [some (.ref (qx_ad X this)), some (.int p1), none] [] (fun _ σ1 => σ1 = σ0) := by
  unfold jf_Run_remove
  refine qb_iload_n hX 0 rfl rfl ?_
  refine qb_istore_n hX 1 ([some (.ref (qx_ad X this)), some (.int p1), some (.int p1)]) rfl (by decide) rfl ?_
  refine qb_join 26 (fun s1 => [some (.ref (qx_ad X this)), none, none]) (fun s1 => []) ?_ ?_
  ·
    refine qb_loopw (p1) (fun s2 => [some (.ref (qx_ad X this)), none, some (.int s2)]) (qw_s (qw_n (qw_s (qw_0)))) (fun s2 => ?_)
    refine qb_iload_n hX 2 rfl rfl ?_
    refine qb_iconst hX 3 1 rfl (by decide) ?_
    refine qb_iadd hX 4 rfl ?_
    refine qb_aload_n hX 5 rfl rfl ?_
    refine qb_get hX 6 rfl fl_Run_27 hthis rfl (fun x3 => ?_)
    refine qb_icge hX 7 26 rfl (by decide) ?_ ?_
    ·
      exact qb_exit (fun σ h => qj_wk (ρ' := [some (.ref (qx_ad X this)), none, none]) (qw_s (qw_n (qw_n (qw_0)))) h)
    ·
      refine qb_aload_n hX 8 rfl rfl ?_
      refine qb_iload_n hX 9 rfl rfl ?_
      refine qb_iconst hX 10 1 rfl (by decide) ?_
      refine qb_iadd hX 11 rfl ?_
      refine qb_iload_n hX 12 rfl rfl ?_
      refine qb_callV hX 13 rfl cv_Run_54 (jm_Run_copyCells (qk_GI hX) this (s2 + 1) s2 hthis ) (ci := 4) hthis ⟨rfl, rfl, rfl, by decide, by decide⟩ rfl (by exact Nat.le_of_ble_eq_true rfl) ?_
      refine qb_iinc hX 14 1 (fun x4 => [some (.ref (qx_ad X this)), none, some (.int x4)]) rfl (by decide) (by decide) rfl (fun _ => rfl) (fun x4 => ?_)
      exact qb_exit (fun σ h => qj_goto hX 15 rfl (by decide) (qj_wk (ρ' := [some (.ref (qx_ad X this)), none, some (.int x4)]) (qw_s (qw_n (qw_s (qw_0)))) h))
  · intro s1
    refine qb_aload_n hX 16 rfl rfl ?_
    refine qb_dup hX 17 rfl rfl ?_
    refine qb_get hX 18 rfl fl_Run_27 hthis rfl (fun x5 => ?_)
    refine qb_iconst hX 19 1 rfl (by decide) ?_
    refine qb_isub hX 20 rfl ?_
    refine qb_put hX 21 rfl fp_Run_27 hthis ?_
    exact qb_vret hX 22 rfl hR (fun _ h => h)
theorem jm_Run_remove {l : Launch} {G : qm_G} (hG : qm_GI G) (this : Nat) (p1 : Int32) (hthis : (qm_kd this).1 = 14) : qm_MV l G jy_Run_remove prog_6_method_15_code 3 2 46 [.ref (G.1 this), .int p1] (jf_Run_remove this p1) :=
  qm_metV (by decide +kernel) jd_Run_remove (fun v hv => by simp only [List.mem_cons, List.not_mem_nil, or_false] at hv; rcases hv with rfl | rfl <;> rfl) (by exact Nat.le_of_ble_eq_true rfl) hG (fun X hl hg hX σ0 hR => by subst hl; subst hg; exact jb_Run_remove hX hR this p1 hthis)
def jl_Run_addMark : List qm_I := [(0, .aload_n 0, 1, 1), (1, .iload_n 1, 1, 2), (2, .bipush 7, 2, 4), (4, .invokevirtual 42, 3, 7), (7, .istore 4, 2, 9), (9, .iload 4, 2, 11), (11, .ifCond .lt 42, 3, 14), (14, .iload 4, 2, 16), (16, .iconst 4, 1, 17), (17, .if_icmp .ge 36, 3, 20), (20, .aload_n 0, 1, 21), (21, .iload_n 1, 1, 22), (22, .bipush 8, 2, 24), (24, .iload 4, 2, 26), (26, .iadd, 1, 27), (27, .iload_n 2, 1, 28), (28, .invokevirtual 46, 3, 31), (31, .aload_n 0, 1, 32), (32, .iload_n 1, 1, 33), (33, .bipush 12, 2, 35), (35, .iload 4, 2, 37), (37, .iadd, 1, 38), (38, .iload_n 3, 1, 39), (39, .invokevirtual 46, 3, 42), (42, .aload_n 0, 1, 43), (43, .iload_n 1, 1, 44), (44, .bipush 7, 2, 46), (46, .iload 4, 2, 48), (48, .iconst 1, 1, 49), (49, .iadd, 1, 50), (50, .invokevirtual 46, 3, 53), (53, .return_, 1, 54)]
theorem jd_Run_addMark : qm_D prog_6_method_18_code jl_Run_addMark := qm_D_of (by decide +kernel)
noncomputable def jf_Run_addMark (this : Nat) (p1 : Int32) (p2 : Int32) (p3 : Int32) : qm_M Unit :=
  mB (jf_Run_cell this p1 7) fun x1 =>
  if x1 < 0 then
    mP ()
  else
    if 4 ≤ x1 then
      mP ()
    else
      mB (jf_Run_putCell this p1 (8 + x1) p2) fun _ =>
      mB (jf_Run_putCell this p1 (12 + x1) p3) fun _ =>
      mB (jf_Run_putCell this p1 7 (x1 + 1)) fun _ =>
      mP ()
set_option maxRecDepth 20000 in
set_option maxHeartbeats 4000000 in
theorem jb_Run_addMark {X : qm_X} (hX : qm_ok X qr_Run prog_6_method_18_code 5 1 23 jl_Run_addMark) {σ0 : qm_Mem} (hR : qm_RV X σ0) (this : Nat) (p1 : Int32) (p2 : Int32) (p3 : Int32) (hthis : (qm_kd this).1 = 14) : qm_B X (jf_Run_addMark this p1 p2 p3) 0 [some (.ref (qx_ad X this)), some (.int p1), some (.int p2), some (.int p3), none] [] (fun _ σ1 => σ1 = σ0) := by
  unfold jf_Run_addMark
  refine qb_aload_n hX 0 rfl rfl ?_
  refine qb_iload_n hX 1 rfl rfl ?_
  refine qb_bipush hX 2 7 rfl (by decide) ?_
  refine qb_callI hX 3 rfl cv_Run_42 (jm_Run_cell (qk_GI hX) this p1 7 hthis ) (ci := 4) hthis ⟨rfl, rfl, rfl, by decide, by decide⟩ rfl (by exact Nat.le_of_ble_eq_true rfl) (fun x1 => ?_)
  refine qb_istore hX 4 ([some (.ref (qx_ad X this)), some (.int p1), some (.int p2), some (.int p3), some (.int x1)]) rfl (by decide) rfl ?_
  refine qb_iload hX 5 rfl rfl ?_
  refine qb_iflt hX 6 53 rfl (by decide) ?_ ?_
  ·
    exact qb_vret hX 31 rfl hR (fun _ h => h)
  ·
    refine qb_iload hX 7 rfl rfl ?_
    refine qb_iconst hX 8 4 rfl (by decide) ?_
    refine qb_icge hX 9 53 rfl (by decide) ?_ ?_
    ·
      exact qb_vret hX 31 rfl hR (fun _ h => h)
    ·
      refine qb_aload_n hX 10 rfl rfl ?_
      refine qb_iload_n hX 11 rfl rfl ?_
      refine qb_bipush hX 12 8 rfl (by decide) ?_
      refine qb_iload hX 13 rfl rfl ?_
      refine qb_iadd hX 14 rfl ?_
      refine qb_iload_n hX 15 rfl rfl ?_
      refine qb_callV hX 16 rfl cv_Run_46 (jm_Run_putCell (qk_GI hX) this p1 (8 + x1) p2 hthis ) (ci := 4) hthis ⟨rfl, rfl, rfl, by decide, by decide⟩ rfl (by exact Nat.le_of_ble_eq_true rfl) ?_
      refine qb_aload_n hX 17 rfl rfl ?_
      refine qb_iload_n hX 18 rfl rfl ?_
      refine qb_bipush hX 19 12 rfl (by decide) ?_
      refine qb_iload hX 20 rfl rfl ?_
      refine qb_iadd hX 21 rfl ?_
      refine qb_iload_n hX 22 rfl rfl ?_
      refine qb_callV hX 23 rfl cv_Run_46 (jm_Run_putCell (qk_GI hX) this p1 (12 + x1) p3 hthis ) (ci := 4) hthis ⟨rfl, rfl, rfl, by decide, by decide⟩ rfl (by exact Nat.le_of_ble_eq_true rfl) ?_
      refine qb_aload_n hX 24 rfl rfl ?_
      refine qb_iload_n hX 25 rfl rfl ?_
      refine qb_bipush hX 26 7 rfl (by decide) ?_
      refine qb_iload hX 27 rfl rfl ?_
      refine qb_iconst hX 28 1 rfl (by decide) ?_
      refine qb_iadd hX 29 rfl ?_
      refine qb_callV hX 30 rfl cv_Run_46 (jm_Run_putCell (qk_GI hX) this p1 7 (x1 + 1) hthis ) (ci := 4) hthis ⟨rfl, rfl, rfl, by decide, by decide⟩ rfl (by exact Nat.le_of_ble_eq_true rfl) ?_
      exact qb_vret hX 31 rfl hR (fun _ h => h)
theorem jm_Run_addMark {l : Launch} {G : qm_G} (hG : qm_GI G) (this : Nat) (p1 : Int32) (p2 : Int32) (p3 : Int32) (hthis : (qm_kd this).1 = 14) : qm_MV l G jy_Run_addMark prog_6_method_18_code 5 1 23 [.ref (G.1 this), .int p1, .int p2, .int p3] (jf_Run_addMark this p1 p2 p3) :=
  qm_metV (by decide +kernel) jd_Run_addMark (fun v hv => by simp only [List.mem_cons, List.not_mem_nil, or_false] at hv; rcases hv with rfl | rfl | rfl | rfl <;> rfl) (by exact Nat.le_of_ble_eq_true rfl) hG (fun X hl hg hX σ0 hR => by subst hl; subst hg; exact jb_Run_addMark hX hR this p1 p2 p3 hthis)
def jl_Tape_append : List qm_I := [(0, .bipush 24, 2, 2), (2, .istore_n 2, 1, 3), (3, .iload_n 2, 1, 4), (4, .ifCond .lt 54, 3, 7), (7, .aload_n 0, 1, 8), (8, .getfield 15, 3, 11), (11, .ifCond .lt 41, 3, 14), (14, .aload_n 0, 1, 15), (15, .getfield 15, 3, 18), (18, .aload_n 0, 1, 19), (19, .getfield 9, 3, 22), (22, .arraylength, 1, 23), (23, .if_icmp .ge 29, 3, 26), (26, .aload_n 0, 1, 27), (27, .getfield 9, 3, 30), (30, .aload_n 0, 1, 31), (31, .getfield 15, 3, 34), (34, .iload_n 1, 1, 35), (35, .iload_n 2, 1, 36), (36, .ishr, 1, 37), (37, .sipush 255, 3, 40), (40, .iand, 1, 41), (41, .iastore, 1, 42), (42, .aload_n 0, 1, 43), (43, .dup, 1, 44), (44, .getfield 15, 3, 47), (47, .iconst 1, 1, 48), (48, .iadd, 1, 49), (49, .putfield 15, 3, 52), (52, .iinc 2 (-8), 3, 55), (55, .goto (-52), 3, 58), (58, .return_, 1, 59)]
theorem jd_Tape_append : qm_D prog_7_method_2_code jl_Tape_append := qm_D_of (by decide +kernel)
noncomputable def jf_Tape_append (this : Nat) (p1 : Int32) : qm_M Unit :=
  mB (α := Unit) (
    mW (S := Int32) (α := Unit) (fun s2 =>
      if s2 < 0 then
        mP (Sum.inr ())
      else
        mB (mGt this 1) fun x3 =>
        mB (α := Unit) (
          if x3 < 0 then
            mP ()
          else
            mB (mGt this 1) fun x5 =>
            if (Int32.ofNat (qm_kd (qm_rf this 0)).2) ≤ x5 then
              mP ()
            else
              mB (mGt this 1) fun x6 =>
              mB (mSt (qm_rf this 0) x6 ((p1 >>> (s2 &&& 31)) &&& 255)) fun _ =>
              mB (mGt this 1) fun x7 =>
              mB (mPt this 1 (x7 + 1)) fun _ =>
              mP ()) fun s4 =>
        mB (mP (s2 + (-8))) fun x8 =>
        mP (Sum.inl x8)) 24) fun s1 =>
  mP ()
set_option maxRecDepth 20000 in
set_option maxHeartbeats 4000000 in
theorem jb_Tape_append {X : qm_X} (hX : qm_ok X qr_Tape prog_7_method_2_code 3 0 0 jl_Tape_append) {σ0 : qm_Mem} (hR : qm_RV X σ0) (this : Nat) (p1 : Int32) (hthis : (qm_kd this).1 = 15) : qm_B X (jf_Tape_append this p1) 0 [some (.ref (qx_ad X this)), some (.int p1), none] [] (fun _ σ1 => σ1 = σ0) := by
  unfold jf_Tape_append
  refine qb_bipush hX 0 24 rfl (by decide) ?_
  refine qb_istore_n hX 1 ([some (.ref (qx_ad X this)), some (.int p1), some (.int 24)]) rfl (by decide) rfl ?_
  refine qb_join 58 (fun s1 => [none, none, none]) (fun s1 => []) ?_ ?_
  ·
    refine qb_loopw (24) (fun s2 => [some (.ref (qx_ad X this)), some (.int p1), some (.int s2)]) (qw_s (qw_s (qw_s (qw_0)))) (fun s2 => ?_)
    refine qb_iload_n hX 2 rfl rfl ?_
    refine qb_iflt hX 3 58 rfl (by decide) ?_ ?_
    ·
      exact qb_exit (fun σ h => qj_wk (ρ' := [none, none, none]) (qw_n (qw_n (qw_n (qw_0)))) h)
    ·
      refine qb_aload_n hX 4 rfl rfl ?_
      refine qb_get hX 5 rfl fl_Tape_15 hthis rfl (fun x3 => ?_)
      refine qb_join 52 (fun s4 => [some (.ref (qx_ad X this)), some (.int p1), some (.int s2)]) (fun s4 => []) ?_ ?_
      ·
        refine qb_iflt hX 6 52 rfl (by decide) ?_ ?_
        ·
          exact qb_exit (fun σ h => qj_wk (ρ' := [some (.ref (qx_ad X this)), some (.int p1), some (.int s2)]) (qw_s (qw_s (qw_s (qw_0)))) h)
        ·
          refine qb_aload_n hX 7 rfl rfl ?_
          refine qb_get hX 8 rfl fl_Tape_15 hthis rfl (fun x5 => ?_)
          refine qb_aload_n hX 9 rfl rfl ?_
          refine qb_getR hX 10 rfl fl_Tape_9 hthis rfl ?_
          refine qb_alen hX 11 (Int32.ofNat (qm_kd (qm_rf this 0)).2) rfl (Or.inl (kf_Tape_0 hthis)) rfl ?_
          refine qb_icge hX 12 52 rfl (by decide) ?_ ?_
          ·
            exact qb_exit (fun σ h => qj_wk (ρ' := [some (.ref (qx_ad X this)), some (.int p1), some (.int s2)]) (qw_s (qw_s (qw_s (qw_0)))) h)
          ·
            refine qb_aload_n hX 13 rfl rfl ?_
            refine qb_getR hX 14 rfl fl_Tape_9 hthis rfl ?_
            refine qb_aload_n hX 15 rfl rfl ?_
            refine qb_get hX 16 rfl fl_Tape_15 hthis rfl (fun x6 => ?_)
            refine qb_iload_n hX 17 rfl rfl ?_
            refine qb_iload_n hX 18 rfl rfl ?_
            refine qb_ishr hX 19 rfl ?_
            refine qb_sipush hX 20 255 rfl (by decide) ?_
            refine qb_iand hX 21 rfl ?_
            refine qb_iast hX 22 rfl (kf_Tape_0 hthis) ?_
            refine qb_aload_n hX 23 rfl rfl ?_
            refine qb_dup hX 24 rfl rfl ?_
            refine qb_get hX 25 rfl fl_Tape_15 hthis rfl (fun x7 => ?_)
            refine qb_iconst hX 26 1 rfl (by decide) ?_
            refine qb_iadd hX 27 rfl ?_
            refine qb_put hX 28 rfl fp_Tape_15 hthis ?_
            exact qb_exit (fun σ h => qj_wk (ρ' := [some (.ref (qx_ad X this)), some (.int p1), some (.int s2)]) (qw_s (qw_s (qw_s (qw_0)))) h)
      · intro s4
        refine qb_iinc hX 29 (-8) (fun x8 => [some (.ref (qx_ad X this)), some (.int p1), some (.int x8)]) rfl (by decide) (by decide) rfl (fun _ => rfl) (fun x8 => ?_)
        exact qb_exit (fun σ h => qj_goto hX 30 rfl (by decide) (qj_wk (ρ' := [some (.ref (qx_ad X this)), some (.int p1), some (.int x8)]) (qw_s (qw_s (qw_s (qw_0)))) h))
  · intro s1
    exact qb_vret hX 31 rfl hR (fun _ h => h)
theorem jm_Tape_append {l : Launch} {G : qm_G} (hG : qm_GI G) (this : Nat) (p1 : Int32) (hthis : (qm_kd this).1 = 15) : qm_MV l G jy_Tape_append prog_7_method_2_code 3 0 0 [.ref (G.1 this), .int p1] (jf_Tape_append this p1) :=
  qm_metV (by decide +kernel) jd_Tape_append (fun v hv => by simp only [List.mem_cons, List.not_mem_nil, or_false] at hv; rcases hv with rfl | rfl <;> rfl) (by exact Nat.le_of_ble_eq_true rfl) hG (fun X hl hg hX σ0 hR => by subst hl; subst hg; exact jb_Tape_append hX hR this p1 hthis)
def jl_Teller_signOf : List qm_I := [(0, .iload_n 0, 1, 1), (1, .bipush 97, 2, 3), (3, .if_icmp .lt 11, 3, 6), (6, .iload_n 0, 1, 7), (7, .bipush 122, 2, 9), (9, .if_icmp .gt 5, 3, 12), (12, .iconst 0, 1, 13), (13, .ireturn, 1, 14), (14, .iload_n 0, 1, 15), (15, .bipush 48, 2, 17), (17, .if_icmp .lt 11, 3, 20), (20, .iload_n 0, 1, 21), (21, .bipush 57, 2, 23), (23, .if_icmp .gt 5, 3, 26), (26, .iconst 1, 1, 27), (27, .ireturn, 1, 28), (28, .iload_n 0, 1, 29), (29, .bipush 59, 2, 31), (31, .if_icmp .ne 7, 3, 34), (34, .iconst 2, 1, 35), (35, .goto 4, 3, 38), (38, .iconst 3, 1, 39), (39, .ireturn, 1, 40)]
theorem jd_Teller_signOf : qm_D prog_8_method_4_code jl_Teller_signOf := qm_D_of (by decide +kernel)
noncomputable def jf_Teller_signOf (p1 : Int32) : qm_M Int32 :=
  mB (α := (Unit ⊕ Int32)) (
    if p1 < 97 then
      mP (Sum.inl ())
    else
      if 122 < p1 then
        mP (Sum.inl ())
      else
        mP (Sum.inr 0)) (Sum.elim (fun s1 =>
    mB (α := (Unit ⊕ Int32)) (
      if p1 < 48 then
        mP (Sum.inl ())
      else
        if 57 < p1 then
          mP (Sum.inl ())
        else
          mP (Sum.inr 1)) (Sum.elim (fun s2 =>
      if ¬ p1 = 59 then
        mP 3
      else
        mP 2) mP)) mP)
set_option maxRecDepth 20000 in
set_option maxHeartbeats 4000000 in
theorem jb_Teller_signOf {X : qm_X} (hX : qm_ok X qr_Teller prog_8_method_4_code 1 0 0 jl_Teller_signOf) {r0 : Int32} {σ0 : qm_Mem} (hR : qm_RI X r0 σ0 .int) (p1 : Int32)  : qm_B X (jf_Teller_signOf p1) 0 [some (.int p1)] [] (fun r σ1 => r = r0 ∧ σ1 = σ0) := by
  unfold jf_Teller_signOf
  refine qb_iload_n hX 0 rfl rfl ?_
  refine qb_bipush hX 1 97 rfl (by decide) ?_
  refine qb_join2 14 (fun s1 => [some (.int p1)]) (fun s1 => []) ?_ ?_
  ·
    refine qb_iclt hX 2 14 rfl (by decide) ?_ ?_
    ·
      exact qb_exit (fun σ h => qj_wk (ρ' := [some (.int p1)]) (qw_s (qw_0)) h)
    ·
      refine qb_iload_n hX 3 rfl rfl ?_
      refine qb_bipush hX 4 122 rfl (by decide) ?_
      refine qb_icgt hX 5 14 rfl (by decide) ?_ ?_
      ·
        exact qb_exit (fun σ h => qj_wk (ρ' := [some (.int p1)]) (qw_s (qw_0)) h)
      ·
        refine qb_iconst hX 6 0 rfl (by decide) ?_
        exact qb_iret hX 7 rfl hR (fun _ h => h)
  · intro s1
    refine qb_iload_n hX 8 rfl rfl ?_
    refine qb_bipush hX 9 48 rfl (by decide) ?_
    refine qb_join2 28 (fun s2 => [some (.int p1)]) (fun s2 => []) ?_ ?_
    ·
      refine qb_iclt hX 10 28 rfl (by decide) ?_ ?_
      ·
        exact qb_exit (fun σ h => qj_wk (ρ' := [some (.int p1)]) (qw_s (qw_0)) h)
      ·
        refine qb_iload_n hX 11 rfl rfl ?_
        refine qb_bipush hX 12 57 rfl (by decide) ?_
        refine qb_icgt hX 13 28 rfl (by decide) ?_ ?_
        ·
          exact qb_exit (fun σ h => qj_wk (ρ' := [some (.int p1)]) (qw_s (qw_0)) h)
        ·
          refine qb_iconst hX 14 1 rfl (by decide) ?_
          exact qb_iret hX 15 rfl hR (fun _ h => h)
    · intro s2
      refine qb_iload_n hX 16 rfl rfl ?_
      refine qb_bipush hX 17 59 rfl (by decide) ?_
      refine qb_icne hX 18 38 rfl (by decide) ?_ ?_
      ·
        refine qb_iconst hX 21 3 rfl (by decide) ?_
        exact qb_iret hX 22 rfl hR (fun _ h => h)
      ·
        refine qb_iconst hX 19 2 rfl (by decide) ?_
        refine qb_goto hX 20 (tgt := 39) rfl (by decide) ?_
        exact qb_iret hX 22 rfl hR (fun _ h => h)
theorem jm_Teller_signOf {l : Launch} {G : qm_G} (hG : qm_GI G) (p1 : Int32)  : qm_MI l G jy_Teller_signOf prog_8_method_4_code 1 (some .int) 0 0 [.int p1] (jf_Teller_signOf p1) :=
  qm_metI (by decide +kernel) jd_Teller_signOf (fun v hv => by simp only [List.mem_cons, List.not_mem_nil, or_false] at hv; rcases hv with rfl <;> rfl) (by exact Nat.le_of_ble_eq_true rfl) hG rfl (fun X hl hg hX r0 σ0 hR => by subst hl; subst hg; exact jb_Teller_signOf hX hR p1 )
def jl_Teller_numberOf : List qm_I := [(0, .iconst 0, 1, 1), (1, .istore_n 3, 1, 2), (2, .iload_n 1, 1, 3), (3, .istore 4, 2, 5), (5, .iload 4, 2, 7), (7, .iload_n 2, 1, 8), (8, .if_icmp .ge 35, 3, 11), (11, .ldc 88, 2, 13), (13, .iload_n 3, 1, 14), (14, .bipush 10, 2, 16), (16, .imul, 1, 17), (17, .aload_n 0, 1, 18), (18, .getfield 11, 3, 21), (21, .getfield 70, 3, 24), (24, .iload 4, 2, 26), (26, .invokestatic 73, 3, 29), (29, .iadd, 1, 30), (30, .bipush 48, 2, 32), (32, .isub, 1, 33), (33, .invokestatic 89, 3, 36), (36, .istore_n 3, 1, 37), (37, .iinc 4 1, 3, 40), (40, .goto (-35), 3, 43), (43, .iload_n 3, 1, 44), (44, .ireturn, 1, 45)]
theorem jd_Teller_numberOf : qm_D prog_8_method_5_code jl_Teller_numberOf := qm_D_of (by decide +kernel)
noncomputable def jf_Teller_numberOf (this : Nat) (p1 : Int32) (p2 : Int32) : qm_M Int32 :=
  mB (α := Int32) (
    mW (S := Int32 × Int32) (α := Int32) (fun s2 =>
      if p2 ≤ s2.2 then
        mP (Sum.inr s2.1)
      else
        mB (jf_Top_at (qm_rf (qm_rf this 0) 0) s2.2) fun x3 =>
        mB (jf_Math_min 100000 (((s2.1 * 10) + x3) - 48)) fun x4 =>
        mB (mP (s2.2 + 1)) fun x5 =>
        mP (Sum.inl (x4, x5))) (0, p1)) fun s1 =>
  mP s1
set_option maxRecDepth 20000 in
set_option maxHeartbeats 4000000 in
theorem jb_Teller_numberOf {X : qm_X} (hX : qm_ok X qr_Teller prog_8_method_5_code 5 1 21 jl_Teller_numberOf) {r0 : Int32} {σ0 : qm_Mem} (hR : qm_RI X r0 σ0 .int) (this : Nat) (p1 : Int32) (p2 : Int32) (hthis : (qm_kd this).1 = 16) : qm_B X (jf_Teller_numberOf this p1 p2) 0 [some (.ref (qx_ad X this)), some (.int p1), some (.int p2), none, none] [] (fun r σ1 => r = r0 ∧ σ1 = σ0) := by
  unfold jf_Teller_numberOf
  refine qb_iconst hX 0 0 rfl (by decide) ?_
  refine qb_istore_n hX 1 ([some (.ref (qx_ad X this)), some (.int p1), some (.int p2), some (.int 0), none]) rfl (by decide) rfl ?_
  refine qb_iload_n hX 2 rfl rfl ?_
  refine qb_istore hX 3 ([some (.ref (qx_ad X this)), some (.int p1), some (.int p2), some (.int 0), some (.int p1)]) rfl (by decide) rfl ?_
  refine qb_join 43 (fun s1 => [none, none, none, some (.int s1), none]) (fun s1 => []) ?_ ?_
  ·
    refine qb_loopw ((0, p1)) (fun s2 => [some (.ref (qx_ad X this)), none, some (.int p2), some (.int s2.1), some (.int s2.2)]) (qw_s (qw_n (qw_s (qw_s (qw_s (qw_0)))))) (fun s2 => ?_)
    refine qb_iload hX 4 rfl rfl ?_
    refine qb_iload_n hX 5 rfl rfl ?_
    refine qb_icge hX 6 43 rfl (by decide) ?_ ?_
    ·
      exact qb_exit (fun σ h => qj_wk (ρ' := [none, none, none, some (.int s2.1), none]) (qw_n (qw_n (qw_n (qw_s (qw_n (qw_0)))))) h)
    ·
      refine qb_ldc hX 7 100000 rfl kc_Teller_88 ?_
      refine qb_iload_n hX 8 rfl rfl ?_
      refine qb_bipush hX 9 10 rfl (by decide) ?_
      refine qb_imul hX 10 rfl ?_
      refine qb_aload_n hX 11 rfl rfl ?_
      refine qb_getR hX 12 rfl fl_Teller_11 hthis rfl ?_
      refine qb_getR hX 13 rfl fl_Teller_70 (kf_Teller_0 hthis) rfl ?_
      refine qb_iload hX 14 rfl rfl ?_
      refine qb_calNI hX 15 rfl cv_Teller_73 (jm_Top_at (qk_GI hX) (qm_rf (qm_rf this 0) 0) s2.2 (kf_Tape_0 (kf_Teller_0 hthis))) ⟨rfl, by decide, by decide⟩ rfl (by exact Nat.le_of_ble_eq_true rfl) (fun x3 => ?_)
      refine qb_iadd hX 16 rfl ?_
      refine qb_bipush hX 17 48 rfl (by decide) ?_
      refine qb_isub hX 18 rfl ?_
      refine qb_mmin hX 19 rfl cv_Teller_89 (by decide) (by exact Nat.le_of_ble_eq_true rfl) (fun x4 => ?_)
      refine qb_istore_n hX 20 ([some (.ref (qx_ad X this)), none, some (.int p2), some (.int x4), some (.int s2.2)]) rfl (by decide) rfl ?_
      refine qb_iinc hX 21 1 (fun x5 => [some (.ref (qx_ad X this)), none, some (.int p2), some (.int x4), some (.int x5)]) rfl (by decide) (by decide) rfl (fun _ => rfl) (fun x5 => ?_)
      exact qb_exit (fun σ h => qj_goto hX 22 rfl (by decide) (qj_wk (ρ' := [some (.ref (qx_ad X this)), none, some (.int p2), some (.int x4), some (.int x5)]) (qw_s (qw_n (qw_s (qw_s (qw_s (qw_0)))))) h))
  · intro s1
    refine qb_iload_n hX 23 rfl rfl ?_
    exact qb_iret hX 24 rfl hR (fun _ h => h)
theorem jm_Teller_numberOf {l : Launch} {G : qm_G} (hG : qm_GI G) (this : Nat) (p1 : Int32) (p2 : Int32) (hthis : (qm_kd this).1 = 16) : qm_MI l G jy_Teller_numberOf prog_8_method_5_code 5 (some .int) 1 21 [.ref (G.1 this), .int p1, .int p2] (jf_Teller_numberOf this p1 p2) :=
  qm_metI (by decide +kernel) jd_Teller_numberOf (fun v hv => by simp only [List.mem_cons, List.not_mem_nil, or_false] at hv; rcases hv with rfl | rfl | rfl <;> rfl) (by exact Nat.le_of_ble_eq_true rfl) hG rfl (fun X hl hg hX r0 σ0 hR => by subst hl; subst hg; exact jb_Teller_numberOf hX hR this p1 p2 hthis)
def jl_Teller_sign : List qm_I := [(0, .aload_n 0, 1, 1), (1, .getfield 38, 3, 4), (4, .ifCond .lt 25, 3, 7), (7, .aload_n 0, 1, 8), (8, .getfield 38, 3, 11), (11, .sipush 401, 3, 14), (14, .if_icmp .ge 15, 3, 17), (17, .aload_n 0, 1, 18), (18, .getfield 22, 3, 21), (21, .aload_n 0, 1, 22), (22, .getfield 38, 3, 25), (25, .iaload, 1, 26), (26, .goto 4, 3, 29), (29, .iconst 4, 1, 30), (30, .ireturn, 1, 31)]
theorem jd_Teller_sign : qm_D prog_8_method_18_code jl_Teller_sign := qm_D_of (by decide +kernel)
noncomputable def jf_Teller_sign (this : Nat) : qm_M Int32 :=
  mB (mGt this 5) fun x1 =>
  if x1 < 0 then
    mP 4
  else
    mB (mGt this 5) fun x2 =>
    if 401 ≤ x2 then
      mP 4
    else
      mB (mGt this 5) fun x3 =>
      mB (mLd (qm_rf this 2) x3) fun x4 =>
      mP x4
set_option maxRecDepth 20000 in
set_option maxHeartbeats 4000000 in
theorem jb_Teller_sign {X : qm_X} (hX : qm_ok X qr_Teller prog_8_method_18_code 1 0 0 jl_Teller_sign) {r0 : Int32} {σ0 : qm_Mem} (hR : qm_RI X r0 σ0 .int) (this : Nat) (hthis : (qm_kd this).1 = 16) : qm_B X (jf_Teller_sign this) 0 [some (.ref (qx_ad X this))] [] (fun r σ1 => r = r0 ∧ σ1 = σ0) := by
  unfold jf_Teller_sign
  refine qb_aload_n hX 0 rfl rfl ?_
  refine qb_get hX 1 rfl fl_Teller_38 hthis rfl (fun x1 => ?_)
  refine qb_iflt hX 2 29 rfl (by decide) ?_ ?_
  ·
    refine qb_iconst hX 13 4 rfl (by decide) ?_
    exact qb_iret hX 14 rfl hR (fun _ h => h)
  ·
    refine qb_aload_n hX 3 rfl rfl ?_
    refine qb_get hX 4 rfl fl_Teller_38 hthis rfl (fun x2 => ?_)
    refine qb_sipush hX 5 401 rfl (by decide) ?_
    refine qb_icge hX 6 29 rfl (by decide) ?_ ?_
    ·
      refine qb_iconst hX 13 4 rfl (by decide) ?_
      exact qb_iret hX 14 rfl hR (fun _ h => h)
    ·
      refine qb_aload_n hX 7 rfl rfl ?_
      refine qb_getR hX 8 rfl fl_Teller_22 hthis rfl ?_
      refine qb_aload_n hX 9 rfl rfl ?_
      refine qb_get hX 10 rfl fl_Teller_38 hthis rfl (fun x3 => ?_)
      refine qb_iald hX 11 rfl (kf_Teller_2 hthis) (fun x4 => ?_)
      refine qb_goto hX 12 (tgt := 30) rfl (by decide) ?_
      exact qb_iret hX 14 rfl hR (fun _ h => h)
theorem jm_Teller_sign {l : Launch} {G : qm_G} (hG : qm_GI G) (this : Nat) (hthis : (qm_kd this).1 = 16) : qm_MI l G jy_Teller_sign prog_8_method_18_code 1 (some .int) 0 0 [.ref (G.1 this)] (jf_Teller_sign this) :=
  qm_metI (by decide +kernel) jd_Teller_sign (fun v hv => by simp only [List.mem_cons, List.not_mem_nil, or_false] at hv; rcases hv with rfl <;> rfl) (by exact Nat.le_of_ble_eq_true rfl) hG rfl (fun X hl hg hX r0 σ0 hR => by subst hl; subst hg; exact jb_Teller_sign hX hR this hthis)
def jl_Teller_place : List qm_I := [(0, .aload_n 0, 1, 1), (1, .getfield 38, 3, 4), (4, .ifCond .lt 25, 3, 7), (7, .aload_n 0, 1, 8), (8, .getfield 38, 3, 11), (11, .sipush 401, 3, 14), (14, .if_icmp .ge 15, 3, 17), (17, .aload_n 0, 1, 18), (18, .getfield 26, 3, 21), (21, .aload_n 0, 1, 22), (22, .getfield 38, 3, 25), (25, .iaload, 1, 26), (26, .goto 10, 3, 29), (29, .aload_n 0, 1, 30), (30, .getfield 11, 3, 33), (33, .getfield 65, 3, 36), (36, .ireturn, 1, 37)]
theorem jd_Teller_place : qm_D prog_8_method_19_code jl_Teller_place := qm_D_of (by decide +kernel)
noncomputable def jf_Teller_place (this : Nat) : qm_M Int32 :=
  mB (mGt this 5) fun x1 =>
  if x1 < 0 then
    mB (mGt (qm_rf this 0) 1) fun x2 =>
    mP x2
  else
    mB (mGt this 5) fun x3 =>
    if 401 ≤ x3 then
      mB (mGt (qm_rf this 0) 1) fun x4 =>
      mP x4
    else
      mB (mGt this 5) fun x5 =>
      mB (mLd (qm_rf this 3) x5) fun x6 =>
      mP x6
set_option maxRecDepth 20000 in
set_option maxHeartbeats 4000000 in
theorem jb_Teller_place {X : qm_X} (hX : qm_ok X qr_Teller prog_8_method_19_code 1 0 0 jl_Teller_place) {r0 : Int32} {σ0 : qm_Mem} (hR : qm_RI X r0 σ0 .int) (this : Nat) (hthis : (qm_kd this).1 = 16) : qm_B X (jf_Teller_place this) 0 [some (.ref (qx_ad X this))] [] (fun r σ1 => r = r0 ∧ σ1 = σ0) := by
  unfold jf_Teller_place
  refine qb_aload_n hX 0 rfl rfl ?_
  refine qb_get hX 1 rfl fl_Teller_38 hthis rfl (fun x1 => ?_)
  refine qb_iflt hX 2 29 rfl (by decide) ?_ ?_
  ·
    refine qb_aload_n hX 13 rfl rfl ?_
    refine qb_getR hX 14 rfl fl_Teller_11 hthis rfl ?_
    refine qb_get hX 15 rfl fl_Teller_65 (kf_Teller_0 hthis) rfl (fun x2 => ?_)
    exact qb_iret hX 16 rfl hR (fun _ h => h)
  ·
    refine qb_aload_n hX 3 rfl rfl ?_
    refine qb_get hX 4 rfl fl_Teller_38 hthis rfl (fun x3 => ?_)
    refine qb_sipush hX 5 401 rfl (by decide) ?_
    refine qb_icge hX 6 29 rfl (by decide) ?_ ?_
    ·
      refine qb_aload_n hX 13 rfl rfl ?_
      refine qb_getR hX 14 rfl fl_Teller_11 hthis rfl ?_
      refine qb_get hX 15 rfl fl_Teller_65 (kf_Teller_0 hthis) rfl (fun x4 => ?_)
      exact qb_iret hX 16 rfl hR (fun _ h => h)
    ·
      refine qb_aload_n hX 7 rfl rfl ?_
      refine qb_getR hX 8 rfl fl_Teller_26 hthis rfl ?_
      refine qb_aload_n hX 9 rfl rfl ?_
      refine qb_get hX 10 rfl fl_Teller_38 hthis rfl (fun x5 => ?_)
      refine qb_iald hX 11 rfl (kf_Teller_3 hthis) (fun x6 => ?_)
      refine qb_goto hX 12 (tgt := 36) rfl (by decide) ?_
      exact qb_iret hX 16 rfl hR (fun _ h => h)
theorem jm_Teller_place {l : Launch} {G : qm_G} (hG : qm_GI G) (this : Nat) (hthis : (qm_kd this).1 = 16) : qm_MI l G jy_Teller_place prog_8_method_19_code 1 (some .int) 0 0 [.ref (G.1 this)] (jf_Teller_place this) :=
  qm_metI (by decide +kernel) jd_Teller_place (fun v hv => by simp only [List.mem_cons, List.not_mem_nil, or_false] at hv; rcases hv with rfl <;> rfl) (by exact Nat.le_of_ble_eq_true rfl) hG rfl (fun X hl hg hX r0 σ0 hR => by subst hl; subst hg; exact jb_Teller_place hX hR this hthis)
def jl_Teller_readWord : List qm_I := [(0, .aload_n 0, 1, 1), (1, .invokevirtual 48, 3, 4), (4, .ifCond .ne 13, 3, 7), (7, .aload_n 0, 1, 8), (8, .getfield 38, 3, 11), (11, .sipush 401, 3, 14), (14, .if_icmp .lt 5, 3, 17), (17, .iconst (-1), 1, 18), (18, .ireturn, 1, 19), (19, .aload_n 0, 1, 20), (20, .getfield 29, 3, 23), (23, .aload_n 0, 1, 24), (24, .getfield 38, 3, 27), (27, .invokestatic 73, 3, 30), (30, .istore_n 1, 1, 31), (31, .aload_n 0, 1, 32), (32, .dup, 1, 33), (33, .getfield 38, 3, 36), (36, .iconst 1, 1, 37), (37, .iadd, 1, 38), (38, .putfield 38, 3, 41), (41, .iload_n 1, 1, 42), (42, .ireturn, 1, 43)]
theorem jd_Teller_readWord : qm_D prog_8_method_15_code jl_Teller_readWord := qm_D_of (by decide +kernel)
noncomputable def jf_Teller_readWord (this : Nat) : qm_M Int32 :=
  mB (jf_Teller_sign this) fun x1 =>
  if ¬ x1 = 0 then
    mP (-1)
  else
    mB (mGt this 5) fun x2 =>
    if x2 < 401 then
      mB (mGt this 5) fun x3 =>
      mB (jf_Top_at (qm_rf this 4) x3) fun x4 =>
      mB (mGt this 5) fun x5 =>
      mB (mPt this 5 (x5 + 1)) fun _ =>
      mP x4
    else
      mP (-1)
set_option maxRecDepth 20000 in
set_option maxHeartbeats 4000000 in
theorem jb_Teller_readWord {X : qm_X} (hX : qm_ok X qr_Teller prog_8_method_15_code 2 1 21 jl_Teller_readWord) {r0 : Int32} {σ0 : qm_Mem} (hR : qm_RI X r0 σ0 .int) (this : Nat) (hthis : (qm_kd this).1 = 16) : qm_B X (jf_Teller_readWord this) 0 [some (.ref (qx_ad X this)), none] [] (fun r σ1 => r = r0 ∧ σ1 = σ0) := by
  unfold jf_Teller_readWord
  refine qb_aload_n hX 0 rfl rfl ?_
  refine qb_callI hX 1 rfl cv_Teller_48 (jm_Teller_sign (qk_GI hX) this  hthis ) (ci := 6) hthis ⟨rfl, rfl, rfl, by decide, by decide⟩ rfl (by exact Nat.le_of_ble_eq_true rfl) (fun x1 => ?_)
  refine qb_ifne hX 2 17 rfl (by decide) ?_ ?_
  ·
    refine qb_iconst hX 7 (-1) rfl (by decide) ?_
    exact qb_iret hX 8 rfl hR (fun _ h => h)
  ·
    refine qb_aload_n hX 3 rfl rfl ?_
    refine qb_get hX 4 rfl fl_Teller_38 hthis rfl (fun x2 => ?_)
    refine qb_sipush hX 5 401 rfl (by decide) ?_
    refine qb_iclt hX 6 19 rfl (by decide) ?_ ?_
    ·
      refine qb_aload_n hX 9 rfl rfl ?_
      refine qb_getR hX 10 rfl fl_Teller_29 hthis rfl ?_
      refine qb_aload_n hX 11 rfl rfl ?_
      refine qb_get hX 12 rfl fl_Teller_38 hthis rfl (fun x3 => ?_)
      refine qb_calNI hX 13 rfl cv_Teller_73 (jm_Top_at (qk_GI hX) (qm_rf this 4) x3 (kf_Teller_4 hthis)) ⟨rfl, by decide, by decide⟩ rfl (by exact Nat.le_of_ble_eq_true rfl) (fun x4 => ?_)
      refine qb_istore_n hX 14 ([some (.ref (qx_ad X this)), some (.int x4)]) rfl (by decide) rfl ?_
      refine qb_aload_n hX 15 rfl rfl ?_
      refine qb_dup hX 16 rfl rfl ?_
      refine qb_get hX 17 rfl fl_Teller_38 hthis rfl (fun x5 => ?_)
      refine qb_iconst hX 18 1 rfl (by decide) ?_
      refine qb_iadd hX 19 rfl ?_
      refine qb_put hX 20 rfl fp_Teller_38 hthis ?_
      refine qb_iload_n hX 21 rfl rfl ?_
      exact qb_iret hX 22 rfl hR (fun _ h => h)
    ·
      refine qb_iconst hX 7 (-1) rfl (by decide) ?_
      exact qb_iret hX 8 rfl hR (fun _ h => h)
theorem jm_Teller_readWord {l : Launch} {G : qm_G} (hG : qm_GI G) (this : Nat) (hthis : (qm_kd this).1 = 16) : qm_MI l G jy_Teller_readWord prog_8_method_15_code 2 (some .int) 1 21 [.ref (G.1 this)] (jf_Teller_readWord this) :=
  qm_metI (by decide +kernel) jd_Teller_readWord (fun v hv => by simp only [List.mem_cons, List.not_mem_nil, or_false] at hv; rcases hv with rfl <;> rfl) (by exact Nat.le_of_ble_eq_true rfl) hG rfl (fun X hl hg hX r0 σ0 hR => by subst hl; subst hg; exact jb_Teller_readWord hX hR this hthis)
def jl_Teller_wrong : List qm_I := [(0, .aload_n 0, 1, 1), (1, .getfield 42, 3, 4), (4, .iconst (-1), 1, 5), (5, .if_icmp .ne 13, 3, 8), (8, .aload_n 0, 1, 9), (9, .bipush 8, 2, 11), (11, .iload_n 1, 1, 12), (12, .imul, 1, 13), (13, .iload_n 2, 1, 14), (14, .iadd, 1, 15), (15, .putfield 42, 3, 18), (18, .return_, 1, 19)]
theorem jd_Teller_wrong : qm_D prog_8_method_17_code jl_Teller_wrong := qm_D_of (by decide +kernel)
noncomputable def jf_Teller_wrong (this : Nat) (p1 : Int32) (p2 : Int32) : qm_M Unit :=
  mB (mGt this 6) fun x1 =>
  if ¬ x1 = (-1) then
    mP ()
  else
    mB (mPt this 6 ((8 * p1) + p2)) fun _ =>
    mP ()
set_option maxRecDepth 20000 in
set_option maxHeartbeats 4000000 in
theorem jb_Teller_wrong {X : qm_X} (hX : qm_ok X qr_Teller prog_8_method_17_code 3 0 0 jl_Teller_wrong) {σ0 : qm_Mem} (hR : qm_RV X σ0) (this : Nat) (p1 : Int32) (p2 : Int32) (hthis : (qm_kd this).1 = 16) : qm_B X (jf_Teller_wrong this p1 p2) 0 [some (.ref (qx_ad X this)), some (.int p1), some (.int p2)] [] (fun _ σ1 => σ1 = σ0) := by
  unfold jf_Teller_wrong
  refine qb_aload_n hX 0 rfl rfl ?_
  refine qb_get hX 1 rfl fl_Teller_42 hthis rfl (fun x1 => ?_)
  refine qb_iconst hX 2 (-1) rfl (by decide) ?_
  refine qb_icne hX 3 18 rfl (by decide) ?_ ?_
  ·
    exact qb_vret hX 11 rfl hR (fun _ h => h)
  ·
    refine qb_aload_n hX 4 rfl rfl ?_
    refine qb_bipush hX 5 8 rfl (by decide) ?_
    refine qb_iload_n hX 6 rfl rfl ?_
    refine qb_imul hX 7 rfl ?_
    refine qb_iload_n hX 8 rfl rfl ?_
    refine qb_iadd hX 9 rfl ?_
    refine qb_put hX 10 rfl fp_Teller_42 hthis ?_
    exact qb_vret hX 11 rfl hR (fun _ h => h)
theorem jm_Teller_wrong {l : Launch} {G : qm_G} (hG : qm_GI G) (this : Nat) (p1 : Int32) (p2 : Int32) (hthis : (qm_kd this).1 = 16) : qm_MV l G jy_Teller_wrong prog_8_method_17_code 3 0 0 [.ref (G.1 this), .int p1, .int p2] (jf_Teller_wrong this p1 p2) :=
  qm_metV (by decide +kernel) jd_Teller_wrong (fun v hv => by simp only [List.mem_cons, List.not_mem_nil, or_false] at hv; rcases hv with rfl | rfl | rfl <;> rfl) (by exact Nat.le_of_ble_eq_true rfl) hG (fun X hl hg hX σ0 hR => by subst hl; subst hg; exact jb_Teller_wrong hX hR this p1 p2 hthis)
def jl_Teller_tellOnce : List qm_I := [(0, .aload_n 0, 1, 1), (1, .getfield 45, 3, 4), (4, .iload_n 1, 1, 5), (5, .ishr, 1, 6), (6, .iconst 1, 1, 7), (7, .iand, 1, 8), (8, .ifCond .eq 9, 3, 11), (11, .aload_n 0, 1, 12), (12, .iload_n 2, 1, 13), (13, .iconst 3, 1, 14), (14, .invokevirtual 58, 3, 17), (17, .aload_n 0, 1, 18), (18, .dup, 1, 19), (19, .getfield 45, 3, 22), (22, .iconst 1, 1, 23), (23, .iload_n 1, 1, 24), (24, .ishl, 1, 25), (25, .ior, 1, 26), (26, .putfield 45, 3, 29), (29, .return_, 1, 30)]
theorem jd_Teller_tellOnce : qm_D prog_8_method_14_code jl_Teller_tellOnce := qm_D_of (by decide +kernel)
noncomputable def jf_Teller_tellOnce (this : Nat) (p1 : Int32) (p2 : Int32) : qm_M Unit :=
  mB (mGt this 7) fun x1 =>
  mB (α := Unit) (
    if ((x1 >>> (p1 &&& 31)) &&& 1) = 0 then
      mP ()
    else
      mB (jf_Teller_wrong this p2 3) fun _ =>
      mP ()) fun s2 =>
  mB (mGt this 7) fun x3 =>
  mB (mPt this 7 (x3 ||| (1 <<< (p1 &&& 31)))) fun _ =>
  mP ()
set_option maxRecDepth 20000 in
set_option maxHeartbeats 4000000 in
theorem jb_Teller_tellOnce {X : qm_X} (hX : qm_ok X qr_Teller prog_8_method_14_code 3 1 22 jl_Teller_tellOnce) {σ0 : qm_Mem} (hR : qm_RV X σ0) (this : Nat) (p1 : Int32) (p2 : Int32) (hthis : (qm_kd this).1 = 16) : qm_B X (jf_Teller_tellOnce this p1 p2) 0 [some (.ref (qx_ad X this)), some (.int p1), some (.int p2)] [] (fun _ σ1 => σ1 = σ0) := by
  unfold jf_Teller_tellOnce
  refine qb_aload_n hX 0 rfl rfl ?_
  refine qb_get hX 1 rfl fl_Teller_45 hthis rfl (fun x1 => ?_)
  refine qb_iload_n hX 2 rfl rfl ?_
  refine qb_ishr hX 3 rfl ?_
  refine qb_iconst hX 4 1 rfl (by decide) ?_
  refine qb_iand hX 5 rfl ?_
  refine qb_join 17 (fun s2 => [some (.ref (qx_ad X this)), some (.int p1), none]) (fun s2 => []) ?_ ?_
  ·
    refine qb_ifeq hX 6 17 rfl (by decide) ?_ ?_
    ·
      exact qb_exit (fun σ h => qj_wk (ρ' := [some (.ref (qx_ad X this)), some (.int p1), none]) (qw_s (qw_s (qw_n (qw_0)))) h)
    ·
      refine qb_aload_n hX 7 rfl rfl ?_
      refine qb_iload_n hX 8 rfl rfl ?_
      refine qb_iconst hX 9 3 rfl (by decide) ?_
      refine qb_callV hX 10 rfl cv_Teller_58 (jm_Teller_wrong (qk_GI hX) this p2 3 hthis ) (ci := 6) hthis ⟨rfl, rfl, rfl, by decide, by decide⟩ rfl (by exact Nat.le_of_ble_eq_true rfl) ?_
      exact qb_exit (fun σ h => qj_wk (ρ' := [some (.ref (qx_ad X this)), some (.int p1), none]) (qw_s (qw_s (qw_n (qw_0)))) h)
  · intro s2
    refine qb_aload_n hX 11 rfl rfl ?_
    refine qb_dup hX 12 rfl rfl ?_
    refine qb_get hX 13 rfl fl_Teller_45 hthis rfl (fun x3 => ?_)
    refine qb_iconst hX 14 1 rfl (by decide) ?_
    refine qb_iload_n hX 15 rfl rfl ?_
    refine qb_ishl hX 16 rfl ?_
    refine qb_ior hX 17 rfl ?_
    refine qb_put hX 18 rfl fp_Teller_45 hthis ?_
    exact qb_vret hX 19 rfl hR (fun _ h => h)
theorem jm_Teller_tellOnce {l : Launch} {G : qm_G} (hG : qm_GI G) (this : Nat) (p1 : Int32) (p2 : Int32) (hthis : (qm_kd this).1 = 16) : qm_MV l G jy_Teller_tellOnce prog_8_method_14_code 3 1 22 [.ref (G.1 this), .int p1, .int p2] (jf_Teller_tellOnce this p1 p2) :=
  qm_metV (by decide +kernel) jd_Teller_tellOnce (fun v hv => by simp only [List.mem_cons, List.not_mem_nil, or_false] at hv; rcases hv with rfl | rfl | rfl <;> rfl) (by exact Nat.le_of_ble_eq_true rfl) hG (fun X hl hg hX σ0 hR => by subst hl; subst hg; exact jb_Teller_tellOnce hX hR this p1 p2 hthis)
end
section
def jl_Teller_readNumber : List qm_I := [(0, .aload_n 0, 1, 1), (1, .getfield 42, 3, 4), (4, .iconst (-1), 1, 5), (5, .if_icmp .eq 5, 3, 8), (8, .iconst 0, 1, 9), (9, .ireturn, 1, 10), (10, .aload_n 0, 1, 11), (11, .invokevirtual 48, 3, 14), (14, .iconst 1, 1, 15), (15, .if_icmp .eq 14, 3, 18), (18, .aload_n 0, 1, 19), (19, .aload_n 0, 1, 20), (20, .invokevirtual 55, 3, 23), (23, .iconst 1, 1, 24), (24, .invokevirtual 58, 3, 27), (27, .iconst 0, 1, 28), (28, .ireturn, 1, 29), (29, .aload_n 0, 1, 30), (30, .getfield 29, 3, 33), (33, .aload_n 0, 1, 34), (34, .getfield 38, 3, 37), (37, .invokestatic 73, 3, 40), (40, .istore_n 3, 1, 41), (41, .iload_n 3, 1, 42), (42, .iload_n 1, 1, 43), (43, .if_icmp .lt 8, 3, 46), (46, .iload_n 3, 1, 47), (47, .iload_n 2, 1, 48), (48, .if_icmp .le 14, 3, 51), (51, .aload_n 0, 1, 52), (52, .aload_n 0, 1, 53), (53, .invokevirtual 55, 3, 56), (56, .iconst 2, 1, 57), (57, .invokevirtual 58, 3, 60), (60, .iconst 0, 1, 61), (61, .ireturn, 1, 62), (62, .aload_n 0, 1, 63), (63, .dup, 1, 64), (64, .getfield 38, 3, 67), (67, .iconst 1, 1, 68), (68, .iadd, 1, 69), (69, .putfield 38, 3, 72), (72, .iload_n 3, 1, 73), (73, .ireturn, 1, 74)]
theorem jd_Teller_readNumber : qm_D prog_8_method_16_code jl_Teller_readNumber := qm_D_of (by decide +kernel)
noncomputable def jf_Teller_readNumber (this : Nat) (p1 : Int32) (p2 : Int32) : qm_M Int32 :=
  mB (mGt this 6) fun x1 =>
  if x1 = (-1) then
    mB (jf_Teller_sign this) fun x2 =>
    if x2 = 1 then
      mB (mGt this 5) fun x3 =>
      mB (jf_Top_at (qm_rf this 4) x3) fun x4 =>
      mB (α := (Unit ⊕ Int32)) (
        if x4 < p1 then
          mP (Sum.inl ())
        else
          if x4 ≤ p2 then
            mB (mGt this 5) fun x6 =>
            mB (mPt this 5 (x6 + 1)) fun _ =>
            mP (Sum.inr x4)
          else
            mP (Sum.inl ())) (Sum.elim (fun s5 =>
        mB (jf_Teller_place this) fun x7 =>
        mB (jf_Teller_wrong this x7 2) fun _ =>
        mP 0) mP)
    else
      mB (jf_Teller_place this) fun x8 =>
      mB (jf_Teller_wrong this x8 1) fun _ =>
      mP 0
  else
    mP 0
set_option maxRecDepth 20000 in
set_option maxHeartbeats 4000000 in
theorem jb_Teller_readNumber {X : qm_X} (hX : qm_ok X qr_Teller prog_8_method_16_code 4 1 22 jl_Teller_readNumber) {r0 : Int32} {σ0 : qm_Mem} (hR : qm_RI X r0 σ0 .int) (this : Nat) (p1 : Int32) (p2 : Int32) (hthis : (qm_kd this).1 = 16) : qm_B X (jf_Teller_readNumber this p1 p2) 0 [some (.ref (qx_ad X this)), some (.int p1), some (.int p2), none] [] (fun r σ1 => r = r0 ∧ σ1 = σ0) := by
  unfold jf_Teller_readNumber
  refine qb_aload_n hX 0 rfl rfl ?_
  refine qb_get hX 1 rfl fl_Teller_42 hthis rfl (fun x1 => ?_)
  refine qb_iconst hX 2 (-1) rfl (by decide) ?_
  refine qb_iceq hX 3 10 rfl (by decide) ?_ ?_
  ·
    refine qb_aload_n hX 6 rfl rfl ?_
    refine qb_callI hX 7 rfl cv_Teller_48 (jm_Teller_sign (qk_GI hX) this  hthis ) (ci := 6) hthis ⟨rfl, rfl, rfl, by decide, by decide⟩ rfl (by exact Nat.le_of_ble_eq_true rfl) (fun x2 => ?_)
    refine qb_iconst hX 8 1 rfl (by decide) ?_
    refine qb_iceq hX 9 29 rfl (by decide) ?_ ?_
    ·
      refine qb_aload_n hX 17 rfl rfl ?_
      refine qb_getR hX 18 rfl fl_Teller_29 hthis rfl ?_
      refine qb_aload_n hX 19 rfl rfl ?_
      refine qb_get hX 20 rfl fl_Teller_38 hthis rfl (fun x3 => ?_)
      refine qb_calNI hX 21 rfl cv_Teller_73 (jm_Top_at (qk_GI hX) (qm_rf this 4) x3 (kf_Teller_4 hthis)) ⟨rfl, by decide, by decide⟩ rfl (by exact Nat.le_of_ble_eq_true rfl) (fun x4 => ?_)
      refine qb_istore_n hX 22 ([some (.ref (qx_ad X this)), some (.int p1), some (.int p2), some (.int x4)]) rfl (by decide) rfl ?_
      refine qb_iload_n hX 23 rfl rfl ?_
      refine qb_iload_n hX 24 rfl rfl ?_
      refine qb_join2 51 (fun s5 => [some (.ref (qx_ad X this)), none, none, none]) (fun s5 => []) ?_ ?_
      ·
        refine qb_iclt hX 25 51 rfl (by decide) ?_ ?_
        ·
          exact qb_exit (fun σ h => qj_wk (ρ' := [some (.ref (qx_ad X this)), none, none, none]) (qw_s (qw_n (qw_n (qw_n (qw_0))))) h)
        ·
          refine qb_iload_n hX 26 rfl rfl ?_
          refine qb_iload_n hX 27 rfl rfl ?_
          refine qb_icle hX 28 62 rfl (by decide) ?_ ?_
          ·
            refine qb_aload_n hX 36 rfl rfl ?_
            refine qb_dup hX 37 rfl rfl ?_
            refine qb_get hX 38 rfl fl_Teller_38 hthis rfl (fun x6 => ?_)
            refine qb_iconst hX 39 1 rfl (by decide) ?_
            refine qb_iadd hX 40 rfl ?_
            refine qb_put hX 41 rfl fp_Teller_38 hthis ?_
            refine qb_iload_n hX 42 rfl rfl ?_
            exact qb_iret hX 43 rfl hR (fun _ h => h)
          ·
            exact qb_exit (fun σ h => qj_wk (ρ' := [some (.ref (qx_ad X this)), none, none, none]) (qw_s (qw_n (qw_n (qw_n (qw_0))))) h)
      · intro s5
        refine qb_aload_n hX 29 rfl rfl ?_
        refine qb_aload_n hX 30 rfl rfl ?_
        refine qb_callI hX 31 rfl cv_Teller_55 (jm_Teller_place (qk_GI hX) this  hthis ) (ci := 6) hthis ⟨rfl, rfl, rfl, by decide, by decide⟩ rfl (by exact Nat.le_of_ble_eq_true rfl) (fun x7 => ?_)
        refine qb_iconst hX 32 2 rfl (by decide) ?_
        refine qb_callV hX 33 rfl cv_Teller_58 (jm_Teller_wrong (qk_GI hX) this x7 2 hthis ) (ci := 6) hthis ⟨rfl, rfl, rfl, by decide, by decide⟩ rfl (by exact Nat.le_of_ble_eq_true rfl) ?_
        refine qb_iconst hX 34 0 rfl (by decide) ?_
        exact qb_iret hX 35 rfl hR (fun _ h => h)
    ·
      refine qb_aload_n hX 10 rfl rfl ?_
      refine qb_aload_n hX 11 rfl rfl ?_
      refine qb_callI hX 12 rfl cv_Teller_55 (jm_Teller_place (qk_GI hX) this  hthis ) (ci := 6) hthis ⟨rfl, rfl, rfl, by decide, by decide⟩ rfl (by exact Nat.le_of_ble_eq_true rfl) (fun x8 => ?_)
      refine qb_iconst hX 13 1 rfl (by decide) ?_
      refine qb_callV hX 14 rfl cv_Teller_58 (jm_Teller_wrong (qk_GI hX) this x8 1 hthis ) (ci := 6) hthis ⟨rfl, rfl, rfl, by decide, by decide⟩ rfl (by exact Nat.le_of_ble_eq_true rfl) ?_
      refine qb_iconst hX 15 0 rfl (by decide) ?_
      exact qb_iret hX 16 rfl hR (fun _ h => h)
  ·
    refine qb_iconst hX 4 0 rfl (by decide) ?_
    exact qb_iret hX 5 rfl hR (fun _ h => h)
theorem jm_Teller_readNumber {l : Launch} {G : qm_G} (hG : qm_GI G) (this : Nat) (p1 : Int32) (p2 : Int32) (hthis : (qm_kd this).1 = 16) : qm_MI l G jy_Teller_readNumber prog_8_method_16_code 4 (some .int) 1 22 [.ref (G.1 this), .int p1, .int p2] (jf_Teller_readNumber this p1 p2) :=
  qm_metI (by decide +kernel) jd_Teller_readNumber (fun v hv => by simp only [List.mem_cons, List.not_mem_nil, or_false] at hv; rcases hv with rfl | rfl | rfl <;> rfl) (by exact Nat.le_of_ble_eq_true rfl) hG rfl (fun X hl hg hX r0 σ0 hR => by subst hl; subst hg; exact jb_Teller_readNumber hX hR this p1 p2 hthis)
def jl_Teller_readSetting : List qm_I := [(0, .aload_n 0, 1, 1), (1, .iload_n 1, 1, 2), (2, .iload_n 2, 1, 3), (3, .invokevirtual 117, 3, 6), (6, .aload_n 0, 1, 7), (7, .getstatic 120, 3, 10), (10, .iload_n 1, 1, 11), (11, .invokestatic 73, 3, 14), (14, .getstatic 123, 3, 17), (17, .iload_n 1, 1, 18), (18, .invokestatic 73, 3, 21), (21, .invokevirtual 126, 3, 24), (24, .istore_n 3, 1, 25), (25, .aload_n 0, 1, 26), (26, .getfield 42, 3, 29), (29, .iconst (-1), 1, 30), (30, .if_icmp .ne 12, 3, 33), (33, .aload_n 0, 1, 34), (34, .getfield 18, 3, 37), (37, .iload_n 1, 1, 38), (38, .iload_n 3, 1, 39), (39, .invokevirtual 129, 3, 42), (42, .return_, 1, 43)]
theorem jd_Teller_readSetting : qm_D prog_8_method_9_code jl_Teller_readSetting := qm_D_of (by decide +kernel)
noncomputable def jf_Teller_readSetting (this : Nat) (p1 : Int32) (p2 : Int32) : qm_M Unit :=
  mB (jf_Teller_tellOnce this p1 p2) fun _ =>
  mB (jf_Top_at 406 p1) fun x1 =>
  mB (jf_Top_at 407 p1) fun x2 =>
  mB (jf_Teller_readNumber this x1 x2) fun x3 =>
  mB (mGt this 6) fun x4 =>
  if ¬ x4 = (-1) then
    mP ()
  else
    mB (jf_Run_put (qm_rf this 1) p1 x3) fun _ =>
    mP ()
set_option maxRecDepth 20000 in
set_option maxHeartbeats 4000000 in
theorem jb_Teller_readSetting {X : qm_X} (hX : qm_ok X qr_Teller prog_8_method_9_code 4 2 45 jl_Teller_readSetting) {σ0 : qm_Mem} (hR : qm_RV X σ0) (this : Nat) (p1 : Int32) (p2 : Int32) (hthis : (qm_kd this).1 = 16) : qm_B X (jf_Teller_readSetting this p1 p2) 0 [some (.ref (qx_ad X this)), some (.int p1), some (.int p2), none] [] (fun _ σ1 => σ1 = σ0) := by
  unfold jf_Teller_readSetting
  refine qb_aload_n hX 0 rfl rfl ?_
  refine qb_iload_n hX 1 rfl rfl ?_
  refine qb_iload_n hX 2 rfl rfl ?_
  refine qb_callV hX 3 rfl cv_Teller_117 (jm_Teller_tellOnce (qk_GI hX) this p1 p2 hthis ) (ci := 6) hthis ⟨rfl, rfl, rfl, by decide, by decide⟩ rfl (by exact Nat.le_of_ble_eq_true rfl) ?_
  refine qb_aload_n hX 4 rfl rfl ?_
  refine qb_getsN hX 5 (n := "SETTING_LEAST") 406 rfl (by decide +kernel) (by decide +kernel) ?_
  refine qb_iload_n hX 6 rfl rfl ?_
  refine qb_calNI hX 7 rfl cv_Teller_73 (jm_Top_at (qk_GI hX) 406 p1 (rfl : (qm_kd 406).1 = 1)) ⟨rfl, by decide, by decide⟩ rfl (by exact Nat.le_of_ble_eq_true rfl) (fun x1 => ?_)
  refine qb_getsN hX 8 (n := "SETTING_MOST") 407 rfl (by decide +kernel) (by decide +kernel) ?_
  refine qb_iload_n hX 9 rfl rfl ?_
  refine qb_calNI hX 10 rfl cv_Teller_73 (jm_Top_at (qk_GI hX) 407 p1 (rfl : (qm_kd 407).1 = 1)) ⟨rfl, by decide, by decide⟩ rfl (by exact Nat.le_of_ble_eq_true rfl) (fun x2 => ?_)
  refine qb_callI hX 11 rfl cv_Teller_126 (jm_Teller_readNumber (qk_GI hX) this x1 x2 hthis ) (ci := 6) hthis ⟨rfl, rfl, rfl, by decide, by decide⟩ rfl (by exact Nat.le_of_ble_eq_true rfl) (fun x3 => ?_)
  refine qb_istore_n hX 12 ([some (.ref (qx_ad X this)), some (.int p1), some (.int p2), some (.int x3)]) rfl (by decide) rfl ?_
  refine qb_aload_n hX 13 rfl rfl ?_
  refine qb_get hX 14 rfl fl_Teller_42 hthis rfl (fun x4 => ?_)
  refine qb_iconst hX 15 (-1) rfl (by decide) ?_
  refine qb_icne hX 16 42 rfl (by decide) ?_ ?_
  ·
    exact qb_vret hX 22 rfl hR (fun _ h => h)
  ·
    refine qb_aload_n hX 17 rfl rfl ?_
    refine qb_getR hX 18 rfl fl_Teller_18 hthis rfl ?_
    refine qb_iload_n hX 19 rfl rfl ?_
    refine qb_iload_n hX 20 rfl rfl ?_
    refine qb_callV hX 21 rfl cv_Teller_129 (jm_Run_put (qk_GI hX) (qm_rf this 1) p1 x3 (kf_Teller_1 hthis) ) (ci := 4) (kf_Teller_1 hthis) ⟨rfl, rfl, rfl, by decide, by decide⟩ rfl (by exact Nat.le_of_ble_eq_true rfl) ?_
    exact qb_vret hX 22 rfl hR (fun _ h => h)
theorem jm_Teller_readSetting {l : Launch} {G : qm_G} (hG : qm_GI G) (this : Nat) (p1 : Int32) (p2 : Int32) (hthis : (qm_kd this).1 = 16) : qm_MV l G jy_Teller_readSetting prog_8_method_9_code 4 2 45 [.ref (G.1 this), .int p1, .int p2] (jf_Teller_readSetting this p1 p2) :=
  qm_metV (by decide +kernel) jd_Teller_readSetting (fun v hv => by simp only [List.mem_cons, List.not_mem_nil, or_false] at hv; rcases hv with rfl | rfl | rfl <;> rfl) (by exact Nat.le_of_ble_eq_true rfl) hG (fun X hl hg hX σ0 hR => by subst hl; subst hg; exact jb_Teller_readSetting hX hR this p1 p2 hthis)
def jl_Teller_mostHigh : List qm_I := [(0, .iload_n 0, 1, 1), (1, .tableswitch 41 1 4 #[31, 35, 41, 38], 31, 32), (32, .sipush 200, 3, 35), (35, .ireturn, 1, 36), (36, .bipush 30, 2, 38), (38, .ireturn, 1, 39), (39, .bipush 60, 2, 41), (41, .ireturn, 1, 42), (42, .bipush 9, 2, 44), (44, .ireturn, 1, 45)]
theorem jd_Teller_mostHigh : qm_D prog_8_method_11_code jl_Teller_mostHigh := qm_D_of (by decide +kernel)
noncomputable def jf_Teller_mostHigh (p1 : Int32) : qm_M Int32 :=
  if p1 = 1 then
    mP 200
  else
  if p1 = 2 then
    mP 30
  else
  if p1 = 3 then
    mP 9
  else
  if p1 = 4 then
    mP 60
  else
  mP 9
set_option maxRecDepth 20000 in
set_option maxHeartbeats 4000000 in
theorem jb_Teller_mostHigh {X : qm_X} (hX : qm_ok X qr_Teller prog_8_method_11_code 1 0 0 jl_Teller_mostHigh) {r0 : Int32} {σ0 : qm_Mem} (hR : qm_RI X r0 σ0 .int) (p1 : Int32)  : qm_B X (jf_Teller_mostHigh p1) 0 [some (.int p1)] [] (fun r σ1 => r = r0 ∧ σ1 = σ0) := by
  unfold jf_Teller_mostHigh
  refine qb_iload_n hX 0 rfl rfl ?_
  refine qb_swc 1 ?_ (fun h0 => ?_)
  ·
    refine qb_tin hX 1 32 rfl (by decide) (by decide) rfl (by decide) ?_
    refine qb_sipush hX 2 200 rfl (by decide) ?_
    exact qb_iret hX 3 rfl hR (fun _ h => h)
  refine qb_swc 2 ?_ (fun h1 => ?_)
  ·
    refine qb_tin hX 1 36 rfl (by decide) (by decide) rfl (by decide) ?_
    refine qb_bipush hX 4 30 rfl (by decide) ?_
    exact qb_iret hX 5 rfl hR (fun _ h => h)
  refine qb_swc 3 ?_ (fun h2 => ?_)
  ·
    refine qb_tin hX 1 42 rfl (by decide) (by decide) rfl (by decide) ?_
    refine qb_bipush hX 8 9 rfl (by decide) ?_
    exact qb_iret hX 9 rfl hR (fun _ h => h)
  refine qb_swc 4 ?_ (fun h3 => ?_)
  ·
    refine qb_tin hX 1 39 rfl (by decide) (by decide) rfl (by decide) ?_
    refine qb_bipush hX 6 60 rfl (by decide) ?_
    exact qb_iret hX 7 rfl hR (fun _ h => h)
  refine qb_tout hX 1 42 rfl (by have g0 := lv_neT (a := 1) h0 (by decide); have g1 := lv_neT (a := 2) h1 (by decide); have g2 := lv_neT (a := 3) h2 (by decide); have g3 := lv_neT (a := 4) h3 (by decide); omega) (by decide) ?_
  refine qb_bipush hX 8 9 rfl (by decide) ?_
  exact qb_iret hX 9 rfl hR (fun _ h => h)
theorem jm_Teller_mostHigh {l : Launch} {G : qm_G} (hG : qm_GI G) (p1 : Int32)  : qm_MI l G jy_Teller_mostHigh prog_8_method_11_code 1 (some .int) 0 0 [.int p1] (jf_Teller_mostHigh p1) :=
  qm_metI (by decide +kernel) jd_Teller_mostHigh (fun v hv => by simp only [List.mem_cons, List.not_mem_nil, or_false] at hv; rcases hv with rfl <;> rfl) (by exact Nat.le_of_ble_eq_true rfl) hG rfl (fun X hl hg hX r0 σ0 hR => by subst hl; subst hg; exact jb_Teller_mostHigh hX hR p1 )
def jl_Teller_readMark : List qm_I := [(0, .aload_n 0, 1, 1), (1, .getfield 18, 3, 4), (4, .iload_n 1, 1, 5), (5, .bipush 7, 2, 7), (7, .invokevirtual 151, 3, 10), (10, .iconst 4, 1, 11), (11, .if_icmp .lt 9, 3, 14), (14, .aload_n 0, 1, 15), (15, .iload_n 2, 1, 16), (16, .iconst 3, 1, 17), (17, .invokevirtual 58, 3, 20), (20, .aload_n 0, 1, 21), (21, .invokevirtual 55, 3, 24), (24, .istore_n 3, 1, 25), (25, .aload_n 0, 1, 26), (26, .iconst 1, 1, 27), (27, .aload_n 0, 1, 28), (28, .getfield 18, 3, 31), (31, .iload_n 1, 1, 32), (32, .iconst 1, 1, 33), (33, .invokevirtual 151, 3, 36), (36, .invokevirtual 126, 3, 39), (39, .istore 4, 2, 41), (41, .aload_n 0, 1, 42), (42, .getfield 18, 3, 45), (45, .iload_n 1, 1, 46), (46, .iload 4, 2, 48), (48, .invokevirtual 154, 3, 51), (51, .ifCond .le 9, 3, 54), (54, .aload_n 0, 1, 55), (55, .iload_n 3, 1, 56), (56, .iconst 2, 1, 57), (57, .invokevirtual 58, 3, 60), (60, .aload_n 0, 1, 61), (61, .iconst 1, 1, 62), (62, .bipush 20, 2, 64), (64, .invokevirtual 126, 3, 67), (67, .istore 5, 2, 69), (69, .aload_n 0, 1, 70), (70, .getfield 42, 3, 73), (73, .iconst (-1), 1, 74), (74, .if_icmp .ne 15, 3, 77), (77, .aload_n 0, 1, 78), (78, .getfield 18, 3, 81), (81, .iload_n 1, 1, 82), (82, .iload 4, 2, 84), (84, .iload 5, 2, 86), (86, .invokevirtual 157, 3, 89), (89, .return_, 1, 90)]
theorem jd_Teller_readMark : qm_D prog_8_method_13_code jl_Teller_readMark := qm_D_of (by decide +kernel)
noncomputable def jf_Teller_readMark (this : Nat) (p1 : Int32) (p2 : Int32) : qm_M Unit :=
  mB (jf_Run_cell (qm_rf this 1) p1 7) fun x1 =>
  mB (α := Unit) (
    if x1 < 4 then
      mP ()
    else
      mB (jf_Teller_wrong this p2 3) fun _ =>
      mP ()) fun s2 =>
  mB (jf_Teller_place this) fun x3 =>
  mB (jf_Run_cell (qm_rf this 1) p1 1) fun x4 =>
  mB (jf_Teller_readNumber this 1 x4) fun x5 =>
  mB (jf_Run_noteAt (qm_rf this 1) p1 x5) fun x6 =>
  mB (α := Unit) (
    if x6 ≤ 0 then
      mP ()
    else
      mB (jf_Teller_wrong this x3 2) fun _ =>
      mP ()) fun s7 =>
  mB (jf_Teller_readNumber this 1 20) fun x8 =>
  mB (mGt this 6) fun x9 =>
  if ¬ x9 = (-1) then
    mP ()
  else
    mB (jf_Run_addMark (qm_rf this 1) p1 x5 x8) fun _ =>
    mP ()
set_option maxRecDepth 20000 in
set_option maxHeartbeats 4000000 in
theorem jb_Teller_readMark {X : qm_X} (hX : qm_ok X qr_Teller prog_8_method_13_code 6 2 47 jl_Teller_readMark) {σ0 : qm_Mem} (hR : qm_RV X σ0) (this : Nat) (p1 : Int32) (p2 : Int32) (hthis : (qm_kd this).1 = 16) : qm_B X (jf_Teller_readMark this p1 p2) 0 [some (.ref (qx_ad X this)), some (.int p1), some (.int p2), none, none, none] [] (fun _ σ1 => σ1 = σ0) := by
  unfold jf_Teller_readMark
  refine qb_aload_n hX 0 rfl rfl ?_
  refine qb_getR hX 1 rfl fl_Teller_18 hthis rfl ?_
  refine qb_iload_n hX 2 rfl rfl ?_
  refine qb_bipush hX 3 7 rfl (by decide) ?_
  refine qb_callI hX 4 rfl cv_Teller_151 (jm_Run_cell (qk_GI hX) (qm_rf this 1) p1 7 (kf_Teller_1 hthis) ) (ci := 4) (kf_Teller_1 hthis) ⟨rfl, rfl, rfl, by decide, by decide⟩ rfl (by exact Nat.le_of_ble_eq_true rfl) (fun x1 => ?_)
  refine qb_iconst hX 5 4 rfl (by decide) ?_
  refine qb_join 20 (fun s2 => [some (.ref (qx_ad X this)), some (.int p1), none, none, none, none]) (fun s2 => []) ?_ ?_
  ·
    refine qb_iclt hX 6 20 rfl (by decide) ?_ ?_
    ·
      exact qb_exit (fun σ h => qj_wk (ρ' := [some (.ref (qx_ad X this)), some (.int p1), none, none, none, none]) (qw_s (qw_s (qw_n (qw_n (qw_n (qw_n (qw_0))))))) h)
    ·
      refine qb_aload_n hX 7 rfl rfl ?_
      refine qb_iload_n hX 8 rfl rfl ?_
      refine qb_iconst hX 9 3 rfl (by decide) ?_
      refine qb_callV hX 10 rfl cv_Teller_58 (jm_Teller_wrong (qk_GI hX) this p2 3 hthis ) (ci := 6) hthis ⟨rfl, rfl, rfl, by decide, by decide⟩ rfl (by exact Nat.le_of_ble_eq_true rfl) ?_
      exact qb_exit (fun σ h => qj_wk (ρ' := [some (.ref (qx_ad X this)), some (.int p1), none, none, none, none]) (qw_s (qw_s (qw_n (qw_n (qw_n (qw_n (qw_0))))))) h)
  · intro s2
    refine qb_aload_n hX 11 rfl rfl ?_
    refine qb_callI hX 12 rfl cv_Teller_55 (jm_Teller_place (qk_GI hX) this  hthis ) (ci := 6) hthis ⟨rfl, rfl, rfl, by decide, by decide⟩ rfl (by exact Nat.le_of_ble_eq_true rfl) (fun x3 => ?_)
    refine qb_istore_n hX 13 ([some (.ref (qx_ad X this)), some (.int p1), none, some (.int x3), none, none]) rfl (by decide) rfl ?_
    refine qb_aload_n hX 14 rfl rfl ?_
    refine qb_iconst hX 15 1 rfl (by decide) ?_
    refine qb_aload_n hX 16 rfl rfl ?_
    refine qb_getR hX 17 rfl fl_Teller_18 hthis rfl ?_
    refine qb_iload_n hX 18 rfl rfl ?_
    refine qb_iconst hX 19 1 rfl (by decide) ?_
    refine qb_callI hX 20 rfl cv_Teller_151 (jm_Run_cell (qk_GI hX) (qm_rf this 1) p1 1 (kf_Teller_1 hthis) ) (ci := 4) (kf_Teller_1 hthis) ⟨rfl, rfl, rfl, by decide, by decide⟩ rfl (by exact Nat.le_of_ble_eq_true rfl) (fun x4 => ?_)
    refine qb_callI hX 21 rfl cv_Teller_126 (jm_Teller_readNumber (qk_GI hX) this 1 x4 hthis ) (ci := 6) hthis ⟨rfl, rfl, rfl, by decide, by decide⟩ rfl (by exact Nat.le_of_ble_eq_true rfl) (fun x5 => ?_)
    refine qb_istore hX 22 ([some (.ref (qx_ad X this)), some (.int p1), none, some (.int x3), some (.int x5), none]) rfl (by decide) rfl ?_
    refine qb_aload_n hX 23 rfl rfl ?_
    refine qb_getR hX 24 rfl fl_Teller_18 hthis rfl ?_
    refine qb_iload_n hX 25 rfl rfl ?_
    refine qb_iload hX 26 rfl rfl ?_
    refine qb_callI hX 27 rfl cv_Teller_154 (jm_Run_noteAt (qk_GI hX) (qm_rf this 1) p1 x5 (kf_Teller_1 hthis) ) (ci := 4) (kf_Teller_1 hthis) ⟨rfl, rfl, rfl, by decide, by decide⟩ rfl (by exact Nat.le_of_ble_eq_true rfl) (fun x6 => ?_)
    refine qb_join 60 (fun s7 => [some (.ref (qx_ad X this)), some (.int p1), none, none, some (.int x5), none]) (fun s7 => []) ?_ ?_
    ·
      refine qb_ifle hX 28 60 rfl (by decide) ?_ ?_
      ·
        exact qb_exit (fun σ h => qj_wk (ρ' := [some (.ref (qx_ad X this)), some (.int p1), none, none, some (.int x5), none]) (qw_s (qw_s (qw_n (qw_n (qw_s (qw_n (qw_0))))))) h)
      ·
        refine qb_aload_n hX 29 rfl rfl ?_
        refine qb_iload_n hX 30 rfl rfl ?_
        refine qb_iconst hX 31 2 rfl (by decide) ?_
        refine qb_callV hX 32 rfl cv_Teller_58 (jm_Teller_wrong (qk_GI hX) this x3 2 hthis ) (ci := 6) hthis ⟨rfl, rfl, rfl, by decide, by decide⟩ rfl (by exact Nat.le_of_ble_eq_true rfl) ?_
        exact qb_exit (fun σ h => qj_wk (ρ' := [some (.ref (qx_ad X this)), some (.int p1), none, none, some (.int x5), none]) (qw_s (qw_s (qw_n (qw_n (qw_s (qw_n (qw_0))))))) h)
    · intro s7
      refine qb_aload_n hX 33 rfl rfl ?_
      refine qb_iconst hX 34 1 rfl (by decide) ?_
      refine qb_bipush hX 35 20 rfl (by decide) ?_
      refine qb_callI hX 36 rfl cv_Teller_126 (jm_Teller_readNumber (qk_GI hX) this 1 20 hthis ) (ci := 6) hthis ⟨rfl, rfl, rfl, by decide, by decide⟩ rfl (by exact Nat.le_of_ble_eq_true rfl) (fun x8 => ?_)
      refine qb_istore hX 37 ([some (.ref (qx_ad X this)), some (.int p1), none, none, some (.int x5), some (.int x8)]) rfl (by decide) rfl ?_
      refine qb_aload_n hX 38 rfl rfl ?_
      refine qb_get hX 39 rfl fl_Teller_42 hthis rfl (fun x9 => ?_)
      refine qb_iconst hX 40 (-1) rfl (by decide) ?_
      refine qb_icne hX 41 89 rfl (by decide) ?_ ?_
      ·
        exact qb_vret hX 48 rfl hR (fun _ h => h)
      ·
        refine qb_aload_n hX 42 rfl rfl ?_
        refine qb_getR hX 43 rfl fl_Teller_18 hthis rfl ?_
        refine qb_iload_n hX 44 rfl rfl ?_
        refine qb_iload hX 45 rfl rfl ?_
        refine qb_iload hX 46 rfl rfl ?_
        refine qb_callV hX 47 rfl cv_Teller_157 (jm_Run_addMark (qk_GI hX) (qm_rf this 1) p1 x5 x8 (kf_Teller_1 hthis) ) (ci := 4) (kf_Teller_1 hthis) ⟨rfl, rfl, rfl, by decide, by decide⟩ rfl (by exact Nat.le_of_ble_eq_true rfl) ?_
        exact qb_vret hX 48 rfl hR (fun _ h => h)
theorem jm_Teller_readMark {l : Launch} {G : qm_G} (hG : qm_GI G) (this : Nat) (p1 : Int32) (p2 : Int32) (hthis : (qm_kd this).1 = 16) : qm_MV l G jy_Teller_readMark prog_8_method_13_code 6 2 47 [.ref (G.1 this), .int p1, .int p2] (jf_Teller_readMark this p1 p2) :=
  qm_metV (by decide +kernel) jd_Teller_readMark (fun v hv => by simp only [List.mem_cons, List.not_mem_nil, or_false] at hv; rcases hv with rfl | rfl | rfl <;> rfl) (by exact Nat.le_of_ble_eq_true rfl) hG (fun X hl hg hX σ0 hR => by subst hl; subst hg; exact jb_Teller_readMark hX hR this p1 p2 hthis)
def jl_Teller_readWords : List qm_I := [(0, .aload_n 0, 1, 1), (1, .dup, 1, 2), (2, .getfield 45, 3, 5), (5, .sipush 255, 3, 8), (8, .iand, 1, 9), (9, .putfield 45, 3, 12), (12, .iconst 0, 1, 13), (13, .istore_n 3, 1, 14), (14, .aload_n 0, 1, 15), (15, .getfield 42, 3, 18), (18, .iconst (-1), 1, 19), (19, .if_icmp .ne 167, 3, 22), (22, .aload_n 0, 1, 23), (23, .invokevirtual 48, 3, 26), (26, .iconst 4, 1, 27), (27, .if_icmp .eq 159, 3, 30), (30, .aload_n 0, 1, 31), (31, .invokevirtual 48, 3, 34), (34, .iconst 2, 1, 35), (35, .if_icmp .eq 151, 3, 38), (38, .iload_n 3, 1, 39), (39, .sipush 401, 3, 42), (42, .if_icmp .ge 144, 3, 45), (45, .aload_n 0, 1, 46), (46, .invokevirtual 55, 3, 49), (49, .istore 4, 2, 51), (51, .aload_n 0, 1, 52), (52, .invokevirtual 108, 3, 55), (55, .istore 5, 2, 57), (57, .iload 5, 2, 59), (59, .bipush 13, 2, 61), (61, .if_icmp .ne 24, 3, 64), (64, .aload_n 0, 1, 65), (65, .iload 5, 2, 67), (67, .iload 4, 2, 69), (69, .invokevirtual 117, 3, 72), (72, .aload_n 0, 1, 73), (73, .getfield 18, 3, 76), (76, .iload_n 1, 1, 77), (77, .iconst 4, 1, 78), (78, .iconst 1, 1, 79), (79, .invokevirtual 138, 3, 82), (82, .goto 98, 3, 85), (85, .iload 5, 2, 87), (87, .bipush 14, 2, 89), (89, .if_icmp .ne 28, 3, 92), (92, .iload_n 2, 1, 93), (93, .ifCond .ne 24, 3, 96), (96, .aload_n 0, 1, 97), (97, .iload 5, 2, 99), (99, .iload 4, 2, 101), (101, .invokevirtual 117, 3, 104), (104, .aload_n 0, 1, 105), (105, .getfield 18, 3, 108), (108, .iload_n 1, 1, 109), (109, .iconst 5, 1, 110), (110, .iconst 1, 1, 111), (111, .invokevirtual 138, 3, 114), (114, .goto 66, 3, 117), (117, .iload 5, 2, 119), (119, .bipush 15, 2, 121), (121, .if_icmp .ne 31, 3, 124), (124, .aload_n 0, 1, 125), (125, .iload 5, 2, 127), (127, .iload 4, 2, 129), (129, .invokevirtual 117, 3, 132), (132, .aload_n 0, 1, 133), (133, .getfield 18, 3, 136), (136, .iload_n 1, 1, 137), (137, .bipush 6, 2, 139), (139, .aload_n 0, 1, 140), (140, .iconst 0, 1, 141), (141, .bipush 30, 2, 143), (143, .invokevirtual 126, 3, 146), (146, .invokevirtual 138, 3, 149), (149, .goto 31, 3, 152), (152, .iload 5, 2, 154), (154, .bipush 16, 2, 156), (156, .if_icmp .ne 17, 3, 159), (159, .iload_n 2, 1, 160), (160, .ifCond .ne 13, 3, 163), (163, .aload_n 0, 1, 164), (164, .iload_n 1, 1, 165), (165, .iload 4, 2, 167), (167, .invokevirtual 148, 3, 170), (170, .goto 10, 3, 173), (173, .aload_n 0, 1, 174), (174, .iload 4, 2, 176), (176, .iconst 1, 1, 177), (177, .invokevirtual 58, 3, 180), (180, .iinc 3 1, 3, 183), (183, .goto (-169), 3, 186), (186, .return_, 1, 187)]
theorem jd_Teller_readWords : qm_D prog_8_method_12_code jl_Teller_readWords := qm_D_of (by decide +kernel)
noncomputable def jf_Teller_readWords (this : Nat) (p1 : Int32) (p2 : Int32) : qm_M Unit :=
  mB (mGt this 7) fun x1 =>
  mB (mPt this 7 (x1 &&& 255)) fun _ =>
  mB (α := Unit) (
    mW (S := Int32) (α := Unit) (fun s3 =>
      mB (mGt this 6) fun x4 =>
      if ¬ x4 = (-1) then
        mP (Sum.inr ())
      else
        mB (jf_Teller_sign this) fun x5 =>
        if x5 = 4 then
          mP (Sum.inr ())
        else
          mB (jf_Teller_sign this) fun x6 =>
          if x6 = 2 then
            mP (Sum.inr ())
          else
            if 401 ≤ s3 then
              mP (Sum.inr ())
            else
              mB (jf_Teller_place this) fun x7 =>
              mB (jf_Teller_readWord this) fun x8 =>
              mB (α := Unit) (
                if ¬ x8 = 13 then
                  mB (α := (Unit ⊕ Unit)) (
                    if ¬ x8 = 14 then
                      mP (Sum.inl ())
                    else
                      if ¬ p2 = 0 then
                        mP (Sum.inl ())
                      else
                        mB (jf_Teller_tellOnce this x8 x7) fun _ =>
                        mB (jf_Run_putCell (qm_rf this 1) p1 5 1) fun _ =>
                        mP (Sum.inr ())) (Sum.elim (fun s10 =>
                    if ¬ x8 = 15 then
                      mB (α := (Unit ⊕ Unit)) (
                        if ¬ x8 = 16 then
                          mP (Sum.inl ())
                        else
                          if ¬ p2 = 0 then
                            mP (Sum.inl ())
                          else
                            mB (jf_Teller_readMark this p1 x7) fun _ =>
                            mP (Sum.inr ())) (Sum.elim (fun s11 =>
                        mB (jf_Teller_wrong this x7 1) fun _ =>
                        mP ()) mP)
                    else
                      mB (jf_Teller_tellOnce this x8 x7) fun _ =>
                      mB (jf_Teller_readNumber this 0 30) fun x12 =>
                      mB (jf_Run_putCell (qm_rf this 1) p1 6 x12) fun _ =>
                      mP ()) mP)
                else
                  mB (jf_Teller_tellOnce this x8 x7) fun _ =>
                  mB (jf_Run_putCell (qm_rf this 1) p1 4 1) fun _ =>
                  mP ()) fun s9 =>
              mB (mP (s3 + 1)) fun x13 =>
              mP (Sum.inl x13)) 0) fun s2 =>
  mP ()
set_option maxRecDepth 20000 in
set_option maxHeartbeats 4000000 in
theorem jb_Teller_readWords {X : qm_X} (hX : qm_ok X qr_Teller prog_8_method_12_code 6 3 72 jl_Teller_readWords) {σ0 : qm_Mem} (hR : qm_RV X σ0) (this : Nat) (p1 : Int32) (p2 : Int32) (hthis : (qm_kd this).1 = 16) : qm_B X (jf_Teller_readWords this p1 p2) 0 [some (.ref (qx_ad X this)), some (.int p1), some (.int p2), none, none, none] [] (fun _ σ1 => σ1 = σ0) := by
  unfold jf_Teller_readWords
  refine qb_aload_n hX 0 rfl rfl ?_
  refine qb_dup hX 1 rfl rfl ?_
  refine qb_get hX 2 rfl fl_Teller_45 hthis rfl (fun x1 => ?_)
  refine qb_sipush hX 3 255 rfl (by decide) ?_
  refine qb_iand hX 4 rfl ?_
  refine qb_put hX 5 rfl fp_Teller_45 hthis ?_
  refine qb_iconst hX 6 0 rfl (by decide) ?_
  refine qb_istore_n hX 7 ([some (.ref (qx_ad X this)), some (.int p1), some (.int p2), some (.int 0), none, none]) rfl (by decide) rfl ?_
  refine qb_join 186 (fun s2 => [none, none, none, none, none, none]) (fun s2 => []) ?_ ?_
  ·
    refine qb_loopw (0) (fun s3 => [some (.ref (qx_ad X this)), some (.int p1), some (.int p2), some (.int s3), none, none]) (qw_s (qw_s (qw_s (qw_s (qw_n (qw_n (qw_0))))))) (fun s3 => ?_)
    refine qb_aload_n hX 8 rfl rfl ?_
    refine qb_get hX 9 rfl fl_Teller_42 hthis rfl (fun x4 => ?_)
    refine qb_iconst hX 10 (-1) rfl (by decide) ?_
    refine qb_icne hX 11 186 rfl (by decide) ?_ ?_
    ·
      exact qb_exit (fun σ h => qj_wk (ρ' := [none, none, none, none, none, none]) (qw_n (qw_n (qw_n (qw_n (qw_n (qw_n (qw_0))))))) h)
    ·
      refine qb_aload_n hX 12 rfl rfl ?_
      refine qb_callI hX 13 rfl cv_Teller_48 (jm_Teller_sign (qk_GI hX) this  hthis ) (ci := 6) hthis ⟨rfl, rfl, rfl, by decide, by decide⟩ rfl (by exact Nat.le_of_ble_eq_true rfl) (fun x5 => ?_)
      refine qb_iconst hX 14 4 rfl (by decide) ?_
      refine qb_iceq hX 15 186 rfl (by decide) ?_ ?_
      ·
        exact qb_exit (fun σ h => qj_wk (ρ' := [none, none, none, none, none, none]) (qw_n (qw_n (qw_n (qw_n (qw_n (qw_n (qw_0))))))) h)
      ·
        refine qb_aload_n hX 16 rfl rfl ?_
        refine qb_callI hX 17 rfl cv_Teller_48 (jm_Teller_sign (qk_GI hX) this  hthis ) (ci := 6) hthis ⟨rfl, rfl, rfl, by decide, by decide⟩ rfl (by exact Nat.le_of_ble_eq_true rfl) (fun x6 => ?_)
        refine qb_iconst hX 18 2 rfl (by decide) ?_
        refine qb_iceq hX 19 186 rfl (by decide) ?_ ?_
        ·
          exact qb_exit (fun σ h => qj_wk (ρ' := [none, none, none, none, none, none]) (qw_n (qw_n (qw_n (qw_n (qw_n (qw_n (qw_0))))))) h)
        ·
          refine qb_iload_n hX 20 rfl rfl ?_
          refine qb_sipush hX 21 401 rfl (by decide) ?_
          refine qb_icge hX 22 186 rfl (by decide) ?_ ?_
          ·
            exact qb_exit (fun σ h => qj_wk (ρ' := [none, none, none, none, none, none]) (qw_n (qw_n (qw_n (qw_n (qw_n (qw_n (qw_0))))))) h)
          ·
            refine qb_aload_n hX 23 rfl rfl ?_
            refine qb_callI hX 24 rfl cv_Teller_55 (jm_Teller_place (qk_GI hX) this  hthis ) (ci := 6) hthis ⟨rfl, rfl, rfl, by decide, by decide⟩ rfl (by exact Nat.le_of_ble_eq_true rfl) (fun x7 => ?_)
            refine qb_istore hX 25 ([some (.ref (qx_ad X this)), some (.int p1), some (.int p2), some (.int s3), some (.int x7), none]) rfl (by decide) rfl ?_
            refine qb_aload_n hX 26 rfl rfl ?_
            refine qb_callI hX 27 rfl cv_Teller_108 (jm_Teller_readWord (qk_GI hX) this  hthis ) (ci := 6) hthis ⟨rfl, rfl, rfl, by decide, by decide⟩ rfl (by exact Nat.le_of_ble_eq_true rfl) (fun x8 => ?_)
            refine qb_istore hX 28 ([some (.ref (qx_ad X this)), some (.int p1), some (.int p2), some (.int s3), some (.int x7), some (.int x8)]) rfl (by decide) rfl ?_
            refine qb_iload hX 29 rfl rfl ?_
            refine qb_bipush hX 30 13 rfl (by decide) ?_
            refine qb_join 180 (fun s9 => [some (.ref (qx_ad X this)), some (.int p1), some (.int p2), some (.int s3), none, none]) (fun s9 => []) ?_ ?_
            ·
              refine qb_icne hX 31 85 rfl (by decide) ?_ ?_
              ·
                refine qb_iload hX 43 rfl rfl ?_
                refine qb_bipush hX 44 14 rfl (by decide) ?_
                refine qb_join2 117 (fun s10 => [some (.ref (qx_ad X this)), some (.int p1), some (.int p2), some (.int s3), some (.int x7), some (.int x8)]) (fun s10 => []) ?_ ?_
                ·
                  refine qb_icne hX 45 117 rfl (by decide) ?_ ?_
                  ·
                    exact qb_exit (fun σ h => qj_wk (ρ' := [some (.ref (qx_ad X this)), some (.int p1), some (.int p2), some (.int s3), some (.int x7), some (.int x8)]) (qw_s (qw_s (qw_s (qw_s (qw_s (qw_s (qw_0))))))) h)
                  ·
                    refine qb_iload_n hX 46 rfl rfl ?_
                    refine qb_ifne hX 47 117 rfl (by decide) ?_ ?_
                    ·
                      exact qb_exit (fun σ h => qj_wk (ρ' := [some (.ref (qx_ad X this)), some (.int p1), some (.int p2), some (.int s3), some (.int x7), some (.int x8)]) (qw_s (qw_s (qw_s (qw_s (qw_s (qw_s (qw_0))))))) h)
                    ·
                      refine qb_aload_n hX 48 rfl rfl ?_
                      refine qb_iload hX 49 rfl rfl ?_
                      refine qb_iload hX 50 rfl rfl ?_
                      refine qb_callV hX 51 rfl cv_Teller_117 (jm_Teller_tellOnce (qk_GI hX) this x8 x7 hthis ) (ci := 6) hthis ⟨rfl, rfl, rfl, by decide, by decide⟩ rfl (by exact Nat.le_of_ble_eq_true rfl) ?_
                      refine qb_aload_n hX 52 rfl rfl ?_
                      refine qb_getR hX 53 rfl fl_Teller_18 hthis rfl ?_
                      refine qb_iload_n hX 54 rfl rfl ?_
                      refine qb_iconst hX 55 5 rfl (by decide) ?_
                      refine qb_iconst hX 56 1 rfl (by decide) ?_
                      refine qb_callV hX 57 rfl cv_Teller_138 (jm_Run_putCell (qk_GI hX) (qm_rf this 1) p1 5 1 (kf_Teller_1 hthis) ) (ci := 4) (kf_Teller_1 hthis) ⟨rfl, rfl, rfl, by decide, by decide⟩ rfl (by exact Nat.le_of_ble_eq_true rfl) ?_
                      exact qb_exit (fun σ h => qj_goto hX 58 rfl (by decide) (qj_wk (ρ' := [some (.ref (qx_ad X this)), some (.int p1), some (.int p2), some (.int s3), none, none]) (qw_s (qw_s (qw_s (qw_s (qw_n (qw_n (qw_0))))))) h))
                · intro s10
                  refine qb_iload hX 59 rfl rfl ?_
                  refine qb_bipush hX 60 15 rfl (by decide) ?_
                  refine qb_icne hX 61 152 rfl (by decide) ?_ ?_
                  ·
                    refine qb_iload hX 76 rfl rfl ?_
                    refine qb_bipush hX 77 16 rfl (by decide) ?_
                    refine qb_join2 173 (fun s11 => [some (.ref (qx_ad X this)), some (.int p1), some (.int p2), some (.int s3), some (.int x7), none]) (fun s11 => []) ?_ ?_
                    ·
                      refine qb_icne hX 78 173 rfl (by decide) ?_ ?_
                      ·
                        exact qb_exit (fun σ h => qj_wk (ρ' := [some (.ref (qx_ad X this)), some (.int p1), some (.int p2), some (.int s3), some (.int x7), none]) (qw_s (qw_s (qw_s (qw_s (qw_s (qw_n (qw_0))))))) h)
                      ·
                        refine qb_iload_n hX 79 rfl rfl ?_
                        refine qb_ifne hX 80 173 rfl (by decide) ?_ ?_
                        ·
                          exact qb_exit (fun σ h => qj_wk (ρ' := [some (.ref (qx_ad X this)), some (.int p1), some (.int p2), some (.int s3), some (.int x7), none]) (qw_s (qw_s (qw_s (qw_s (qw_s (qw_n (qw_0))))))) h)
                        ·
                          refine qb_aload_n hX 81 rfl rfl ?_
                          refine qb_iload_n hX 82 rfl rfl ?_
                          refine qb_iload hX 83 rfl rfl ?_
                          refine qb_callV hX 84 rfl cv_Teller_148 (jm_Teller_readMark (qk_GI hX) this p1 x7 hthis ) (ci := 6) hthis ⟨rfl, rfl, rfl, by decide, by decide⟩ rfl (by exact Nat.le_of_ble_eq_true rfl) ?_
                          exact qb_exit (fun σ h => qj_goto hX 85 rfl (by decide) (qj_wk (ρ' := [some (.ref (qx_ad X this)), some (.int p1), some (.int p2), some (.int s3), none, none]) (qw_s (qw_s (qw_s (qw_s (qw_n (qw_n (qw_0))))))) h))
                    · intro s11
                      refine qb_aload_n hX 86 rfl rfl ?_
                      refine qb_iload hX 87 rfl rfl ?_
                      refine qb_iconst hX 88 1 rfl (by decide) ?_
                      refine qb_callV hX 89 rfl cv_Teller_58 (jm_Teller_wrong (qk_GI hX) this x7 1 hthis ) (ci := 6) hthis ⟨rfl, rfl, rfl, by decide, by decide⟩ rfl (by exact Nat.le_of_ble_eq_true rfl) ?_
                      exact qb_exit (fun σ h => qj_wk (ρ' := [some (.ref (qx_ad X this)), some (.int p1), some (.int p2), some (.int s3), none, none]) (qw_s (qw_s (qw_s (qw_s (qw_n (qw_n (qw_0))))))) h)
                  ·
                    refine qb_aload_n hX 62 rfl rfl ?_
                    refine qb_iload hX 63 rfl rfl ?_
                    refine qb_iload hX 64 rfl rfl ?_
                    refine qb_callV hX 65 rfl cv_Teller_117 (jm_Teller_tellOnce (qk_GI hX) this x8 x7 hthis ) (ci := 6) hthis ⟨rfl, rfl, rfl, by decide, by decide⟩ rfl (by exact Nat.le_of_ble_eq_true rfl) ?_
                    refine qb_aload_n hX 66 rfl rfl ?_
                    refine qb_getR hX 67 rfl fl_Teller_18 hthis rfl ?_
                    refine qb_iload_n hX 68 rfl rfl ?_
                    refine qb_bipush hX 69 6 rfl (by decide) ?_
                    refine qb_aload_n hX 70 rfl rfl ?_
                    refine qb_iconst hX 71 0 rfl (by decide) ?_
                    refine qb_bipush hX 72 30 rfl (by decide) ?_
                    refine qb_callI hX 73 rfl cv_Teller_126 (jm_Teller_readNumber (qk_GI hX) this 0 30 hthis ) (ci := 6) hthis ⟨rfl, rfl, rfl, by decide, by decide⟩ rfl (by exact Nat.le_of_ble_eq_true rfl) (fun x12 => ?_)
                    refine qb_callV hX 74 rfl cv_Teller_138 (jm_Run_putCell (qk_GI hX) (qm_rf this 1) p1 6 x12 (kf_Teller_1 hthis) ) (ci := 4) (kf_Teller_1 hthis) ⟨rfl, rfl, rfl, by decide, by decide⟩ rfl (by exact Nat.le_of_ble_eq_true rfl) ?_
                    exact qb_exit (fun σ h => qj_goto hX 75 rfl (by decide) (qj_wk (ρ' := [some (.ref (qx_ad X this)), some (.int p1), some (.int p2), some (.int s3), none, none]) (qw_s (qw_s (qw_s (qw_s (qw_n (qw_n (qw_0))))))) h))
              ·
                refine qb_aload_n hX 32 rfl rfl ?_
                refine qb_iload hX 33 rfl rfl ?_
                refine qb_iload hX 34 rfl rfl ?_
                refine qb_callV hX 35 rfl cv_Teller_117 (jm_Teller_tellOnce (qk_GI hX) this x8 x7 hthis ) (ci := 6) hthis ⟨rfl, rfl, rfl, by decide, by decide⟩ rfl (by exact Nat.le_of_ble_eq_true rfl) ?_
                refine qb_aload_n hX 36 rfl rfl ?_
                refine qb_getR hX 37 rfl fl_Teller_18 hthis rfl ?_
                refine qb_iload_n hX 38 rfl rfl ?_
                refine qb_iconst hX 39 4 rfl (by decide) ?_
                refine qb_iconst hX 40 1 rfl (by decide) ?_
                refine qb_callV hX 41 rfl cv_Teller_138 (jm_Run_putCell (qk_GI hX) (qm_rf this 1) p1 4 1 (kf_Teller_1 hthis) ) (ci := 4) (kf_Teller_1 hthis) ⟨rfl, rfl, rfl, by decide, by decide⟩ rfl (by exact Nat.le_of_ble_eq_true rfl) ?_
                exact qb_exit (fun σ h => qj_goto hX 42 rfl (by decide) (qj_wk (ρ' := [some (.ref (qx_ad X this)), some (.int p1), some (.int p2), some (.int s3), none, none]) (qw_s (qw_s (qw_s (qw_s (qw_n (qw_n (qw_0))))))) h))
            · intro s9
              refine qb_iinc hX 90 1 (fun x13 => [some (.ref (qx_ad X this)), some (.int p1), some (.int p2), some (.int x13), none, none]) rfl (by decide) (by decide) rfl (fun _ => rfl) (fun x13 => ?_)
              exact qb_exit (fun σ h => qj_goto hX 91 rfl (by decide) (qj_wk (ρ' := [some (.ref (qx_ad X this)), some (.int p1), some (.int p2), some (.int x13), none, none]) (qw_s (qw_s (qw_s (qw_s (qw_n (qw_n (qw_0))))))) h))
  · intro s2
    exact qb_vret hX 92 rfl hR (fun _ h => h)
theorem jm_Teller_readWords {l : Launch} {G : qm_G} (hG : qm_GI G) (this : Nat) (p1 : Int32) (p2 : Int32) (hthis : (qm_kd this).1 = 16) : qm_MV l G jy_Teller_readWords prog_8_method_12_code 6 3 72 [.ref (G.1 this), .int p1, .int p2] (jf_Teller_readWords this p1 p2) :=
  qm_metV (by decide +kernel) jd_Teller_readWords (fun v hv => by simp only [List.mem_cons, List.not_mem_nil, or_false] at hv; rcases hv with rfl | rfl | rfl <;> rfl) (by exact Nat.le_of_ble_eq_true rfl) hG (fun X hl hg hX σ0 hR => by subst hl; subst hg; exact jb_Teller_readWords hX hR this p1 p2 hthis)
def jl_Teller_readBlock : List qm_I := [(0, .iload_n 1, 1, 1), (1, .iconst 1, 1, 2), (2, .if_icmp .eq 8, 3, 5), (5, .iload_n 1, 1, 6), (6, .iconst 2, 1, 7), (7, .if_icmp .ne 7, 3, 10), (10, .iconst 1, 1, 11), (11, .goto 4, 3, 14), (14, .iconst 0, 1, 15), (15, .istore_n 3, 1, 16), (16, .aload_n 0, 1, 17), (17, .getfield 18, 3, 20), (20, .invokevirtual 62, 3, 23), (23, .istore 4, 2, 25), (25, .aload_n 0, 1, 26), (26, .getfield 18, 3, 29), (29, .getfield 132, 3, 32), (32, .bipush 16, 2, 34), (34, .if_icmp .ge 14, 3, 37), (37, .iload_n 3, 1, 38), (38, .ifCond .eq 17, 3, 41), (41, .iload 4, 2, 43), (43, .bipush 90, 2, 45), (45, .if_icmp .lt 10, 3, 48), (48, .aload_n 0, 1, 49), (49, .iload_n 2, 1, 50), (50, .iconst 3, 1, 51), (51, .invokevirtual 58, 3, 54), (54, .return_, 1, 55), (55, .aload_n 0, 1, 56), (56, .getfield 18, 3, 59), (59, .iload_n 1, 1, 60), (60, .invokevirtual 135, 3, 63), (63, .istore 5, 2, 65), (65, .iload_n 1, 1, 66), (66, .iconst 3, 1, 67), (67, .if_icmp .ne 20, 3, 70), (70, .aload_n 0, 1, 71), (71, .getfield 18, 3, 74), (74, .iload 5, 2, 76), (76, .iconst 3, 1, 77), (77, .aload_n 0, 1, 78), (78, .iconst 0, 1, 79), (79, .bipush 9, 2, 81), (81, .invokevirtual 126, 3, 84), (84, .invokevirtual 138, 3, 87), (87, .iload_n 3, 1, 88), (88, .ifCond .eq 7, 3, 91), (91, .iconst 1, 1, 92), (92, .goto 4, 3, 95), (95, .iconst 0, 1, 96), (96, .istore 6, 2, 98), (98, .iload_n 1, 1, 99), (99, .ifCond .eq 8, 3, 102), (102, .iload_n 1, 1, 103), (103, .iconst 3, 1, 104), (104, .if_icmp .ne 35, 3, 107), (107, .aload_n 0, 1, 108), (108, .invokevirtual 55, 3, 111), (111, .istore 7, 2, 113), (113, .aload_n 0, 1, 114), (114, .iconst 1, 1, 115), (115, .bipush 30, 2, 117), (117, .invokevirtual 126, 3, 120), (120, .istore 6, 2, 122), (122, .iload 4, 2, 124), (124, .iload 6, 2, 126), (126, .iadd, 1, 127), (127, .bipush 90, 2, 129), (129, .if_icmp .le 10, 3, 132), (132, .aload_n 0, 1, 133), (133, .iload 7, 2, 135), (135, .iconst 3, 1, 136), (136, .invokevirtual 58, 3, 139), (139, .aload_n 0, 1, 140), (140, .getfield 18, 3, 143), (143, .iload 5, 2, 145), (145, .iconst 1, 1, 146), (146, .iload 6, 2, 148), (148, .invokevirtual 138, 3, 151), (151, .aload_n 0, 1, 152), (152, .getfield 18, 3, 155), (155, .iload 5, 2, 157), (157, .iconst 2, 1, 158), (158, .aload_n 0, 1, 159), (159, .iconst 1, 1, 160), (160, .iload_n 1, 1, 161), (161, .invokestatic 142, 3, 164), (164, .invokevirtual 126, 3, 167), (167, .invokevirtual 138, 3, 170), (170, .iload_n 1, 1, 171), (171, .iconst 4, 1, 172), (172, .if_icmp .eq 10, 3, 175), (175, .aload_n 0, 1, 176), (176, .iload 5, 2, 178), (178, .iload_n 1, 1, 179), (179, .invokevirtual 145, 3, 182), (182, .return_, 1, 183)]
theorem jd_Teller_readBlock : qm_D prog_8_method_10_code jl_Teller_readBlock := qm_D_of (by decide +kernel)
noncomputable def jf_Teller_readBlock (this : Nat) (p1 : Int32) (p2 : Int32) : qm_M Unit :=
  mB (α := Int32) (
    mB (α := (Unit ⊕ Int32)) (
      if p1 = 1 then
        mP (Sum.inl ())
      else
        if ¬ p1 = 2 then
          mP (Sum.inr 0)
        else
          mP (Sum.inl ())) (Sum.elim (fun s2 =>
      mP 1) mP)) fun s1 =>
  mB (jf_Run_allPieces (qm_rf this 1)) fun x3 =>
  mB (mGt (qm_rf this 1) 0) fun x4 =>
  mB (α := (Unit ⊕ Unit)) (
    if 16 ≤ x4 then
      mP (Sum.inl ())
    else
      mB (α := (Unit ⊕ (Unit ⊕ Unit))) (
        if s1 = 0 then
          mP (Sum.inl ())
        else
          if x3 < 90 then
            mP (Sum.inl ())
          else
            mP (Sum.inr (Sum.inl ()))) (Sum.elim (fun s6 =>
        mB (jf_Run_add (qm_rf this 1) p1) fun x7 =>
        mB (α := Unit) (
          if ¬ p1 = 3 then
            mP ()
          else
            mB (jf_Teller_readNumber this 0 9) fun x9 =>
            mB (jf_Run_putCell (qm_rf this 1) x7 3 x9) fun _ =>
            mP ()) fun s8 =>
        mB (α := Int32) (
          if s1 = 0 then
            mP 0
          else
            mP 1) fun s10 =>
        mB (α := Int32) (
          mB (α := (Unit ⊕ Int32)) (
            if p1 = 0 then
              mP (Sum.inl ())
            else
              if ¬ p1 = 3 then
                mP (Sum.inr s10)
              else
                mP (Sum.inl ())) (Sum.elim (fun s12 =>
            mB (jf_Teller_place this) fun x13 =>
            mB (jf_Teller_readNumber this 1 30) fun x14 =>
            if (x3 + x14) ≤ 90 then
              mP x14
            else
              mB (jf_Teller_wrong this x13 3) fun _ =>
              mP x14) mP)) fun s11 =>
        mB (jf_Run_putCell (qm_rf this 1) x7 1 s11) fun _ =>
        mB (jf_Teller_mostHigh p1) fun x15 =>
        mB (jf_Teller_readNumber this 1 x15) fun x16 =>
        mB (jf_Run_putCell (qm_rf this 1) x7 2 x16) fun _ =>
        if p1 = 4 then
          mP (Sum.inr ())
        else
          mB (jf_Teller_readWords this x7 p1) fun _ =>
          mP (Sum.inr ())) mP)) (Sum.elim (fun s5 =>
    mB (jf_Teller_wrong this p2 3) fun _ =>
    mP ()) mP)
set_option maxRecDepth 20000 in
set_option maxHeartbeats 4000000 in
theorem jb_Teller_readBlock {X : qm_X} (hX : qm_ok X qr_Teller prog_8_method_10_code 8 4 97 jl_Teller_readBlock) {σ0 : qm_Mem} (hR : qm_RV X σ0) (this : Nat) (p1 : Int32) (p2 : Int32) (hthis : (qm_kd this).1 = 16) : qm_B X (jf_Teller_readBlock this p1 p2) 0 [some (.ref (qx_ad X this)), some (.int p1), some (.int p2), none, none, none, none, none] [] (fun _ σ1 => σ1 = σ0) := by
  unfold jf_Teller_readBlock
  refine qb_iload_n hX 0 rfl rfl ?_
  refine qb_iconst hX 1 1 rfl (by decide) ?_
  refine qb_join 15 (fun s1 => [some (.ref (qx_ad X this)), some (.int p1), some (.int p2), none, none, none, none, none]) (fun s1 => [.int s1]) ?_ ?_
  ·
    refine qb_join2 10 (fun s2 => [some (.ref (qx_ad X this)), some (.int p1), some (.int p2), none, none, none, none, none]) (fun s2 => []) ?_ ?_
    ·
      refine qb_iceq hX 2 10 rfl (by decide) ?_ ?_
      ·
        exact qb_exit (fun σ h => qj_wk (ρ' := [some (.ref (qx_ad X this)), some (.int p1), some (.int p2), none, none, none, none, none]) (qw_s (qw_s (qw_s (qw_n (qw_n (qw_n (qw_n (qw_n (qw_0))))))))) h)
      ·
        refine qb_iload_n hX 3 rfl rfl ?_
        refine qb_iconst hX 4 2 rfl (by decide) ?_
        refine qb_icne hX 5 14 rfl (by decide) ?_ ?_
        ·
          refine qb_iconst hX 8 0 rfl (by decide) ?_
          exact qb_exit (fun σ h => qj_wk (ρ' := [some (.ref (qx_ad X this)), some (.int p1), some (.int p2), none, none, none, none, none]) (qw_s (qw_s (qw_s (qw_n (qw_n (qw_n (qw_n (qw_n (qw_0))))))))) h)
        ·
          exact qb_exit (fun σ h => qj_wk (ρ' := [some (.ref (qx_ad X this)), some (.int p1), some (.int p2), none, none, none, none, none]) (qw_s (qw_s (qw_s (qw_n (qw_n (qw_n (qw_n (qw_n (qw_0))))))))) h)
    · intro s2
      refine qb_iconst hX 6 1 rfl (by decide) ?_
      exact qb_exit (fun σ h => qj_goto hX 7 rfl (by decide) (qj_wk (ρ' := [some (.ref (qx_ad X this)), some (.int p1), some (.int p2), none, none, none, none, none]) (qw_s (qw_s (qw_s (qw_n (qw_n (qw_n (qw_n (qw_n (qw_0))))))))) h))
  · intro s1
    refine qb_istore_n hX 9 ([some (.ref (qx_ad X this)), some (.int p1), some (.int p2), some (.int s1), none, none, none, none]) rfl (by decide) rfl ?_
    refine qb_aload_n hX 10 rfl rfl ?_
    refine qb_getR hX 11 rfl fl_Teller_18 hthis rfl ?_
    refine qb_callI hX 12 rfl cv_Teller_62 (jm_Run_allPieces (qk_GI hX) (qm_rf this 1)  (kf_Teller_1 hthis) ) (ci := 4) (kf_Teller_1 hthis) ⟨rfl, rfl, rfl, by decide, by decide⟩ rfl (by exact Nat.le_of_ble_eq_true rfl) (fun x3 => ?_)
    refine qb_istore hX 13 ([some (.ref (qx_ad X this)), some (.int p1), some (.int p2), some (.int s1), some (.int x3), none, none, none]) rfl (by decide) rfl ?_
    refine qb_aload_n hX 14 rfl rfl ?_
    refine qb_getR hX 15 rfl fl_Teller_18 hthis rfl ?_
    refine qb_get hX 16 rfl fl_Teller_132 (kf_Teller_1 hthis) rfl (fun x4 => ?_)
    refine qb_bipush hX 17 16 rfl (by decide) ?_
    refine qb_join2 48 (fun s5 => [some (.ref (qx_ad X this)), none, some (.int p2), none, none, none, none, none]) (fun s5 => []) ?_ ?_
    ·
      refine qb_icge hX 18 48 rfl (by decide) ?_ ?_
      ·
        exact qb_exit (fun σ h => qj_wk (ρ' := [some (.ref (qx_ad X this)), none, some (.int p2), none, none, none, none, none]) (qw_s (qw_n (qw_s (qw_n (qw_n (qw_n (qw_n (qw_n (qw_0))))))))) h)
      ·
        refine qb_iload_n hX 19 rfl rfl ?_
        refine qb_join2 55 (fun s6 => [some (.ref (qx_ad X this)), some (.int p1), none, some (.int s1), some (.int x3), none, none, none]) (fun s6 => []) ?_ ?_
        ·
          refine qb_ifeq hX 20 55 rfl (by decide) ?_ ?_
          ·
            exact qb_exit (fun σ h => qj_wk (ρ' := [some (.ref (qx_ad X this)), some (.int p1), none, some (.int s1), some (.int x3), none, none, none]) (qw_s (qw_s (qw_n (qw_s (qw_s (qw_n (qw_n (qw_n (qw_0))))))))) h)
          ·
            refine qb_iload hX 21 rfl rfl ?_
            refine qb_bipush hX 22 90 rfl (by decide) ?_
            refine qb_iclt hX 23 55 rfl (by decide) ?_ ?_
            ·
              exact qb_exit (fun σ h => qj_wk (ρ' := [some (.ref (qx_ad X this)), some (.int p1), none, some (.int s1), some (.int x3), none, none, none]) (qw_s (qw_s (qw_n (qw_s (qw_s (qw_n (qw_n (qw_n (qw_0))))))))) h)
            ·
              exact qb_exit (fun σ h => qj_wk (ρ' := [some (.ref (qx_ad X this)), none, some (.int p2), none, none, none, none, none]) (qw_s (qw_n (qw_s (qw_n (qw_n (qw_n (qw_n (qw_n (qw_0))))))))) h)
        · intro s6
          refine qb_aload_n hX 29 rfl rfl ?_
          refine qb_getR hX 30 rfl fl_Teller_18 hthis rfl ?_
          refine qb_iload_n hX 31 rfl rfl ?_
          refine qb_callI hX 32 rfl cv_Teller_135 (jm_Run_add (qk_GI hX) (qm_rf this 1) p1 (kf_Teller_1 hthis) ) (ci := 4) (kf_Teller_1 hthis) ⟨rfl, rfl, rfl, by decide, by decide⟩ rfl (by exact Nat.le_of_ble_eq_true rfl) (fun x7 => ?_)
          refine qb_istore hX 33 ([some (.ref (qx_ad X this)), some (.int p1), none, some (.int s1), some (.int x3), some (.int x7), none, none]) rfl (by decide) rfl ?_
          refine qb_iload_n hX 34 rfl rfl ?_
          refine qb_iconst hX 35 3 rfl (by decide) ?_
          refine qb_join 87 (fun s8 => [some (.ref (qx_ad X this)), some (.int p1), none, some (.int s1), some (.int x3), some (.int x7), none, none]) (fun s8 => []) ?_ ?_
          ·
            refine qb_icne hX 36 87 rfl (by decide) ?_ ?_
            ·
              exact qb_exit (fun σ h => qj_wk (ρ' := [some (.ref (qx_ad X this)), some (.int p1), none, some (.int s1), some (.int x3), some (.int x7), none, none]) (qw_s (qw_s (qw_n (qw_s (qw_s (qw_s (qw_n (qw_n (qw_0))))))))) h)
            ·
              refine qb_aload_n hX 37 rfl rfl ?_
              refine qb_getR hX 38 rfl fl_Teller_18 hthis rfl ?_
              refine qb_iload hX 39 rfl rfl ?_
              refine qb_iconst hX 40 3 rfl (by decide) ?_
              refine qb_aload_n hX 41 rfl rfl ?_
              refine qb_iconst hX 42 0 rfl (by decide) ?_
              refine qb_bipush hX 43 9 rfl (by decide) ?_
              refine qb_callI hX 44 rfl cv_Teller_126 (jm_Teller_readNumber (qk_GI hX) this 0 9 hthis ) (ci := 6) hthis ⟨rfl, rfl, rfl, by decide, by decide⟩ rfl (by exact Nat.le_of_ble_eq_true rfl) (fun x9 => ?_)
              refine qb_callV hX 45 rfl cv_Teller_138 (jm_Run_putCell (qk_GI hX) (qm_rf this 1) x7 3 x9 (kf_Teller_1 hthis) ) (ci := 4) (kf_Teller_1 hthis) ⟨rfl, rfl, rfl, by decide, by decide⟩ rfl (by exact Nat.le_of_ble_eq_true rfl) ?_
              exact qb_exit (fun σ h => qj_wk (ρ' := [some (.ref (qx_ad X this)), some (.int p1), none, some (.int s1), some (.int x3), some (.int x7), none, none]) (qw_s (qw_s (qw_n (qw_s (qw_s (qw_s (qw_n (qw_n (qw_0))))))))) h)
          · intro s8
            refine qb_iload_n hX 46 rfl rfl ?_
            refine qb_join 96 (fun s10 => [some (.ref (qx_ad X this)), some (.int p1), none, none, some (.int x3), some (.int x7), none, none]) (fun s10 => [.int s10]) ?_ ?_
            ·
              refine qb_ifeq hX 47 95 rfl (by decide) ?_ ?_
              ·
                refine qb_iconst hX 50 0 rfl (by decide) ?_
                exact qb_exit (fun σ h => qj_wk (ρ' := [some (.ref (qx_ad X this)), some (.int p1), none, none, some (.int x3), some (.int x7), none, none]) (qw_s (qw_s (qw_n (qw_n (qw_s (qw_s (qw_n (qw_n (qw_0))))))))) h)
              ·
                refine qb_iconst hX 48 1 rfl (by decide) ?_
                exact qb_exit (fun σ h => qj_goto hX 49 rfl (by decide) (qj_wk (ρ' := [some (.ref (qx_ad X this)), some (.int p1), none, none, some (.int x3), some (.int x7), none, none]) (qw_s (qw_s (qw_n (qw_n (qw_s (qw_s (qw_n (qw_n (qw_0))))))))) h))
            · intro s10
              refine qb_istore hX 51 ([some (.ref (qx_ad X this)), some (.int p1), none, none, some (.int x3), some (.int x7), some (.int s10), none]) rfl (by decide) rfl ?_
              refine qb_iload_n hX 52 rfl rfl ?_
              refine qb_join 139 (fun s11 => [some (.ref (qx_ad X this)), some (.int p1), none, none, none, some (.int x7), some (.int s11), none]) (fun s11 => []) ?_ ?_
              ·
                refine qb_join2 107 (fun s12 => [some (.ref (qx_ad X this)), some (.int p1), none, none, some (.int x3), some (.int x7), none, none]) (fun s12 => []) ?_ ?_
                ·
                  refine qb_ifeq hX 53 107 rfl (by decide) ?_ ?_
                  ·
                    exact qb_exit (fun σ h => qj_wk (ρ' := [some (.ref (qx_ad X this)), some (.int p1), none, none, some (.int x3), some (.int x7), none, none]) (qw_s (qw_s (qw_n (qw_n (qw_s (qw_s (qw_n (qw_n (qw_0))))))))) h)
                  ·
                    refine qb_iload_n hX 54 rfl rfl ?_
                    refine qb_iconst hX 55 3 rfl (by decide) ?_
                    refine qb_icne hX 56 139 rfl (by decide) ?_ ?_
                    ·
                      exact qb_exit (fun σ h => qj_wk (ρ' := [some (.ref (qx_ad X this)), some (.int p1), none, none, none, some (.int x7), some (.int s10), none]) (qw_s (qw_s (qw_n (qw_n (qw_n (qw_s (qw_s (qw_n (qw_0))))))))) h)
                    ·
                      exact qb_exit (fun σ h => qj_wk (ρ' := [some (.ref (qx_ad X this)), some (.int p1), none, none, some (.int x3), some (.int x7), none, none]) (qw_s (qw_s (qw_n (qw_n (qw_s (qw_s (qw_n (qw_n (qw_0))))))))) h)
                · intro s12
                  refine qb_aload_n hX 57 rfl rfl ?_
                  refine qb_callI hX 58 rfl cv_Teller_55 (jm_Teller_place (qk_GI hX) this  hthis ) (ci := 6) hthis ⟨rfl, rfl, rfl, by decide, by decide⟩ rfl (by exact Nat.le_of_ble_eq_true rfl) (fun x13 => ?_)
                  refine qb_istore hX 59 ([some (.ref (qx_ad X this)), some (.int p1), none, none, some (.int x3), some (.int x7), none, some (.int x13)]) rfl (by decide) rfl ?_
                  refine qb_aload_n hX 60 rfl rfl ?_
                  refine qb_iconst hX 61 1 rfl (by decide) ?_
                  refine qb_bipush hX 62 30 rfl (by decide) ?_
                  refine qb_callI hX 63 rfl cv_Teller_126 (jm_Teller_readNumber (qk_GI hX) this 1 30 hthis ) (ci := 6) hthis ⟨rfl, rfl, rfl, by decide, by decide⟩ rfl (by exact Nat.le_of_ble_eq_true rfl) (fun x14 => ?_)
                  refine qb_istore hX 64 ([some (.ref (qx_ad X this)), some (.int p1), none, none, some (.int x3), some (.int x7), some (.int x14), some (.int x13)]) rfl (by decide) rfl ?_
                  refine qb_iload hX 65 rfl rfl ?_
                  refine qb_iload hX 66 rfl rfl ?_
                  refine qb_iadd hX 67 rfl ?_
                  refine qb_bipush hX 68 90 rfl (by decide) ?_
                  refine qb_icle hX 69 139 rfl (by decide) ?_ ?_
                  ·
                    exact qb_exit (fun σ h => qj_wk (ρ' := [some (.ref (qx_ad X this)), some (.int p1), none, none, none, some (.int x7), some (.int x14), none]) (qw_s (qw_s (qw_n (qw_n (qw_n (qw_s (qw_s (qw_n (qw_0))))))))) h)
                  ·
                    refine qb_aload_n hX 70 rfl rfl ?_
                    refine qb_iload hX 71 rfl rfl ?_
                    refine qb_iconst hX 72 3 rfl (by decide) ?_
                    refine qb_callV hX 73 rfl cv_Teller_58 (jm_Teller_wrong (qk_GI hX) this x13 3 hthis ) (ci := 6) hthis ⟨rfl, rfl, rfl, by decide, by decide⟩ rfl (by exact Nat.le_of_ble_eq_true rfl) ?_
                    exact qb_exit (fun σ h => qj_wk (ρ' := [some (.ref (qx_ad X this)), some (.int p1), none, none, none, some (.int x7), some (.int x14), none]) (qw_s (qw_s (qw_n (qw_n (qw_n (qw_s (qw_s (qw_n (qw_0))))))))) h)
              · intro s11
                refine qb_aload_n hX 74 rfl rfl ?_
                refine qb_getR hX 75 rfl fl_Teller_18 hthis rfl ?_
                refine qb_iload hX 76 rfl rfl ?_
                refine qb_iconst hX 77 1 rfl (by decide) ?_
                refine qb_iload hX 78 rfl rfl ?_
                refine qb_callV hX 79 rfl cv_Teller_138 (jm_Run_putCell (qk_GI hX) (qm_rf this 1) x7 1 s11 (kf_Teller_1 hthis) ) (ci := 4) (kf_Teller_1 hthis) ⟨rfl, rfl, rfl, by decide, by decide⟩ rfl (by exact Nat.le_of_ble_eq_true rfl) ?_
                refine qb_aload_n hX 80 rfl rfl ?_
                refine qb_getR hX 81 rfl fl_Teller_18 hthis rfl ?_
                refine qb_iload hX 82 rfl rfl ?_
                refine qb_iconst hX 83 2 rfl (by decide) ?_
                refine qb_aload_n hX 84 rfl rfl ?_
                refine qb_iconst hX 85 1 rfl (by decide) ?_
                refine qb_iload_n hX 86 rfl rfl ?_
                refine qb_calSI hX 87 rfl cv_Teller_142 (jm_Teller_mostHigh (qk_GI hX) p1 ) ⟨rfl, by decide, by decide⟩ rfl (by exact Nat.le_of_ble_eq_true rfl) (fun x15 => ?_)
                refine qb_callI hX 88 rfl cv_Teller_126 (jm_Teller_readNumber (qk_GI hX) this 1 x15 hthis ) (ci := 6) hthis ⟨rfl, rfl, rfl, by decide, by decide⟩ rfl (by exact Nat.le_of_ble_eq_true rfl) (fun x16 => ?_)
                refine qb_callV hX 89 rfl cv_Teller_138 (jm_Run_putCell (qk_GI hX) (qm_rf this 1) x7 2 x16 (kf_Teller_1 hthis) ) (ci := 4) (kf_Teller_1 hthis) ⟨rfl, rfl, rfl, by decide, by decide⟩ rfl (by exact Nat.le_of_ble_eq_true rfl) ?_
                refine qb_iload_n hX 90 rfl rfl ?_
                refine qb_iconst hX 91 4 rfl (by decide) ?_
                refine qb_iceq hX 92 182 rfl (by decide) ?_ ?_
                ·
                  exact qb_vret hX 97 rfl hR (fun _ h => h)
                ·
                  refine qb_aload_n hX 93 rfl rfl ?_
                  refine qb_iload hX 94 rfl rfl ?_
                  refine qb_iload_n hX 95 rfl rfl ?_
                  refine qb_callV hX 96 rfl cv_Teller_145 (jm_Teller_readWords (qk_GI hX) this x7 p1 hthis ) (ci := 6) hthis ⟨rfl, rfl, rfl, by decide, by decide⟩ rfl (by exact Nat.le_of_ble_eq_true rfl) ?_
                  exact qb_vret hX 97 rfl hR (fun _ h => h)
    · intro s5
      refine qb_aload_n hX 24 rfl rfl ?_
      refine qb_iload_n hX 25 rfl rfl ?_
      refine qb_iconst hX 26 3 rfl (by decide) ?_
      refine qb_callV hX 27 rfl cv_Teller_58 (jm_Teller_wrong (qk_GI hX) this p2 3 hthis ) (ci := 6) hthis ⟨rfl, rfl, rfl, by decide, by decide⟩ rfl (by exact Nat.le_of_ble_eq_true rfl) ?_
      exact qb_vret hX 28 rfl hR (fun _ h => h)
theorem jm_Teller_readBlock {l : Launch} {G : qm_G} (hG : qm_GI G) (this : Nat) (p1 : Int32) (p2 : Int32) (hthis : (qm_kd this).1 = 16) : qm_MV l G jy_Teller_readBlock prog_8_method_10_code 8 4 97 [.ref (G.1 this), .int p1, .int p2] (jf_Teller_readBlock this p1 p2) :=
  qm_metV (by decide +kernel) jd_Teller_readBlock (fun v hv => by simp only [List.mem_cons, List.not_mem_nil, or_false] at hv; rcases hv with rfl | rfl | rfl <;> rfl) (by exact Nat.le_of_ble_eq_true rfl) hG (fun X hl hg hX σ0 hR => by subst hl; subst hg; exact jb_Teller_readBlock hX hR this p1 p2 hthis)
def jl_Teller_readPart : List qm_I := [(0, .aload_n 0, 1, 1), (1, .invokevirtual 55, 3, 4), (4, .istore_n 1, 1, 5), (5, .aload_n 0, 1, 6), (6, .invokevirtual 108, 3, 9), (9, .istore_n 2, 1, 10), (10, .iload_n 2, 1, 11), (11, .iconst (-1), 1, 12), (12, .if_icmp .eq 9, 3, 15), (15, .iload_n 2, 1, 16), (16, .bipush 13, 2, 18), (18, .if_icmp .lt 12, 3, 21), (21, .aload_n 0, 1, 22), (22, .iload_n 1, 1, 23), (23, .iconst 1, 1, 24), (24, .invokevirtual 58, 3, 27), (27, .goto 27, 3, 30), (30, .iload_n 2, 1, 31), (31, .bipush 8, 2, 33), (33, .if_icmp .ge 12, 3, 36), (36, .aload_n 0, 1, 37), (37, .iload_n 2, 1, 38), (38, .iload_n 1, 1, 39), (39, .invokevirtual 111, 3, 42), (42, .goto 12, 3, 45), (45, .aload_n 0, 1, 46), (46, .iload_n 2, 1, 47), (47, .bipush 8, 2, 49), (49, .isub, 1, 50), (50, .iload_n 1, 1, 51), (51, .invokevirtual 114, 3, 54), (54, .return_, 1, 55)]
theorem jd_Teller_readPart : qm_D prog_8_method_8_code jl_Teller_readPart := qm_D_of (by decide +kernel)
noncomputable def jf_Teller_readPart (this : Nat) : qm_M Unit :=
  mB (jf_Teller_place this) fun x1 =>
  mB (jf_Teller_readWord this) fun x2 =>
  mB (α := (Unit ⊕ Unit)) (
    if x2 = (-1) then
      mP (Sum.inl ())
    else
      if x2 < 13 then
        if 8 ≤ x2 then
          mB (jf_Teller_readBlock this (x2 - 8) x1) fun _ =>
          mP (Sum.inr ())
        else
          mB (jf_Teller_readSetting this x2 x1) fun _ =>
          mP (Sum.inr ())
      else
        mP (Sum.inl ())) (Sum.elim (fun s3 =>
    mB (jf_Teller_wrong this x1 1) fun _ =>
    mP ()) mP)
set_option maxRecDepth 20000 in
set_option maxHeartbeats 4000000 in
theorem jb_Teller_readPart {X : qm_X} (hX : qm_ok X qr_Teller prog_8_method_8_code 3 5 124 jl_Teller_readPart) {σ0 : qm_Mem} (hR : qm_RV X σ0) (this : Nat) (hthis : (qm_kd this).1 = 16) : qm_B X (jf_Teller_readPart this) 0 [some (.ref (qx_ad X this)), none, none] [] (fun _ σ1 => σ1 = σ0) := by
  unfold jf_Teller_readPart
  refine qb_aload_n hX 0 rfl rfl ?_
  refine qb_callI hX 1 rfl cv_Teller_55 (jm_Teller_place (qk_GI hX) this  hthis ) (ci := 6) hthis ⟨rfl, rfl, rfl, by decide, by decide⟩ rfl (by exact Nat.le_of_ble_eq_true rfl) (fun x1 => ?_)
  refine qb_istore_n hX 2 ([some (.ref (qx_ad X this)), some (.int x1), none]) rfl (by decide) rfl ?_
  refine qb_aload_n hX 3 rfl rfl ?_
  refine qb_callI hX 4 rfl cv_Teller_108 (jm_Teller_readWord (qk_GI hX) this  hthis ) (ci := 6) hthis ⟨rfl, rfl, rfl, by decide, by decide⟩ rfl (by exact Nat.le_of_ble_eq_true rfl) (fun x2 => ?_)
  refine qb_istore_n hX 5 ([some (.ref (qx_ad X this)), some (.int x1), some (.int x2)]) rfl (by decide) rfl ?_
  refine qb_iload_n hX 6 rfl rfl ?_
  refine qb_iconst hX 7 (-1) rfl (by decide) ?_
  refine qb_join2 21 (fun s3 => [some (.ref (qx_ad X this)), some (.int x1), none]) (fun s3 => []) ?_ ?_
  ·
    refine qb_iceq hX 8 21 rfl (by decide) ?_ ?_
    ·
      exact qb_exit (fun σ h => qj_wk (ρ' := [some (.ref (qx_ad X this)), some (.int x1), none]) (qw_s (qw_s (qw_n (qw_0)))) h)
    ·
      refine qb_iload_n hX 9 rfl rfl ?_
      refine qb_bipush hX 10 13 rfl (by decide) ?_
      refine qb_iclt hX 11 30 rfl (by decide) ?_ ?_
      ·
        refine qb_iload_n hX 17 rfl rfl ?_
        refine qb_bipush hX 18 8 rfl (by decide) ?_
        refine qb_icge hX 19 45 rfl (by decide) ?_ ?_
        ·
          refine qb_aload_n hX 25 rfl rfl ?_
          refine qb_iload_n hX 26 rfl rfl ?_
          refine qb_bipush hX 27 8 rfl (by decide) ?_
          refine qb_isub hX 28 rfl ?_
          refine qb_iload_n hX 29 rfl rfl ?_
          refine qb_callV hX 30 rfl cv_Teller_114 (jm_Teller_readBlock (qk_GI hX) this (x2 - 8) x1 hthis ) (ci := 6) hthis ⟨rfl, rfl, rfl, by decide, by decide⟩ rfl (by exact Nat.le_of_ble_eq_true rfl) ?_
          exact qb_vret hX 31 rfl hR (fun _ h => h)
        ·
          refine qb_aload_n hX 20 rfl rfl ?_
          refine qb_iload_n hX 21 rfl rfl ?_
          refine qb_iload_n hX 22 rfl rfl ?_
          refine qb_callV hX 23 rfl cv_Teller_111 (jm_Teller_readSetting (qk_GI hX) this x2 x1 hthis ) (ci := 6) hthis ⟨rfl, rfl, rfl, by decide, by decide⟩ rfl (by exact Nat.le_of_ble_eq_true rfl) ?_
          refine qb_goto hX 24 (tgt := 54) rfl (by decide) ?_
          exact qb_vret hX 31 rfl hR (fun _ h => h)
      ·
        exact qb_exit (fun σ h => qj_wk (ρ' := [some (.ref (qx_ad X this)), some (.int x1), none]) (qw_s (qw_s (qw_n (qw_0)))) h)
  · intro s3
    refine qb_aload_n hX 12 rfl rfl ?_
    refine qb_iload_n hX 13 rfl rfl ?_
    refine qb_iconst hX 14 1 rfl (by decide) ?_
    refine qb_callV hX 15 rfl cv_Teller_58 (jm_Teller_wrong (qk_GI hX) this x1 1 hthis ) (ci := 6) hthis ⟨rfl, rfl, rfl, by decide, by decide⟩ rfl (by exact Nat.le_of_ble_eq_true rfl) ?_
    refine qb_goto hX 16 (tgt := 54) rfl (by decide) ?_
    exact qb_vret hX 31 rfl hR (fun _ h => h)
theorem jm_Teller_readPart {l : Launch} {G : qm_G} (hG : qm_GI G) (this : Nat) (hthis : (qm_kd this).1 = 16) : qm_MV l G jy_Teller_readPart prog_8_method_8_code 3 5 124 [.ref (G.1 this)] (jf_Teller_readPart this) :=
  qm_metV (by decide +kernel) jd_Teller_readPart (fun v hv => by simp only [List.mem_cons, List.not_mem_nil, or_false] at hv; rcases hv with rfl <;> rfl) (by exact Nat.le_of_ble_eq_true rfl) hG (fun X hl hg hX σ0 hR => by subst hl; subst hg; exact jb_Teller_readPart hX hR this hthis)
def jl_Top_feed : List qm_I := [(0, .aload_n 0, 1, 1), (1, .getfield 19, 3, 4), (4, .getfield 64, 3, 7), (7, .bipush 20, 2, 9), (9, .iadd, 1, 10), (10, .sipush 400, 3, 13), (13, .if_icmp .le 5, 3, 16), (16, .iconst (-1), 1, 17), (17, .ireturn, 1, 18), (18, .aload_n 0, 1, 19), (19, .getfield 19, 3, 22), (22, .iload_n 1, 1, 23), (23, .invokevirtual 68, 3, 26), (26, .aload_n 0, 1, 27), (27, .getfield 19, 3, 30), (30, .iload_n 2, 1, 31), (31, .invokevirtual 68, 3, 34), (34, .aload_n 0, 1, 35), (35, .getfield 19, 3, 38), (38, .iload_n 3, 1, 39), (39, .invokevirtual 68, 3, 42), (42, .aload_n 0, 1, 43), (43, .getfield 19, 3, 46), (46, .iload 4, 2, 48), (48, .invokevirtual 68, 3, 51), (51, .aload_n 0, 1, 52), (52, .getfield 19, 3, 55), (55, .iload 5, 2, 57), (57, .invokevirtual 68, 3, 60), (60, .aload_n 0, 1, 61), (61, .getfield 19, 3, 64), (64, .getfield 64, 3, 67), (67, .ireturn, 1, 68)]
theorem jd_Top_feed : qm_D prog_1_method_2_code jl_Top_feed := qm_D_of (by decide +kernel)
noncomputable def jf_Top_feed (this : Nat) (p1 : Int32) (p2 : Int32) (p3 : Int32) (p4 : Int32) (p5 : Int32) : qm_M Int32 :=
  mB (mGt (qm_rf this 1) 1) fun x1 =>
  if (x1 + 20) ≤ 400 then
    mB (jf_Tape_append (qm_rf this 1) p1) fun _ =>
    mB (jf_Tape_append (qm_rf this 1) p2) fun _ =>
    mB (jf_Tape_append (qm_rf this 1) p3) fun _ =>
    mB (jf_Tape_append (qm_rf this 1) p4) fun _ =>
    mB (jf_Tape_append (qm_rf this 1) p5) fun _ =>
    mB (mGt (qm_rf this 1) 1) fun x2 =>
    mP x2
  else
    mP (-1)
set_option maxRecDepth 20000 in
set_option maxHeartbeats 4000000 in
theorem jb_Top_feed {X : qm_X} (hX : qm_ok X qr_Top prog_1_method_2_code 6 1 22 jl_Top_feed) {r0 : Int32} {σ0 : qm_Mem} (hR : qm_RI X r0 σ0 .int) (this : Nat) (p1 : Int32) (p2 : Int32) (p3 : Int32) (p4 : Int32) (p5 : Int32) (hthis : (qm_kd this).1 = 18) : qm_B X (jf_Top_feed this p1 p2 p3 p4 p5) 0 [some (.ref (qx_ad X this)), some (.int p1), some (.int p2), some (.int p3), some (.int p4), some (.int p5)] [] (fun r σ1 => r = r0 ∧ σ1 = σ0) := by
  unfold jf_Top_feed
  refine qb_aload_n hX 0 rfl rfl ?_
  refine qb_getR hX 1 rfl fl_Top_19 hthis rfl ?_
  refine qb_get hX 2 rfl fl_Top_64 (kf_Top_1 hthis) rfl (fun x1 => ?_)
  refine qb_bipush hX 3 20 rfl (by decide) ?_
  refine qb_iadd hX 4 rfl ?_
  refine qb_sipush hX 5 400 rfl (by decide) ?_
  refine qb_icle hX 6 18 rfl (by decide) ?_ ?_
  ·
    refine qb_aload_n hX 9 rfl rfl ?_
    refine qb_getR hX 10 rfl fl_Top_19 hthis rfl ?_
    refine qb_iload_n hX 11 rfl rfl ?_
    refine qb_callV hX 12 rfl cv_Top_68 (jm_Tape_append (qk_GI hX) (qm_rf this 1) p1 (kf_Top_1 hthis) ) (ci := 5) (kf_Top_1 hthis) ⟨rfl, rfl, rfl, by decide, by decide⟩ rfl (by exact Nat.le_of_ble_eq_true rfl) ?_
    refine qb_aload_n hX 13 rfl rfl ?_
    refine qb_getR hX 14 rfl fl_Top_19 hthis rfl ?_
    refine qb_iload_n hX 15 rfl rfl ?_
    refine qb_callV hX 16 rfl cv_Top_68 (jm_Tape_append (qk_GI hX) (qm_rf this 1) p2 (kf_Top_1 hthis) ) (ci := 5) (kf_Top_1 hthis) ⟨rfl, rfl, rfl, by decide, by decide⟩ rfl (by exact Nat.le_of_ble_eq_true rfl) ?_
    refine qb_aload_n hX 17 rfl rfl ?_
    refine qb_getR hX 18 rfl fl_Top_19 hthis rfl ?_
    refine qb_iload_n hX 19 rfl rfl ?_
    refine qb_callV hX 20 rfl cv_Top_68 (jm_Tape_append (qk_GI hX) (qm_rf this 1) p3 (kf_Top_1 hthis) ) (ci := 5) (kf_Top_1 hthis) ⟨rfl, rfl, rfl, by decide, by decide⟩ rfl (by exact Nat.le_of_ble_eq_true rfl) ?_
    refine qb_aload_n hX 21 rfl rfl ?_
    refine qb_getR hX 22 rfl fl_Top_19 hthis rfl ?_
    refine qb_iload hX 23 rfl rfl ?_
    refine qb_callV hX 24 rfl cv_Top_68 (jm_Tape_append (qk_GI hX) (qm_rf this 1) p4 (kf_Top_1 hthis) ) (ci := 5) (kf_Top_1 hthis) ⟨rfl, rfl, rfl, by decide, by decide⟩ rfl (by exact Nat.le_of_ble_eq_true rfl) ?_
    refine qb_aload_n hX 25 rfl rfl ?_
    refine qb_getR hX 26 rfl fl_Top_19 hthis rfl ?_
    refine qb_iload hX 27 rfl rfl ?_
    refine qb_callV hX 28 rfl cv_Top_68 (jm_Tape_append (qk_GI hX) (qm_rf this 1) p5 (kf_Top_1 hthis) ) (ci := 5) (kf_Top_1 hthis) ⟨rfl, rfl, rfl, by decide, by decide⟩ rfl (by exact Nat.le_of_ble_eq_true rfl) ?_
    refine qb_aload_n hX 29 rfl rfl ?_
    refine qb_getR hX 30 rfl fl_Top_19 hthis rfl ?_
    refine qb_get hX 31 rfl fl_Top_64 (kf_Top_1 hthis) rfl (fun x2 => ?_)
    exact qb_iret hX 32 rfl hR (fun _ h => h)
  ·
    refine qb_iconst hX 7 (-1) rfl (by decide) ?_
    exact qb_iret hX 8 rfl hR (fun _ h => h)
theorem jm_Top_feed {l : Launch} {G : qm_G} (hG : qm_GI G) (this : Nat) (p1 : Int32) (p2 : Int32) (p3 : Int32) (p4 : Int32) (p5 : Int32) (hthis : (qm_kd this).1 = 18) : qm_MI l G jy_Top_feed prog_1_method_2_code 6 (some .int) 1 22 [.ref (G.1 this), .int p1, .int p2, .int p3, .int p4, .int p5] (jf_Top_feed this p1 p2 p3 p4 p5) :=
  qm_metI (by decide +kernel) jd_Top_feed (fun v hv => by simp only [List.mem_cons, List.not_mem_nil, or_false] at hv; rcases hv with rfl | rfl | rfl | rfl | rfl | rfl <;> rfl) (by exact Nat.le_of_ble_eq_true rfl) hG rfl (fun X hl hg hX r0 σ0 hR => by subst hl; subst hg; exact jb_Top_feed hX hR this p1 p2 p3 p4 p5 hthis)
def jl_Top_end : List qm_I := [(0, .iload_n 1, 1, 1), (1, .ifCond .lt 14, 3, 4), (4, .iload_n 1, 1, 5), (5, .aload_n 0, 1, 6), (6, .getfield 19, 3, 9), (9, .getfield 64, 3, 12), (12, .if_icmp .le 5, 3, 15), (15, .iconst (-1), 1, 16), (16, .ireturn, 1, 17), (17, .aload_n 0, 1, 18), (18, .getfield 19, 3, 21), (21, .iload_n 1, 1, 22), (22, .putfield 64, 3, 25), (25, .iload_n 1, 1, 26), (26, .ireturn, 1, 27)]
theorem jd_Top_end : qm_D prog_1_method_3_code jl_Top_end := qm_D_of (by decide +kernel)
noncomputable def jf_Top_end (this : Nat) (p1 : Int32) : qm_M Int32 :=
  if p1 < 0 then
    mP (-1)
  else
    mB (mGt (qm_rf this 1) 1) fun x1 =>
    if p1 ≤ x1 then
      mB (mPt (qm_rf this 1) 1 p1) fun _ =>
      mP p1
    else
      mP (-1)
set_option maxRecDepth 20000 in
set_option maxHeartbeats 4000000 in
theorem jb_Top_end {X : qm_X} (hX : qm_ok X qr_Top prog_1_method_3_code 2 0 0 jl_Top_end) {r0 : Int32} {σ0 : qm_Mem} (hR : qm_RI X r0 σ0 .int) (this : Nat) (p1 : Int32) (hthis : (qm_kd this).1 = 18) : qm_B X (jf_Top_end this p1) 0 [some (.ref (qx_ad X this)), some (.int p1)] [] (fun r σ1 => r = r0 ∧ σ1 = σ0) := by
  unfold jf_Top_end
  refine qb_iload_n hX 0 rfl rfl ?_
  refine qb_iflt hX 1 15 rfl (by decide) ?_ ?_
  ·
    refine qb_iconst hX 7 (-1) rfl (by decide) ?_
    exact qb_iret hX 8 rfl hR (fun _ h => h)
  ·
    refine qb_iload_n hX 2 rfl rfl ?_
    refine qb_aload_n hX 3 rfl rfl ?_
    refine qb_getR hX 4 rfl fl_Top_19 hthis rfl ?_
    refine qb_get hX 5 rfl fl_Top_64 (kf_Top_1 hthis) rfl (fun x1 => ?_)
    refine qb_icle hX 6 17 rfl (by decide) ?_ ?_
    ·
      refine qb_aload_n hX 9 rfl rfl ?_
      refine qb_getR hX 10 rfl fl_Top_19 hthis rfl ?_
      refine qb_iload_n hX 11 rfl rfl ?_
      refine qb_put hX 12 rfl fp_Top_64 (kf_Top_1 hthis) ?_
      refine qb_iload_n hX 13 rfl rfl ?_
      exact qb_iret hX 14 rfl hR (fun _ h => h)
    ·
      refine qb_iconst hX 7 (-1) rfl (by decide) ?_
      exact qb_iret hX 8 rfl hR (fun _ h => h)
theorem jm_Top_end {l : Launch} {G : qm_G} (hG : qm_GI G) (this : Nat) (p1 : Int32) (hthis : (qm_kd this).1 = 18) : qm_MI l G jy_Top_end prog_1_method_3_code 2 (some .int) 0 0 [.ref (G.1 this), .int p1] (jf_Top_end this p1) :=
  qm_metI (by decide +kernel) jd_Top_end (fun v hv => by simp only [List.mem_cons, List.not_mem_nil, or_false] at hv; rcases hv with rfl | rfl <;> rfl) (by exact Nat.le_of_ble_eq_true rfl) hG rfl (fun X hl hg hX r0 σ0 hR => by subst hl; subst hg; exact jb_Top_end hX hR this p1 hthis)
def jl_Top_changed : List qm_I := [(0, .aload_n 0, 1, 1), (1, .iconst 0, 1, 2), (2, .putfield 330, 3, 5), (5, .aload_n 0, 1, 6), (6, .iconst 0, 1, 7), (7, .putfield 334, 3, 10), (10, .return_, 1, 11)]
theorem jd_Top_changed : qm_D prog_1_method_38_code jl_Top_changed := qm_D_of (by decide +kernel)
noncomputable def jf_Top_changed (this : Nat) : qm_M Unit :=
  mB (mPz this 9 0) fun _ =>
  mB (mPz this 10 0) fun _ =>
  mP ()
set_option maxRecDepth 20000 in
set_option maxHeartbeats 4000000 in
theorem jb_Top_changed {X : qm_X} (hX : qm_ok X qr_Top prog_1_method_38_code 1 0 0 jl_Top_changed) {σ0 : qm_Mem} (hR : qm_RV X σ0) (this : Nat) (hthis : (qm_kd this).1 = 18) : qm_B X (jf_Top_changed this) 0 [some (.ref (qx_ad X this))] [] (fun _ σ1 => σ1 = σ0) := by
  unfold jf_Top_changed
  refine qb_aload_n hX 0 rfl rfl ?_
  refine qb_iconst hX 1 0 rfl (by decide) ?_
  refine qb_putZ hX 2 rfl fp_Top_330 hthis ?_
  refine qb_aload_n hX 3 rfl rfl ?_
  refine qb_iconst hX 4 0 rfl (by decide) ?_
  refine qb_putZ hX 5 rfl fp_Top_334 hthis ?_
  exact qb_vret hX 6 rfl hR (fun _ h => h)
theorem jm_Top_changed {l : Launch} {G : qm_G} (hG : qm_GI G) (this : Nat) (hthis : (qm_kd this).1 = 18) : qm_MV l G jy_Top_changed prog_1_method_38_code 1 0 0 [.ref (G.1 this)] (jf_Top_changed this) :=
  qm_metV (by decide +kernel) jd_Top_changed (fun v hv => by simp only [List.mem_cons, List.not_mem_nil, or_false] at hv; rcases hv with rfl <;> rfl) (by exact Nat.le_of_ble_eq_true rfl) hG (fun X hl hg hX σ0 hR => by subst hl; subst hg; exact jb_Top_changed hX hR this hthis)
def jl_Top_beginAct : List qm_I := [(0, .aload_n 0, 1, 1), (1, .getfield 35, 3, 4), (4, .aload_n 0, 1, 5), (5, .getfield 12, 3, 8), (8, .invokevirtual 327, 3, 11), (11, .aload_n 0, 1, 12), (12, .invokevirtual 86, 3, 15), (15, .return_, 1, 16)]
theorem jd_Top_beginAct : qm_D prog_1_method_37_code jl_Top_beginAct := qm_D_of (by decide +kernel)
noncomputable def jf_Top_beginAct (this : Nat) : qm_M Unit :=
  mB (jf_Past_push (qm_rf this 3) (qm_rf this 0)) fun _ =>
  mB (jf_Top_changed this) fun _ =>
  mP ()
set_option maxRecDepth 20000 in
set_option maxHeartbeats 4000000 in
theorem jb_Top_beginAct {X : qm_X} (hX : qm_ok X qr_Top prog_1_method_37_code 1 2 43 jl_Top_beginAct) {σ0 : qm_Mem} (hR : qm_RV X σ0) (this : Nat) (hthis : (qm_kd this).1 = 18) : qm_B X (jf_Top_beginAct this) 0 [some (.ref (qx_ad X this))] [] (fun _ σ1 => σ1 = σ0) := by
  unfold jf_Top_beginAct
  refine qb_aload_n hX 0 rfl rfl ?_
  refine qb_getR hX 1 rfl fl_Top_35 hthis rfl ?_
  refine qb_aload_n hX 2 rfl rfl ?_
  refine qb_getR hX 3 rfl fl_Top_12 hthis rfl ?_
  refine qb_callV hX 4 rfl cv_Top_327 (jm_Past_push (qk_GI hX) (qm_rf this 3) (qm_rf this 0) (kf_Top_3 hthis) (kf_Top_0 hthis)) (ci := 2) (kf_Top_3 hthis) ⟨rfl, rfl, rfl, by decide, by decide⟩ rfl (by exact Nat.le_of_ble_eq_true rfl) ?_
  refine qb_aload_n hX 5 rfl rfl ?_
  refine qb_callV hX 6 rfl cv_Top_86 (jm_Top_changed (qk_GI hX) this  hthis ) (ci := 8) hthis ⟨rfl, rfl, rfl, by decide, by decide⟩ rfl (by exact Nat.le_of_ble_eq_true rfl) ?_
  exact qb_vret hX 7 rfl hR (fun _ h => h)
theorem jm_Top_beginAct {l : Launch} {G : qm_G} (hG : qm_GI G) (this : Nat) (hthis : (qm_kd this).1 = 18) : qm_MV l G jy_Top_beginAct prog_1_method_37_code 1 2 43 [.ref (G.1 this)] (jf_Top_beginAct this) :=
  qm_metV (by decide +kernel) jd_Top_beginAct (fun v hv => by simp only [List.mem_cons, List.not_mem_nil, or_false] at hv; rcases hv with rfl <;> rfl) (by exact Nat.le_of_ble_eq_true rfl) hG (fun X hl hg hX σ0 hR => by subst hl; subst hg; exact jb_Top_beginAct hX hR this hthis)
def jl_Top_set : List qm_I := [(0, .iload_n 1, 1, 1), (1, .iload_n 2, 1, 2), (2, .invokestatic 89, 3, 5), (5, .ifCond .ne 5, 3, 8), (8, .iconst (-1), 1, 9), (9, .ireturn, 1, 10), (10, .aload_n 0, 1, 11), (11, .getfield 12, 3, 14), (14, .iload_n 1, 1, 15), (15, .invokevirtual 93, 3, 18), (18, .istore_n 3, 1, 19), (19, .iload_n 3, 1, 20), (20, .iload_n 2, 1, 21), (21, .if_icmp .ne 6, 3, 24), (24, .bipush (-2), 2, 26), (26, .ireturn, 1, 27), (27, .aload_n 0, 1, 28), (28, .invokevirtual 97, 3, 31), (31, .aload_n 0, 1, 32), (32, .getfield 12, 3, 35), (35, .iload_n 1, 1, 36), (36, .iload_n 2, 1, 37), (37, .invokevirtual 100, 3, 40), (40, .iload_n 3, 1, 41), (41, .ireturn, 1, 42)]
theorem jd_Top_set : qm_D prog_1_method_5_code jl_Top_set := qm_D_of (by decide +kernel)
noncomputable def jf_Top_set (this : Nat) (p1 : Int32) (p2 : Int32) : qm_M Int32 :=
  mB (jf_Run_takes p1 p2) fun x1 =>
  if ¬ x1 = 0 then
    mB (jf_Run_setting (qm_rf this 0) p1) fun x2 =>
    if ¬ x2 = p2 then
      mB (jf_Top_beginAct this) fun _ =>
      mB (jf_Run_put (qm_rf this 0) p1 p2) fun _ =>
      mP x2
    else
      mP (-2)
  else
    mP (-1)
set_option maxRecDepth 20000 in
set_option maxHeartbeats 4000000 in
theorem jb_Top_set {X : qm_X} (hX : qm_ok X qr_Top prog_1_method_5_code 4 3 63 jl_Top_set) {r0 : Int32} {σ0 : qm_Mem} (hR : qm_RI X r0 σ0 .int) (this : Nat) (p1 : Int32) (p2 : Int32) (hthis : (qm_kd this).1 = 18) : qm_B X (jf_Top_set this p1 p2) 0 [some (.ref (qx_ad X this)), some (.int p1), some (.int p2), none] [] (fun r σ1 => r = r0 ∧ σ1 = σ0) := by
  unfold jf_Top_set
  refine qb_iload_n hX 0 rfl rfl ?_
  refine qb_iload_n hX 1 rfl rfl ?_
  refine qb_calSI hX 2 rfl cv_Top_89 (jm_Run_takes (qk_GI hX) p1 p2 ) ⟨rfl, by decide, by decide⟩ rfl (by exact Nat.le_of_ble_eq_true rfl) (fun x1 => ?_)
  refine qb_ifne hX 3 10 rfl (by decide) ?_ ?_
  ·
    refine qb_aload_n hX 6 rfl rfl ?_
    refine qb_getR hX 7 rfl fl_Top_12 hthis rfl ?_
    refine qb_iload_n hX 8 rfl rfl ?_
    refine qb_callI hX 9 rfl cv_Top_93 (jm_Run_setting (qk_GI hX) (qm_rf this 0) p1 (kf_Top_0 hthis) ) (ci := 4) (kf_Top_0 hthis) ⟨rfl, rfl, rfl, by decide, by decide⟩ rfl (by exact Nat.le_of_ble_eq_true rfl) (fun x2 => ?_)
    refine qb_istore_n hX 10 ([some (.ref (qx_ad X this)), some (.int p1), some (.int p2), some (.int x2)]) rfl (by decide) rfl ?_
    refine qb_iload_n hX 11 rfl rfl ?_
    refine qb_iload_n hX 12 rfl rfl ?_
    refine qb_icne hX 13 27 rfl (by decide) ?_ ?_
    ·
      refine qb_aload_n hX 16 rfl rfl ?_
      refine qb_callV hX 17 rfl cv_Top_97 (jm_Top_beginAct (qk_GI hX) this  hthis ) (ci := 8) hthis ⟨rfl, rfl, rfl, by decide, by decide⟩ rfl (by exact Nat.le_of_ble_eq_true rfl) ?_
      refine qb_aload_n hX 18 rfl rfl ?_
      refine qb_getR hX 19 rfl fl_Top_12 hthis rfl ?_
      refine qb_iload_n hX 20 rfl rfl ?_
      refine qb_iload_n hX 21 rfl rfl ?_
      refine qb_callV hX 22 rfl cv_Top_100 (jm_Run_put (qk_GI hX) (qm_rf this 0) p1 p2 (kf_Top_0 hthis) ) (ci := 4) (kf_Top_0 hthis) ⟨rfl, rfl, rfl, by decide, by decide⟩ rfl (by exact Nat.le_of_ble_eq_true rfl) ?_
      refine qb_iload_n hX 23 rfl rfl ?_
      exact qb_iret hX 24 rfl hR (fun _ h => h)
    ·
      refine qb_bipush hX 14 (-2) rfl (by decide) ?_
      exact qb_iret hX 15 rfl hR (fun _ h => h)
  ·
    refine qb_iconst hX 4 (-1) rfl (by decide) ?_
    exact qb_iret hX 5 rfl hR (fun _ h => h)
theorem jm_Top_set {l : Launch} {G : qm_G} (hG : qm_GI G) (this : Nat) (p1 : Int32) (p2 : Int32) (hthis : (qm_kd this).1 = 18) : qm_MI l G jy_Top_set prog_1_method_5_code 4 (some .int) 3 63 [.ref (G.1 this), .int p1, .int p2] (jf_Top_set this p1 p2) :=
  qm_metI (by decide +kernel) jd_Top_set (fun v hv => by simp only [List.mem_cons, List.not_mem_nil, or_false] at hv; rcases hv with rfl | rfl | rfl <;> rfl) (by exact Nat.le_of_ble_eq_true rfl) hG rfl (fun X hl hg hX r0 σ0 hR => by subst hl; subst hg; exact jb_Top_set hX hR this p1 p2 hthis)
def jl_Top_tie : List qm_I := [(0, .aload_n 0, 1, 1), (1, .getfield 12, 3, 4), (4, .iload_n 1, 1, 5), (5, .invokevirtual 104, 3, 8), (8, .ifCond .ne 5, 3, 11), (11, .iconst (-1), 1, 12), (12, .ireturn, 1, 13), (13, .iload_n 2, 1, 14), (14, .ifCond .eq 7, 3, 17), (17, .iconst 1, 1, 18), (18, .goto 4, 3, 21), (21, .iconst 0, 1, 22), (22, .istore_n 3, 1, 23), (23, .aload_n 0, 1, 24), (24, .getfield 12, 3, 27), (27, .iload_n 1, 1, 28), (28, .iconst 4, 1, 29), (29, .invokevirtual 108, 3, 32), (32, .iload_n 3, 1, 33), (33, .if_icmp .ne 6, 3, 36), (36, .bipush (-2), 2, 38), (38, .ireturn, 1, 39), (39, .aload_n 0, 1, 40), (40, .invokevirtual 97, 3, 43), (43, .aload_n 0, 1, 44), (44, .getfield 12, 3, 47), (47, .iload_n 1, 1, 48), (48, .iconst 4, 1, 49), (49, .iload_n 3, 1, 50), (50, .invokevirtual 112, 3, 53), (53, .iconst 1, 1, 54), (54, .ireturn, 1, 55)]
theorem jd_Top_tie : qm_D prog_1_method_6_code jl_Top_tie := qm_D_of (by decide +kernel)
noncomputable def jf_Top_tie (this : Nat) (p1 : Int32) (p2 : Int32) : qm_M Int32 :=
  mB (jf_Run_hasPieces (qm_rf this 0) p1) fun x1 =>
  if ¬ x1 = 0 then
    mB (α := Int32) (
      if p2 = 0 then
        mP 0
      else
        mP 1) fun s2 =>
    mB (jf_Run_cell (qm_rf this 0) p1 4) fun x3 =>
    if ¬ x3 = s2 then
      mB (jf_Top_beginAct this) fun _ =>
      mB (jf_Run_putCell (qm_rf this 0) p1 4 s2) fun _ =>
      mP 1
    else
      mP (-2)
  else
    mP (-1)
set_option maxRecDepth 20000 in
set_option maxHeartbeats 4000000 in
theorem jb_Top_tie {X : qm_X} (hX : qm_ok X qr_Top prog_1_method_6_code 4 3 63 jl_Top_tie) {r0 : Int32} {σ0 : qm_Mem} (hR : qm_RI X r0 σ0 .int) (this : Nat) (p1 : Int32) (p2 : Int32) (hthis : (qm_kd this).1 = 18) : qm_B X (jf_Top_tie this p1 p2) 0 [some (.ref (qx_ad X this)), some (.int p1), some (.int p2), none] [] (fun r σ1 => r = r0 ∧ σ1 = σ0) := by
  unfold jf_Top_tie
  refine qb_aload_n hX 0 rfl rfl ?_
  refine qb_getR hX 1 rfl fl_Top_12 hthis rfl ?_
  refine qb_iload_n hX 2 rfl rfl ?_
  refine qb_callI hX 3 rfl cv_Top_104 (jm_Run_hasPieces (qk_GI hX) (qm_rf this 0) p1 (kf_Top_0 hthis) ) (ci := 4) (kf_Top_0 hthis) ⟨rfl, rfl, rfl, by decide, by decide⟩ rfl (by exact Nat.le_of_ble_eq_true rfl) (fun x1 => ?_)
  refine qb_ifne hX 4 13 rfl (by decide) ?_ ?_
  ·
    refine qb_iload_n hX 7 rfl rfl ?_
    refine qb_join 22 (fun s2 => [some (.ref (qx_ad X this)), some (.int p1), none, none]) (fun s2 => [.int s2]) ?_ ?_
    ·
      refine qb_ifeq hX 8 21 rfl (by decide) ?_ ?_
      ·
        refine qb_iconst hX 11 0 rfl (by decide) ?_
        exact qb_exit (fun σ h => qj_wk (ρ' := [some (.ref (qx_ad X this)), some (.int p1), none, none]) (qw_s (qw_s (qw_n (qw_n (qw_0))))) h)
      ·
        refine qb_iconst hX 9 1 rfl (by decide) ?_
        exact qb_exit (fun σ h => qj_goto hX 10 rfl (by decide) (qj_wk (ρ' := [some (.ref (qx_ad X this)), some (.int p1), none, none]) (qw_s (qw_s (qw_n (qw_n (qw_0))))) h))
    · intro s2
      refine qb_istore_n hX 12 ([some (.ref (qx_ad X this)), some (.int p1), none, some (.int s2)]) rfl (by decide) rfl ?_
      refine qb_aload_n hX 13 rfl rfl ?_
      refine qb_getR hX 14 rfl fl_Top_12 hthis rfl ?_
      refine qb_iload_n hX 15 rfl rfl ?_
      refine qb_iconst hX 16 4 rfl (by decide) ?_
      refine qb_callI hX 17 rfl cv_Top_108 (jm_Run_cell (qk_GI hX) (qm_rf this 0) p1 4 (kf_Top_0 hthis) ) (ci := 4) (kf_Top_0 hthis) ⟨rfl, rfl, rfl, by decide, by decide⟩ rfl (by exact Nat.le_of_ble_eq_true rfl) (fun x3 => ?_)
      refine qb_iload_n hX 18 rfl rfl ?_
      refine qb_icne hX 19 39 rfl (by decide) ?_ ?_
      ·
        refine qb_aload_n hX 22 rfl rfl ?_
        refine qb_callV hX 23 rfl cv_Top_97 (jm_Top_beginAct (qk_GI hX) this  hthis ) (ci := 8) hthis ⟨rfl, rfl, rfl, by decide, by decide⟩ rfl (by exact Nat.le_of_ble_eq_true rfl) ?_
        refine qb_aload_n hX 24 rfl rfl ?_
        refine qb_getR hX 25 rfl fl_Top_12 hthis rfl ?_
        refine qb_iload_n hX 26 rfl rfl ?_
        refine qb_iconst hX 27 4 rfl (by decide) ?_
        refine qb_iload_n hX 28 rfl rfl ?_
        refine qb_callV hX 29 rfl cv_Top_112 (jm_Run_putCell (qk_GI hX) (qm_rf this 0) p1 4 s2 (kf_Top_0 hthis) ) (ci := 4) (kf_Top_0 hthis) ⟨rfl, rfl, rfl, by decide, by decide⟩ rfl (by exact Nat.le_of_ble_eq_true rfl) ?_
        refine qb_iconst hX 30 1 rfl (by decide) ?_
        exact qb_iret hX 31 rfl hR (fun _ h => h)
      ·
        refine qb_bipush hX 20 (-2) rfl (by decide) ?_
        exact qb_iret hX 21 rfl hR (fun _ h => h)
  ·
    refine qb_iconst hX 5 (-1) rfl (by decide) ?_
    exact qb_iret hX 6 rfl hR (fun _ h => h)
theorem jm_Top_tie {l : Launch} {G : qm_G} (hG : qm_GI G) (this : Nat) (p1 : Int32) (p2 : Int32) (hthis : (qm_kd this).1 = 18) : qm_MI l G jy_Top_tie prog_1_method_6_code 4 (some .int) 3 63 [.ref (G.1 this), .int p1, .int p2] (jf_Top_tie this p1 p2) :=
  qm_metI (by decide +kernel) jd_Top_tie (fun v hv => by simp only [List.mem_cons, List.not_mem_nil, or_false] at hv; rcases hv with rfl | rfl | rfl <;> rfl) (by exact Nat.le_of_ble_eq_true rfl) hG rfl (fun X hl hg hX r0 σ0 hR => by subst hl; subst hg; exact jb_Top_tie hX hR this p1 p2 hthis)
def jl_Top_space : List qm_I := [(0, .aload_n 0, 1, 1), (1, .getfield 12, 3, 4), (4, .iload_n 1, 1, 5), (5, .invokevirtual 104, 3, 8), (8, .ifCond .eq 13, 3, 11), (11, .iload_n 2, 1, 12), (12, .ifCond .lt 9, 3, 15), (15, .iload_n 2, 1, 16), (16, .bipush 30, 2, 18), (18, .if_icmp .le 5, 3, 21), (21, .iconst (-1), 1, 22), (22, .ireturn, 1, 23), (23, .aload_n 0, 1, 24), (24, .getfield 12, 3, 27), (27, .iload_n 1, 1, 28), (28, .bipush 6, 2, 30), (30, .invokevirtual 108, 3, 33), (33, .istore_n 3, 1, 34), (34, .iload_n 3, 1, 35), (35, .iload_n 2, 1, 36), (36, .if_icmp .ne 6, 3, 39), (39, .bipush (-2), 2, 41), (41, .ireturn, 1, 42), (42, .aload_n 0, 1, 43), (43, .invokevirtual 97, 3, 46), (46, .aload_n 0, 1, 47), (47, .getfield 12, 3, 50), (50, .iload_n 1, 1, 51), (51, .bipush 6, 2, 53), (53, .iload_n 2, 1, 54), (54, .invokevirtual 112, 3, 57), (57, .iload_n 3, 1, 58), (58, .ireturn, 1, 59)]
theorem jd_Top_space : qm_D prog_1_method_7_code jl_Top_space := qm_D_of (by decide +kernel)
noncomputable def jf_Top_space (this : Nat) (p1 : Int32) (p2 : Int32) : qm_M Int32 :=
  mB (jf_Run_hasPieces (qm_rf this 0) p1) fun x1 =>
  if x1 = 0 then
    mP (-1)
  else
    if p2 < 0 then
      mP (-1)
    else
      if p2 ≤ 30 then
        mB (jf_Run_cell (qm_rf this 0) p1 6) fun x2 =>
        if ¬ x2 = p2 then
          mB (jf_Top_beginAct this) fun _ =>
          mB (jf_Run_putCell (qm_rf this 0) p1 6 p2) fun _ =>
          mP x2
        else
          mP (-2)
      else
        mP (-1)
set_option maxRecDepth 20000 in
set_option maxHeartbeats 4000000 in
theorem jb_Top_space {X : qm_X} (hX : qm_ok X qr_Top prog_1_method_7_code 4 3 63 jl_Top_space) {r0 : Int32} {σ0 : qm_Mem} (hR : qm_RI X r0 σ0 .int) (this : Nat) (p1 : Int32) (p2 : Int32) (hthis : (qm_kd this).1 = 18) : qm_B X (jf_Top_space this p1 p2) 0 [some (.ref (qx_ad X this)), some (.int p1), some (.int p2), none] [] (fun r σ1 => r = r0 ∧ σ1 = σ0) := by
  unfold jf_Top_space
  refine qb_aload_n hX 0 rfl rfl ?_
  refine qb_getR hX 1 rfl fl_Top_12 hthis rfl ?_
  refine qb_iload_n hX 2 rfl rfl ?_
  refine qb_callI hX 3 rfl cv_Top_104 (jm_Run_hasPieces (qk_GI hX) (qm_rf this 0) p1 (kf_Top_0 hthis) ) (ci := 4) (kf_Top_0 hthis) ⟨rfl, rfl, rfl, by decide, by decide⟩ rfl (by exact Nat.le_of_ble_eq_true rfl) (fun x1 => ?_)
  refine qb_ifeq hX 4 21 rfl (by decide) ?_ ?_
  ·
    refine qb_iconst hX 10 (-1) rfl (by decide) ?_
    exact qb_iret hX 11 rfl hR (fun _ h => h)
  ·
    refine qb_iload_n hX 5 rfl rfl ?_
    refine qb_iflt hX 6 21 rfl (by decide) ?_ ?_
    ·
      refine qb_iconst hX 10 (-1) rfl (by decide) ?_
      exact qb_iret hX 11 rfl hR (fun _ h => h)
    ·
      refine qb_iload_n hX 7 rfl rfl ?_
      refine qb_bipush hX 8 30 rfl (by decide) ?_
      refine qb_icle hX 9 23 rfl (by decide) ?_ ?_
      ·
        refine qb_aload_n hX 12 rfl rfl ?_
        refine qb_getR hX 13 rfl fl_Top_12 hthis rfl ?_
        refine qb_iload_n hX 14 rfl rfl ?_
        refine qb_bipush hX 15 6 rfl (by decide) ?_
        refine qb_callI hX 16 rfl cv_Top_108 (jm_Run_cell (qk_GI hX) (qm_rf this 0) p1 6 (kf_Top_0 hthis) ) (ci := 4) (kf_Top_0 hthis) ⟨rfl, rfl, rfl, by decide, by decide⟩ rfl (by exact Nat.le_of_ble_eq_true rfl) (fun x2 => ?_)
        refine qb_istore_n hX 17 ([some (.ref (qx_ad X this)), some (.int p1), some (.int p2), some (.int x2)]) rfl (by decide) rfl ?_
        refine qb_iload_n hX 18 rfl rfl ?_
        refine qb_iload_n hX 19 rfl rfl ?_
        refine qb_icne hX 20 42 rfl (by decide) ?_ ?_
        ·
          refine qb_aload_n hX 23 rfl rfl ?_
          refine qb_callV hX 24 rfl cv_Top_97 (jm_Top_beginAct (qk_GI hX) this  hthis ) (ci := 8) hthis ⟨rfl, rfl, rfl, by decide, by decide⟩ rfl (by exact Nat.le_of_ble_eq_true rfl) ?_
          refine qb_aload_n hX 25 rfl rfl ?_
          refine qb_getR hX 26 rfl fl_Top_12 hthis rfl ?_
          refine qb_iload_n hX 27 rfl rfl ?_
          refine qb_bipush hX 28 6 rfl (by decide) ?_
          refine qb_iload_n hX 29 rfl rfl ?_
          refine qb_callV hX 30 rfl cv_Top_112 (jm_Run_putCell (qk_GI hX) (qm_rf this 0) p1 6 p2 (kf_Top_0 hthis) ) (ci := 4) (kf_Top_0 hthis) ⟨rfl, rfl, rfl, by decide, by decide⟩ rfl (by exact Nat.le_of_ble_eq_true rfl) ?_
          refine qb_iload_n hX 31 rfl rfl ?_
          exact qb_iret hX 32 rfl hR (fun _ h => h)
        ·
          refine qb_bipush hX 21 (-2) rfl (by decide) ?_
          exact qb_iret hX 22 rfl hR (fun _ h => h)
      ·
        refine qb_iconst hX 10 (-1) rfl (by decide) ?_
        exact qb_iret hX 11 rfl hR (fun _ h => h)
theorem jm_Top_space {l : Launch} {G : qm_G} (hG : qm_GI G) (this : Nat) (p1 : Int32) (p2 : Int32) (hthis : (qm_kd this).1 = 18) : qm_MI l G jy_Top_space prog_1_method_7_code 4 (some .int) 3 63 [.ref (G.1 this), .int p1, .int p2] (jf_Top_space this p1 p2) :=
  qm_metI (by decide +kernel) jd_Top_space (fun v hv => by simp only [List.mem_cons, List.not_mem_nil, or_false] at hv; rcases hv with rfl | rfl | rfl <;> rfl) (by exact Nat.le_of_ble_eq_true rfl) hG rfl (fun X hl hg hX r0 σ0 hR => by subst hl; subst hg; exact jb_Top_space hX hR this p1 p2 hthis)
def jl_Top_swap : List qm_I := [(0, .aload_n 0, 1, 1), (1, .getfield 12, 3, 4), (4, .iload_n 1, 1, 5), (5, .invokevirtual 116, 3, 8), (8, .ifCond .eq 19, 3, 11), (11, .aload_n 0, 1, 12), (12, .getfield 12, 3, 15), (15, .iload_n 2, 1, 16), (16, .invokevirtual 116, 3, 19), (19, .ifCond .eq 8, 3, 22), (22, .iload_n 1, 1, 23), (23, .iload_n 2, 1, 24), (24, .if_icmp .ne 5, 3, 27), (27, .iconst (-1), 1, 28), (28, .ireturn, 1, 29), (29, .aload_n 0, 1, 30), (30, .invokevirtual 97, 3, 33), (33, .aload_n 0, 1, 34), (34, .getfield 12, 3, 37), (37, .iload_n 1, 1, 38), (38, .iload_n 2, 1, 39), (39, .invokevirtual 119, 3, 42), (42, .iconst 1, 1, 43), (43, .ireturn, 1, 44)]
theorem jd_Top_swap : qm_D prog_1_method_8_code jl_Top_swap := qm_D_of (by decide +kernel)
noncomputable def jf_Top_swap (this : Nat) (p1 : Int32) (p2 : Int32) : qm_M Int32 :=
  mB (jf_Run_has (qm_rf this 0) p1) fun x1 =>
  if x1 = 0 then
    mP (-1)
  else
    mB (jf_Run_has (qm_rf this 0) p2) fun x2 =>
    if x2 = 0 then
      mP (-1)
    else
      if ¬ p1 = p2 then
        mB (jf_Top_beginAct this) fun _ =>
        mB (jf_Run_exchange (qm_rf this 0) p1 p2) fun _ =>
        mP 1
      else
        mP (-1)
set_option maxRecDepth 20000 in
set_option maxHeartbeats 4000000 in
theorem jb_Top_swap {X : qm_X} (hX : qm_ok X qr_Top prog_1_method_8_code 3 3 63 jl_Top_swap) {r0 : Int32} {σ0 : qm_Mem} (hR : qm_RI X r0 σ0 .int) (this : Nat) (p1 : Int32) (p2 : Int32) (hthis : (qm_kd this).1 = 18) : qm_B X (jf_Top_swap this p1 p2) 0 [some (.ref (qx_ad X this)), some (.int p1), some (.int p2)] [] (fun r σ1 => r = r0 ∧ σ1 = σ0) := by
  unfold jf_Top_swap
  refine qb_aload_n hX 0 rfl rfl ?_
  refine qb_getR hX 1 rfl fl_Top_12 hthis rfl ?_
  refine qb_iload_n hX 2 rfl rfl ?_
  refine qb_callI hX 3 rfl cv_Top_116 (jm_Run_has (qk_GI hX) (qm_rf this 0) p1 (kf_Top_0 hthis) ) (ci := 4) (kf_Top_0 hthis) ⟨rfl, rfl, rfl, by decide, by decide⟩ rfl (by exact Nat.le_of_ble_eq_true rfl) (fun x1 => ?_)
  refine qb_ifeq hX 4 27 rfl (by decide) ?_ ?_
  ·
    refine qb_iconst hX 13 (-1) rfl (by decide) ?_
    exact qb_iret hX 14 rfl hR (fun _ h => h)
  ·
    refine qb_aload_n hX 5 rfl rfl ?_
    refine qb_getR hX 6 rfl fl_Top_12 hthis rfl ?_
    refine qb_iload_n hX 7 rfl rfl ?_
    refine qb_callI hX 8 rfl cv_Top_116 (jm_Run_has (qk_GI hX) (qm_rf this 0) p2 (kf_Top_0 hthis) ) (ci := 4) (kf_Top_0 hthis) ⟨rfl, rfl, rfl, by decide, by decide⟩ rfl (by exact Nat.le_of_ble_eq_true rfl) (fun x2 => ?_)
    refine qb_ifeq hX 9 27 rfl (by decide) ?_ ?_
    ·
      refine qb_iconst hX 13 (-1) rfl (by decide) ?_
      exact qb_iret hX 14 rfl hR (fun _ h => h)
    ·
      refine qb_iload_n hX 10 rfl rfl ?_
      refine qb_iload_n hX 11 rfl rfl ?_
      refine qb_icne hX 12 29 rfl (by decide) ?_ ?_
      ·
        refine qb_aload_n hX 15 rfl rfl ?_
        refine qb_callV hX 16 rfl cv_Top_97 (jm_Top_beginAct (qk_GI hX) this  hthis ) (ci := 8) hthis ⟨rfl, rfl, rfl, by decide, by decide⟩ rfl (by exact Nat.le_of_ble_eq_true rfl) ?_
        refine qb_aload_n hX 17 rfl rfl ?_
        refine qb_getR hX 18 rfl fl_Top_12 hthis rfl ?_
        refine qb_iload_n hX 19 rfl rfl ?_
        refine qb_iload_n hX 20 rfl rfl ?_
        refine qb_callV hX 21 rfl cv_Top_119 (jm_Run_exchange (qk_GI hX) (qm_rf this 0) p1 p2 (kf_Top_0 hthis) ) (ci := 4) (kf_Top_0 hthis) ⟨rfl, rfl, rfl, by decide, by decide⟩ rfl (by exact Nat.le_of_ble_eq_true rfl) ?_
        refine qb_iconst hX 22 1 rfl (by decide) ?_
        exact qb_iret hX 23 rfl hR (fun _ h => h)
      ·
        refine qb_iconst hX 13 (-1) rfl (by decide) ?_
        exact qb_iret hX 14 rfl hR (fun _ h => h)
theorem jm_Top_swap {l : Launch} {G : qm_G} (hG : qm_GI G) (this : Nat) (p1 : Int32) (p2 : Int32) (hthis : (qm_kd this).1 = 18) : qm_MI l G jy_Top_swap prog_1_method_8_code 3 (some .int) 3 63 [.ref (G.1 this), .int p1, .int p2] (jf_Top_swap this p1 p2) :=
  qm_metI (by decide +kernel) jd_Top_swap (fun v hv => by simp only [List.mem_cons, List.not_mem_nil, or_false] at hv; rcases hv with rfl | rfl | rfl <;> rfl) (by exact Nat.le_of_ble_eq_true rfl) hG rfl (fun X hl hg hX r0 σ0 hR => by subst hl; subst hg; exact jb_Top_swap hX hR this p1 p2 hthis)
def jl_Top_again : List qm_I := [(0, .aload_n 0, 1, 1), (1, .getfield 12, 3, 4), (4, .iload_n 1, 1, 5), (5, .invokevirtual 116, 3, 8), (8, .ifCond .ne 5, 3, 11), (11, .iconst (-1), 1, 12), (12, .ireturn, 1, 13), (13, .aload_n 0, 1, 14), (14, .getfield 12, 3, 17), (17, .getfield 122, 3, 20), (20, .bipush 16, 2, 22), (22, .if_icmp .ge 25, 3, 25), (25, .aload_n 0, 1, 26), (26, .getfield 12, 3, 29), (29, .invokevirtual 125, 3, 32), (32, .aload_n 0, 1, 33), (33, .getfield 12, 3, 36), (36, .iload_n 1, 1, 37), (37, .iconst 1, 1, 38), (38, .invokevirtual 108, 3, 41), (41, .iadd, 1, 42), (42, .bipush 90, 2, 44), (44, .if_icmp .le 6, 3, 47), (47, .bipush (-2), 2, 49), (49, .ireturn, 1, 50), (50, .aload_n 0, 1, 51), (51, .invokevirtual 97, 3, 54), (54, .aload_n 0, 1, 55), (55, .getfield 12, 3, 58), (58, .iload_n 1, 1, 59), (59, .invokevirtual 128, 3, 62), (62, .aload_n 0, 1, 63), (63, .getfield 12, 3, 66), (66, .getfield 122, 3, 69), (69, .ireturn, 1, 70)]
theorem jd_Top_again : qm_D prog_1_method_9_code jl_Top_again := qm_D_of (by decide +kernel)
noncomputable def jf_Top_again (this : Nat) (p1 : Int32) : qm_M Int32 :=
  mB (jf_Run_has (qm_rf this 0) p1) fun x1 =>
  if ¬ x1 = 0 then
    mB (mGt (qm_rf this 0) 0) fun x2 =>
    if 16 ≤ x2 then
      mP (-2)
    else
      mB (jf_Run_allPieces (qm_rf this 0)) fun x3 =>
      mB (jf_Run_cell (qm_rf this 0) p1 1) fun x4 =>
      if (x3 + x4) ≤ 90 then
        mB (jf_Top_beginAct this) fun _ =>
        mB (jf_Run_repeat (qm_rf this 0) p1) fun _ =>
        mB (mGt (qm_rf this 0) 0) fun x5 =>
        mP x5
      else
        mP (-2)
  else
    mP (-1)
set_option maxRecDepth 20000 in
set_option maxHeartbeats 4000000 in
theorem jb_Top_again {X : qm_X} (hX : qm_ok X qr_Top prog_1_method_9_code 2 3 68 jl_Top_again) {r0 : Int32} {σ0 : qm_Mem} (hR : qm_RI X r0 σ0 .int) (this : Nat) (p1 : Int32) (hthis : (qm_kd this).1 = 18) : qm_B X (jf_Top_again this p1) 0 [some (.ref (qx_ad X this)), some (.int p1)] [] (fun r σ1 => r = r0 ∧ σ1 = σ0) := by
  unfold jf_Top_again
  refine qb_aload_n hX 0 rfl rfl ?_
  refine qb_getR hX 1 rfl fl_Top_12 hthis rfl ?_
  refine qb_iload_n hX 2 rfl rfl ?_
  refine qb_callI hX 3 rfl cv_Top_116 (jm_Run_has (qk_GI hX) (qm_rf this 0) p1 (kf_Top_0 hthis) ) (ci := 4) (kf_Top_0 hthis) ⟨rfl, rfl, rfl, by decide, by decide⟩ rfl (by exact Nat.le_of_ble_eq_true rfl) (fun x1 => ?_)
  refine qb_ifne hX 4 13 rfl (by decide) ?_ ?_
  ·
    refine qb_aload_n hX 7 rfl rfl ?_
    refine qb_getR hX 8 rfl fl_Top_12 hthis rfl ?_
    refine qb_get hX 9 rfl fl_Top_122 (kf_Top_0 hthis) rfl (fun x2 => ?_)
    refine qb_bipush hX 10 16 rfl (by decide) ?_
    refine qb_icge hX 11 47 rfl (by decide) ?_ ?_
    ·
      refine qb_bipush hX 23 (-2) rfl (by decide) ?_
      exact qb_iret hX 24 rfl hR (fun _ h => h)
    ·
      refine qb_aload_n hX 12 rfl rfl ?_
      refine qb_getR hX 13 rfl fl_Top_12 hthis rfl ?_
      refine qb_callI hX 14 rfl cv_Top_125 (jm_Run_allPieces (qk_GI hX) (qm_rf this 0)  (kf_Top_0 hthis) ) (ci := 4) (kf_Top_0 hthis) ⟨rfl, rfl, rfl, by decide, by decide⟩ rfl (by exact Nat.le_of_ble_eq_true rfl) (fun x3 => ?_)
      refine qb_aload_n hX 15 rfl rfl ?_
      refine qb_getR hX 16 rfl fl_Top_12 hthis rfl ?_
      refine qb_iload_n hX 17 rfl rfl ?_
      refine qb_iconst hX 18 1 rfl (by decide) ?_
      refine qb_callI hX 19 rfl cv_Top_108 (jm_Run_cell (qk_GI hX) (qm_rf this 0) p1 1 (kf_Top_0 hthis) ) (ci := 4) (kf_Top_0 hthis) ⟨rfl, rfl, rfl, by decide, by decide⟩ rfl (by exact Nat.le_of_ble_eq_true rfl) (fun x4 => ?_)
      refine qb_iadd hX 20 rfl ?_
      refine qb_bipush hX 21 90 rfl (by decide) ?_
      refine qb_icle hX 22 50 rfl (by decide) ?_ ?_
      ·
        refine qb_aload_n hX 25 rfl rfl ?_
        refine qb_callV hX 26 rfl cv_Top_97 (jm_Top_beginAct (qk_GI hX) this  hthis ) (ci := 8) hthis ⟨rfl, rfl, rfl, by decide, by decide⟩ rfl (by exact Nat.le_of_ble_eq_true rfl) ?_
        refine qb_aload_n hX 27 rfl rfl ?_
        refine qb_getR hX 28 rfl fl_Top_12 hthis rfl ?_
        refine qb_iload_n hX 29 rfl rfl ?_
        refine qb_callV hX 30 rfl cv_Top_128 (jm_Run_repeat (qk_GI hX) (qm_rf this 0) p1 (kf_Top_0 hthis) ) (ci := 4) (kf_Top_0 hthis) ⟨rfl, rfl, rfl, by decide, by decide⟩ rfl (by exact Nat.le_of_ble_eq_true rfl) ?_
        refine qb_aload_n hX 31 rfl rfl ?_
        refine qb_getR hX 32 rfl fl_Top_12 hthis rfl ?_
        refine qb_get hX 33 rfl fl_Top_122 (kf_Top_0 hthis) rfl (fun x5 => ?_)
        exact qb_iret hX 34 rfl hR (fun _ h => h)
      ·
        refine qb_bipush hX 23 (-2) rfl (by decide) ?_
        exact qb_iret hX 24 rfl hR (fun _ h => h)
  ·
    refine qb_iconst hX 5 (-1) rfl (by decide) ?_
    exact qb_iret hX 6 rfl hR (fun _ h => h)
theorem jm_Top_again {l : Launch} {G : qm_G} (hG : qm_GI G) (this : Nat) (p1 : Int32) (hthis : (qm_kd this).1 = 18) : qm_MI l G jy_Top_again prog_1_method_9_code 2 (some .int) 3 68 [.ref (G.1 this), .int p1] (jf_Top_again this p1) :=
  qm_metI (by decide +kernel) jd_Top_again (fun v hv => by simp only [List.mem_cons, List.not_mem_nil, or_false] at hv; rcases hv with rfl | rfl <;> rfl) (by exact Nat.le_of_ble_eq_true rfl) hG rfl (fun X hl hg hX r0 σ0 hR => by subst hl; subst hg; exact jb_Top_again hX hR this p1 hthis)
def jl_Top_drop : List qm_I := [(0, .aload_n 0, 1, 1), (1, .getfield 12, 3, 4), (4, .iload_n 1, 1, 5), (5, .invokevirtual 116, 3, 8), (8, .ifCond .ne 5, 3, 11), (11, .iconst (-1), 1, 12), (12, .ireturn, 1, 13), (13, .aload_n 0, 1, 14), (14, .invokevirtual 97, 3, 17), (17, .aload_n 0, 1, 18), (18, .getfield 12, 3, 21), (21, .iload_n 1, 1, 22), (22, .invokevirtual 131, 3, 25), (25, .aload_n 0, 1, 26), (26, .getfield 12, 3, 29), (29, .getfield 122, 3, 32), (32, .ireturn, 1, 33)]
theorem jd_Top_drop : qm_D prog_1_method_10_code jl_Top_drop := qm_D_of (by decide +kernel)
noncomputable def jf_Top_drop (this : Nat) (p1 : Int32) : qm_M Int32 :=
  mB (jf_Run_has (qm_rf this 0) p1) fun x1 =>
  if ¬ x1 = 0 then
    mB (jf_Top_beginAct this) fun _ =>
    mB (jf_Run_remove (qm_rf this 0) p1) fun _ =>
    mB (mGt (qm_rf this 0) 0) fun x2 =>
    mP x2
  else
    mP (-1)
set_option maxRecDepth 20000 in
set_option maxHeartbeats 4000000 in
theorem jb_Top_drop {X : qm_X} (hX : qm_ok X qr_Top prog_1_method_10_code 2 3 68 jl_Top_drop) {r0 : Int32} {σ0 : qm_Mem} (hR : qm_RI X r0 σ0 .int) (this : Nat) (p1 : Int32) (hthis : (qm_kd this).1 = 18) : qm_B X (jf_Top_drop this p1) 0 [some (.ref (qx_ad X this)), some (.int p1)] [] (fun r σ1 => r = r0 ∧ σ1 = σ0) := by
  unfold jf_Top_drop
  refine qb_aload_n hX 0 rfl rfl ?_
  refine qb_getR hX 1 rfl fl_Top_12 hthis rfl ?_
  refine qb_iload_n hX 2 rfl rfl ?_
  refine qb_callI hX 3 rfl cv_Top_116 (jm_Run_has (qk_GI hX) (qm_rf this 0) p1 (kf_Top_0 hthis) ) (ci := 4) (kf_Top_0 hthis) ⟨rfl, rfl, rfl, by decide, by decide⟩ rfl (by exact Nat.le_of_ble_eq_true rfl) (fun x1 => ?_)
  refine qb_ifne hX 4 13 rfl (by decide) ?_ ?_
  ·
    refine qb_aload_n hX 7 rfl rfl ?_
    refine qb_callV hX 8 rfl cv_Top_97 (jm_Top_beginAct (qk_GI hX) this  hthis ) (ci := 8) hthis ⟨rfl, rfl, rfl, by decide, by decide⟩ rfl (by exact Nat.le_of_ble_eq_true rfl) ?_
    refine qb_aload_n hX 9 rfl rfl ?_
    refine qb_getR hX 10 rfl fl_Top_12 hthis rfl ?_
    refine qb_iload_n hX 11 rfl rfl ?_
    refine qb_callV hX 12 rfl cv_Top_131 (jm_Run_remove (qk_GI hX) (qm_rf this 0) p1 (kf_Top_0 hthis) ) (ci := 4) (kf_Top_0 hthis) ⟨rfl, rfl, rfl, by decide, by decide⟩ rfl (by exact Nat.le_of_ble_eq_true rfl) ?_
    refine qb_aload_n hX 13 rfl rfl ?_
    refine qb_getR hX 14 rfl fl_Top_12 hthis rfl ?_
    refine qb_get hX 15 rfl fl_Top_122 (kf_Top_0 hthis) rfl (fun x2 => ?_)
    exact qb_iret hX 16 rfl hR (fun _ h => h)
  ·
    refine qb_iconst hX 5 (-1) rfl (by decide) ?_
    exact qb_iret hX 6 rfl hR (fun _ h => h)
theorem jm_Top_drop {l : Launch} {G : qm_G} (hG : qm_GI G) (this : Nat) (p1 : Int32) (hthis : (qm_kd this).1 = 18) : qm_MI l G jy_Top_drop prog_1_method_10_code 2 (some .int) 3 68 [.ref (G.1 this), .int p1] (jf_Top_drop this p1) :=
  qm_metI (by decide +kernel) jd_Top_drop (fun v hv => by simp only [List.mem_cons, List.not_mem_nil, or_false] at hv; rcases hv with rfl | rfl <;> rfl) (by exact Nat.le_of_ble_eq_true rfl) hG rfl (fun X hl hg hX r0 σ0 hR => by subst hl; subst hg; exact jb_Top_drop hX hR this p1 hthis)
def jl_Top_undo : List qm_I := [(0, .aload_n 0, 1, 1), (1, .getfield 35, 3, 4), (4, .getfield 83, 3, 7), (7, .ifCond .ne 5, 3, 10), (10, .iconst (-1), 1, 11), (11, .ireturn, 1, 12), (12, .aload_n 0, 1, 13), (13, .getfield 35, 3, 16), (16, .aload_n 0, 1, 17), (17, .getfield 12, 3, 20), (20, .invokevirtual 134, 3, 23), (23, .aload_n 0, 1, 24), (24, .invokevirtual 86, 3, 27), (27, .aload_n 0, 1, 28), (28, .getfield 35, 3, 31), (31, .getfield 83, 3, 34), (34, .ireturn, 1, 35)]
theorem jd_Top_undo : qm_D prog_1_method_11_code jl_Top_undo := qm_D_of (by decide +kernel)
noncomputable def jf_Top_undo (this : Nat) : qm_M Int32 :=
  mB (mGt (qm_rf this 3) 2) fun x1 =>
  if ¬ x1 = 0 then
    mB (jf_Past_pop (qm_rf this 3) (qm_rf this 0)) fun _ =>
    mB (jf_Top_changed this) fun _ =>
    mB (mGt (qm_rf this 3) 2) fun x2 =>
    mP x2
  else
    mP (-1)
set_option maxRecDepth 20000 in
set_option maxHeartbeats 4000000 in
theorem jb_Top_undo {X : qm_X} (hX : qm_ok X qr_Top prog_1_method_11_code 1 2 43 jl_Top_undo) {r0 : Int32} {σ0 : qm_Mem} (hR : qm_RI X r0 σ0 .int) (this : Nat) (hthis : (qm_kd this).1 = 18) : qm_B X (jf_Top_undo this) 0 [some (.ref (qx_ad X this))] [] (fun r σ1 => r = r0 ∧ σ1 = σ0) := by
  unfold jf_Top_undo
  refine qb_aload_n hX 0 rfl rfl ?_
  refine qb_getR hX 1 rfl fl_Top_35 hthis rfl ?_
  refine qb_get hX 2 rfl fl_Top_83 (kf_Top_3 hthis) rfl (fun x1 => ?_)
  refine qb_ifne hX 3 12 rfl (by decide) ?_ ?_
  ·
    refine qb_aload_n hX 6 rfl rfl ?_
    refine qb_getR hX 7 rfl fl_Top_35 hthis rfl ?_
    refine qb_aload_n hX 8 rfl rfl ?_
    refine qb_getR hX 9 rfl fl_Top_12 hthis rfl ?_
    refine qb_callV hX 10 rfl cv_Top_134 (jm_Past_pop (qk_GI hX) (qm_rf this 3) (qm_rf this 0) (kf_Top_3 hthis) (kf_Top_0 hthis)) (ci := 2) (kf_Top_3 hthis) ⟨rfl, rfl, rfl, by decide, by decide⟩ rfl (by exact Nat.le_of_ble_eq_true rfl) ?_
    refine qb_aload_n hX 11 rfl rfl ?_
    refine qb_callV hX 12 rfl cv_Top_86 (jm_Top_changed (qk_GI hX) this  hthis ) (ci := 8) hthis ⟨rfl, rfl, rfl, by decide, by decide⟩ rfl (by exact Nat.le_of_ble_eq_true rfl) ?_
    refine qb_aload_n hX 13 rfl rfl ?_
    refine qb_getR hX 14 rfl fl_Top_35 hthis rfl ?_
    refine qb_get hX 15 rfl fl_Top_83 (kf_Top_3 hthis) rfl (fun x2 => ?_)
    exact qb_iret hX 16 rfl hR (fun _ h => h)
  ·
    refine qb_iconst hX 4 (-1) rfl (by decide) ?_
    exact qb_iret hX 5 rfl hR (fun _ h => h)
theorem jm_Top_undo {l : Launch} {G : qm_G} (hG : qm_GI G) (this : Nat) (hthis : (qm_kd this).1 = 18) : qm_MI l G jy_Top_undo prog_1_method_11_code 1 (some .int) 2 43 [.ref (G.1 this)] (jf_Top_undo this) :=
  qm_metI (by decide +kernel) jd_Top_undo (fun v hv => by simp only [List.mem_cons, List.not_mem_nil, or_false] at hv; rcases hv with rfl <;> rfl) (by exact Nat.le_of_ble_eq_true rfl) hG rfl (fun X hl hg hX r0 σ0 hR => by subst hl; subst hg; exact jb_Top_undo hX hR this hthis)
end
section
def jl_Top_keep : List qm_I := [(0, .iload_n 1, 1, 1), (1, .ifCond .lt 12, 3, 4), (4, .iload_n 1, 1, 5), (5, .aload_n 0, 1, 6), (6, .getfield 39, 3, 9), (9, .arraylength, 1, 10), (10, .if_icmp .lt 5, 3, 13), (13, .iconst (-1), 1, 14), (14, .ireturn, 1, 15), (15, .aload_n 0, 1, 16), (16, .getfield 39, 3, 19), (19, .iload_n 1, 1, 20), (20, .aaload, 1, 21), (21, .aload_n 0, 1, 22), (22, .getfield 12, 3, 25), (25, .invokevirtual 79, 3, 28), (28, .aload_n 0, 1, 29), (29, .dup, 1, 30), (30, .getfield 137, 3, 33), (33, .iconst 1, 1, 34), (34, .iload_n 1, 1, 35), (35, .ishl, 1, 36), (36, .ior, 1, 37), (37, .putfield 137, 3, 40), (40, .aload_n 0, 1, 41), (41, .getfield 12, 3, 44), (44, .getfield 122, 3, 47), (47, .ireturn, 1, 48)]
theorem jd_Top_keep : qm_D prog_1_method_12_code jl_Top_keep := qm_D_of (by decide +kernel)
noncomputable def jf_Top_keep (this : Nat) (p1 : Int32) : qm_M Int32 :=
  if p1 < 0 then
    mP (-1)
  else
    if p1 < (Int32.ofNat (qm_kd (qm_rf this 4)).2) then
      mB (mLr (qm_rf this 4) p1) fun r1 =>
      mB (jf_Run_copyFrom r1 (qm_rf this 0)) fun _ =>
      mB (mGt this 5) fun x2 =>
      mB (mPt this 5 (x2 ||| (1 <<< (p1 &&& 31)))) fun _ =>
      mB (mGt (qm_rf this 0) 0) fun x3 =>
      mP x3
    else
      mP (-1)
set_option maxRecDepth 20000 in
set_option maxHeartbeats 4000000 in
theorem jb_Top_keep {X : qm_X} (hX : qm_ok X qr_Top prog_1_method_12_code 2 1 22 jl_Top_keep) {r0 : Int32} {σ0 : qm_Mem} (hR : qm_RI X r0 σ0 .int) (this : Nat) (p1 : Int32) (hthis : (qm_kd this).1 = 18) : qm_B X (jf_Top_keep this p1) 0 [some (.ref (qx_ad X this)), some (.int p1)] [] (fun r σ1 => r = r0 ∧ σ1 = σ0) := by
  unfold jf_Top_keep
  refine qb_iload_n hX 0 rfl rfl ?_
  refine qb_iflt hX 1 13 rfl (by decide) ?_ ?_
  ·
    refine qb_iconst hX 7 (-1) rfl (by decide) ?_
    exact qb_iret hX 8 rfl hR (fun _ h => h)
  ·
    refine qb_iload_n hX 2 rfl rfl ?_
    refine qb_aload_n hX 3 rfl rfl ?_
    refine qb_getR hX 4 rfl fl_Top_39 hthis rfl ?_
    refine qb_alenR hX 5 (Int32.ofNat (qm_kd (qm_rf this 4)).2) rfl (Or.inr (kf_Top_4 hthis)) rfl ?_
    refine qb_iclt hX 6 15 rfl (by decide) ?_ ?_
    ·
      refine qb_aload_n hX 9 rfl rfl ?_
      refine qb_getR hX 10 rfl fl_Top_39 hthis rfl ?_
      refine qb_iload_n hX 11 rfl rfl ?_
      refine qb_aald hX 12 rfl (Or.inr (kf_Top_4 hthis)) (ka_5 (kf_Top_4 hthis)) (fun r1 hr1 => ?_)
      refine qb_aload_n hX 13 rfl rfl ?_
      refine qb_getR hX 14 rfl fl_Top_12 hthis rfl ?_
      refine qb_callV hX 15 rfl cv_Top_79 (jm_Run_copyFrom (qk_GI hX) r1 (qm_rf this 0) hr1 (kf_Top_0 hthis)) (ci := 4) hr1 ⟨rfl, rfl, rfl, by decide, by decide⟩ rfl (by exact Nat.le_of_ble_eq_true rfl) ?_
      refine qb_aload_n hX 16 rfl rfl ?_
      refine qb_dup hX 17 rfl rfl ?_
      refine qb_get hX 18 rfl fl_Top_137 hthis rfl (fun x2 => ?_)
      refine qb_iconst hX 19 1 rfl (by decide) ?_
      refine qb_iload_n hX 20 rfl rfl ?_
      refine qb_ishl hX 21 rfl ?_
      refine qb_ior hX 22 rfl ?_
      refine qb_put hX 23 rfl fp_Top_137 hthis ?_
      refine qb_aload_n hX 24 rfl rfl ?_
      refine qb_getR hX 25 rfl fl_Top_12 hthis rfl ?_
      refine qb_get hX 26 rfl fl_Top_122 (kf_Top_0 hthis) rfl (fun x3 => ?_)
      exact qb_iret hX 27 rfl hR (fun _ h => h)
    ·
      refine qb_iconst hX 7 (-1) rfl (by decide) ?_
      exact qb_iret hX 8 rfl hR (fun _ h => h)
theorem jm_Top_keep {l : Launch} {G : qm_G} (hG : qm_GI G) (this : Nat) (p1 : Int32) (hthis : (qm_kd this).1 = 18) : qm_MI l G jy_Top_keep prog_1_method_12_code 2 (some .int) 1 22 [.ref (G.1 this), .int p1] (jf_Top_keep this p1) :=
  qm_metI (by decide +kernel) jd_Top_keep (fun v hv => by simp only [List.mem_cons, List.not_mem_nil, or_false] at hv; rcases hv with rfl | rfl <;> rfl) (by exact Nat.le_of_ble_eq_true rfl) hG rfl (fun X hl hg hX r0 σ0 hR => by subst hl; subst hg; exact jb_Top_keep hX hR this p1 hthis)
def jl_Top_back : List qm_I := [(0, .iload_n 1, 1, 1), (1, .ifCond .lt 12, 3, 4), (4, .iload_n 1, 1, 5), (5, .aload_n 0, 1, 6), (6, .getfield 39, 3, 9), (9, .arraylength, 1, 10), (10, .if_icmp .lt 5, 3, 13), (13, .iconst (-1), 1, 14), (14, .ireturn, 1, 15), (15, .aload_n 0, 1, 16), (16, .getfield 137, 3, 19), (19, .iload_n 1, 1, 20), (20, .ishr, 1, 21), (21, .iconst 1, 1, 22), (22, .iand, 1, 23), (23, .ifCond .ne 6, 3, 26), (26, .bipush (-2), 2, 28), (28, .ireturn, 1, 29), (29, .aload_n 0, 1, 30), (30, .getfield 12, 3, 33), (33, .aload_n 0, 1, 34), (34, .getfield 39, 3, 37), (37, .iload_n 1, 1, 38), (38, .aaload, 1, 39), (39, .invokevirtual 79, 3, 42), (42, .aload_n 0, 1, 43), (43, .getfield 35, 3, 46), (46, .iconst 0, 1, 47), (47, .putfield 83, 3, 50), (50, .aload_n 0, 1, 51), (51, .invokevirtual 86, 3, 54), (54, .aload_n 0, 1, 55), (55, .getfield 12, 3, 58), (58, .getfield 122, 3, 61), (61, .ireturn, 1, 62)]
theorem jd_Top_back : qm_D prog_1_method_13_code jl_Top_back := qm_D_of (by decide +kernel)
noncomputable def jf_Top_back (this : Nat) (p1 : Int32) : qm_M Int32 :=
  if p1 < 0 then
    mP (-1)
  else
    if p1 < (Int32.ofNat (qm_kd (qm_rf this 4)).2) then
      mB (mGt this 5) fun x1 =>
      if ¬ ((x1 >>> (p1 &&& 31)) &&& 1) = 0 then
        mB (mLr (qm_rf this 4) p1) fun r2 =>
        mB (jf_Run_copyFrom (qm_rf this 0) r2) fun _ =>
        mB (mPt (qm_rf this 3) 2 0) fun _ =>
        mB (jf_Top_changed this) fun _ =>
        mB (mGt (qm_rf this 0) 0) fun x3 =>
        mP x3
      else
        mP (-2)
    else
      mP (-1)
set_option maxRecDepth 20000 in
set_option maxHeartbeats 4000000 in
theorem jb_Top_back {X : qm_X} (hX : qm_ok X qr_Top prog_1_method_13_code 2 1 22 jl_Top_back) {r0 : Int32} {σ0 : qm_Mem} (hR : qm_RI X r0 σ0 .int) (this : Nat) (p1 : Int32) (hthis : (qm_kd this).1 = 18) : qm_B X (jf_Top_back this p1) 0 [some (.ref (qx_ad X this)), some (.int p1)] [] (fun r σ1 => r = r0 ∧ σ1 = σ0) := by
  unfold jf_Top_back
  refine qb_iload_n hX 0 rfl rfl ?_
  refine qb_iflt hX 1 13 rfl (by decide) ?_ ?_
  ·
    refine qb_iconst hX 7 (-1) rfl (by decide) ?_
    exact qb_iret hX 8 rfl hR (fun _ h => h)
  ·
    refine qb_iload_n hX 2 rfl rfl ?_
    refine qb_aload_n hX 3 rfl rfl ?_
    refine qb_getR hX 4 rfl fl_Top_39 hthis rfl ?_
    refine qb_alenR hX 5 (Int32.ofNat (qm_kd (qm_rf this 4)).2) rfl (Or.inr (kf_Top_4 hthis)) rfl ?_
    refine qb_iclt hX 6 15 rfl (by decide) ?_ ?_
    ·
      refine qb_aload_n hX 9 rfl rfl ?_
      refine qb_get hX 10 rfl fl_Top_137 hthis rfl (fun x1 => ?_)
      refine qb_iload_n hX 11 rfl rfl ?_
      refine qb_ishr hX 12 rfl ?_
      refine qb_iconst hX 13 1 rfl (by decide) ?_
      refine qb_iand hX 14 rfl ?_
      refine qb_ifne hX 15 29 rfl (by decide) ?_ ?_
      ·
        refine qb_aload_n hX 18 rfl rfl ?_
        refine qb_getR hX 19 rfl fl_Top_12 hthis rfl ?_
        refine qb_aload_n hX 20 rfl rfl ?_
        refine qb_getR hX 21 rfl fl_Top_39 hthis rfl ?_
        refine qb_iload_n hX 22 rfl rfl ?_
        refine qb_aald hX 23 rfl (Or.inr (kf_Top_4 hthis)) (ka_5 (kf_Top_4 hthis)) (fun r2 hr2 => ?_)
        refine qb_callV hX 24 rfl cv_Top_79 (jm_Run_copyFrom (qk_GI hX) (qm_rf this 0) r2 (kf_Top_0 hthis) hr2) (ci := 4) (kf_Top_0 hthis) ⟨rfl, rfl, rfl, by decide, by decide⟩ rfl (by exact Nat.le_of_ble_eq_true rfl) ?_
        refine qb_aload_n hX 25 rfl rfl ?_
        refine qb_getR hX 26 rfl fl_Top_35 hthis rfl ?_
        refine qb_iconst hX 27 0 rfl (by decide) ?_
        refine qb_put hX 28 rfl fp_Top_83 (kf_Top_3 hthis) ?_
        refine qb_aload_n hX 29 rfl rfl ?_
        refine qb_callV hX 30 rfl cv_Top_86 (jm_Top_changed (qk_GI hX) this  hthis ) (ci := 8) hthis ⟨rfl, rfl, rfl, by decide, by decide⟩ rfl (by exact Nat.le_of_ble_eq_true rfl) ?_
        refine qb_aload_n hX 31 rfl rfl ?_
        refine qb_getR hX 32 rfl fl_Top_12 hthis rfl ?_
        refine qb_get hX 33 rfl fl_Top_122 (kf_Top_0 hthis) rfl (fun x3 => ?_)
        exact qb_iret hX 34 rfl hR (fun _ h => h)
      ·
        refine qb_bipush hX 16 (-2) rfl (by decide) ?_
        exact qb_iret hX 17 rfl hR (fun _ h => h)
    ·
      refine qb_iconst hX 7 (-1) rfl (by decide) ?_
      exact qb_iret hX 8 rfl hR (fun _ h => h)
theorem jm_Top_back {l : Launch} {G : qm_G} (hG : qm_GI G) (this : Nat) (p1 : Int32) (hthis : (qm_kd this).1 = 18) : qm_MI l G jy_Top_back prog_1_method_13_code 2 (some .int) 1 22 [.ref (G.1 this), .int p1] (jf_Top_back this p1) :=
  qm_metI (by decide +kernel) jd_Top_back (fun v hv => by simp only [List.mem_cons, List.not_mem_nil, or_false] at hv; rcases hv with rfl | rfl <;> rfl) (by exact Nat.le_of_ble_eq_true rfl) hG rfl (fun X hl hg hX r0 σ0 hR => by subst hl; subst hg; exact jb_Top_back hX hR this p1 hthis)
def jl_Top_laidOut : List qm_I := [(0, .aload_n 0, 1, 1), (1, .getfield 330, 3, 4), (4, .ifCond .ne 15, 3, 7), (7, .aload_n 0, 1, 8), (8, .getfield 48, 3, 11), (11, .invokevirtual 288, 3, 14), (14, .aload_n 0, 1, 15), (15, .iconst 1, 1, 16), (16, .putfield 330, 3, 19), (19, .aload_n 0, 1, 20), (20, .getfield 48, 3, 23), (23, .areturn, 1, 24)]
theorem jd_Top_laidOut : qm_D prog_1_method_39_code jl_Top_laidOut := qm_D_of (by decide +kernel)
noncomputable def jf_Top_laidOut (this : Nat) : qm_M Nat :=
  mB (mGt this 9) fun x1 =>
  if ¬ x1 = 0 then
    mP (qm_rf this 6)
  else
    mB (jf_Press_lay (qm_rf this 6)) fun _ =>
    mB (mPz this 9 1) fun _ =>
    mP (qm_rf this 6)
set_option maxRecDepth 20000 in
set_option maxHeartbeats 4000000 in
theorem jb_Top_laidOut {X : qm_X} (hX : qm_ok X qr_Top prog_1_method_39_code 1 5 114 jl_Top_laidOut) {r0 : Nat} {σ0 : qm_Mem} (hR : qm_RR X r0 σ0 (.object "ColumnsLevelled$Press")) (this : Nat) (hthis : (qm_kd this).1 = 18) : qm_B X (jf_Top_laidOut this) 0 [some (.ref (qx_ad X this))] [] (fun r σ1 => r = r0 ∧ σ1 = σ0) := by
  unfold jf_Top_laidOut
  refine qb_aload_n hX 0 rfl rfl ?_
  refine qb_get hX 1 rfl fl_Top_330 hthis rfl (fun x1 => ?_)
  refine qb_ifne hX 2 19 rfl (by decide) ?_ ?_
  ·
    refine qb_aload_n hX 9 rfl rfl ?_
    refine qb_getR hX 10 rfl fl_Top_48 hthis rfl ?_
    exact qb_aret hX 11 rfl hR (fun _ h => h)
  ·
    refine qb_aload_n hX 3 rfl rfl ?_
    refine qb_getR hX 4 rfl fl_Top_48 hthis rfl ?_
    refine qb_callV hX 5 rfl cv_Top_288 (jm_Press_lay (qk_GI hX) (qm_rf this 6)  (kf_Top_6 hthis) ) (ci := 3) (kf_Top_6 hthis) ⟨rfl, rfl, rfl, by decide, by decide⟩ rfl (by exact Nat.le_of_ble_eq_true rfl) ?_
    refine qb_aload_n hX 6 rfl rfl ?_
    refine qb_iconst hX 7 1 rfl (by decide) ?_
    refine qb_putZ hX 8 rfl fp_Top_330 hthis ?_
    refine qb_aload_n hX 9 rfl rfl ?_
    refine qb_getR hX 10 rfl fl_Top_48 hthis rfl ?_
    exact qb_aret hX 11 rfl hR (fun _ h => h)
theorem jm_Top_laidOut {l : Launch} {G : qm_G} (hG : qm_GI G) (this : Nat) (hthis : (qm_kd this).1 = 18) : qm_MR l G jy_Top_laidOut prog_1_method_39_code 1 (some (.object "ColumnsLevelled$Press")) 5 114 [.ref (G.1 this)] (jf_Top_laidOut this) :=
  qm_metR (by decide +kernel) jd_Top_laidOut (fun v hv => by simp only [List.mem_cons, List.not_mem_nil, or_false] at hv; rcases hv with rfl <;> rfl) (by exact Nat.le_of_ble_eq_true rfl) hG rfl (Or.inl ⟨_, rfl⟩) (fun X hl hg hX r0 σ0 hR => by subst hl; subst hg; exact jb_Top_laidOut hX hR this hthis)
def jl_Top_block : List qm_I := [(0, .aload_n 0, 1, 1), (1, .getfield 12, 3, 4), (4, .iload_n 1, 1, 5), (5, .invokevirtual 116, 3, 8), (8, .ifCond .ne 5, 3, 11), (11, .iconst (-1), 1, 12), (12, .ireturn, 1, 13), (13, .iload_n 2, 1, 14), (14, .tableswitch 147 0 8 #[50, 60, 70, 85, 95, 105, 115, 125, 136], 50, 64), (64, .aload_n 0, 1, 65), (65, .getfield 12, 3, 68), (68, .iload_n 1, 1, 69), (69, .iconst 0, 1, 70), (70, .invokevirtual 108, 3, 73), (73, .ireturn, 1, 74), (74, .aload_n 0, 1, 75), (75, .getfield 12, 3, 78), (78, .iload_n 1, 1, 79), (79, .iconst 1, 1, 80), (80, .invokevirtual 108, 3, 83), (83, .ireturn, 1, 84), (84, .aload_n 0, 1, 85), (85, .invokevirtual 140, 3, 88), (88, .getfield 144, 3, 91), (91, .getfield 148, 3, 94), (94, .iload_n 1, 1, 95), (95, .invokestatic 154, 3, 98), (98, .ireturn, 1, 99), (99, .aload_n 0, 1, 100), (100, .getfield 12, 3, 103), (103, .iload_n 1, 1, 104), (104, .iconst 2, 1, 105), (105, .invokevirtual 108, 3, 108), (108, .ireturn, 1, 109), (109, .aload_n 0, 1, 110), (110, .getfield 12, 3, 113), (113, .iload_n 1, 1, 114), (114, .iconst 3, 1, 115), (115, .invokevirtual 108, 3, 118), (118, .ireturn, 1, 119), (119, .aload_n 0, 1, 120), (120, .getfield 12, 3, 123), (123, .iload_n 1, 1, 124), (124, .iconst 4, 1, 125), (125, .invokevirtual 108, 3, 128), (128, .ireturn, 1, 129), (129, .aload_n 0, 1, 130), (130, .getfield 12, 3, 133), (133, .iload_n 1, 1, 134), (134, .iconst 5, 1, 135), (135, .invokevirtual 108, 3, 138), (138, .ireturn, 1, 139), (139, .aload_n 0, 1, 140), (140, .getfield 12, 3, 143), (143, .iload_n 1, 1, 144), (144, .bipush 6, 2, 146), (146, .invokevirtual 108, 3, 149), (149, .ireturn, 1, 150), (150, .aload_n 0, 1, 151), (151, .getfield 12, 3, 154), (154, .iload_n 1, 1, 155), (155, .bipush 7, 2, 157), (157, .invokevirtual 108, 3, 160), (160, .ireturn, 1, 161), (161, .iconst (-1), 1, 162), (162, .ireturn, 1, 163)]
theorem jd_Top_block : qm_D prog_1_method_14_code jl_Top_block := qm_D_of (by decide +kernel)
noncomputable def jf_Top_block (this : Nat) (p1 : Int32) (p2 : Int32) : qm_M Int32 :=
  mB (jf_Run_has (qm_rf this 0) p1) fun x1 =>
  if ¬ x1 = 0 then
    if p2 = 0 then
      mB (jf_Run_cell (qm_rf this 0) p1 0) fun x2 =>
      mP x2
    else
    if p2 = 1 then
      mB (jf_Run_cell (qm_rf this 0) p1 1) fun x3 =>
      mP x3
    else
    if p2 = 2 then
      mB (mK 13 (jf_Top_laidOut this)) fun r4 =>
      mB (jf_Top_at (qm_rf (qm_rf r4 1) 4) p1) fun x5 =>
      mP x5
    else
    if p2 = 3 then
      mB (jf_Run_cell (qm_rf this 0) p1 2) fun x6 =>
      mP x6
    else
    if p2 = 4 then
      mB (jf_Run_cell (qm_rf this 0) p1 3) fun x7 =>
      mP x7
    else
    if p2 = 5 then
      mB (jf_Run_cell (qm_rf this 0) p1 4) fun x8 =>
      mP x8
    else
    if p2 = 6 then
      mB (jf_Run_cell (qm_rf this 0) p1 5) fun x9 =>
      mP x9
    else
    if p2 = 7 then
      mB (jf_Run_cell (qm_rf this 0) p1 6) fun x10 =>
      mP x10
    else
    if p2 = 8 then
      mB (jf_Run_cell (qm_rf this 0) p1 7) fun x11 =>
      mP x11
    else
    mP (-1)
  else
    mP (-1)
set_option maxRecDepth 20000 in
set_option maxHeartbeats 4000000 in
theorem jb_Top_block {X : qm_X} (hX : qm_ok X qr_Top prog_1_method_14_code 3 6 134 jl_Top_block) {r0 : Int32} {σ0 : qm_Mem} (hR : qm_RI X r0 σ0 .int) (this : Nat) (p1 : Int32) (p2 : Int32) (hthis : (qm_kd this).1 = 18) : qm_B X (jf_Top_block this p1 p2) 0 [some (.ref (qx_ad X this)), some (.int p1), some (.int p2)] [] (fun r σ1 => r = r0 ∧ σ1 = σ0) := by
  unfold jf_Top_block
  refine qb_aload_n hX 0 rfl rfl ?_
  refine qb_getR hX 1 rfl fl_Top_12 hthis rfl ?_
  refine qb_iload_n hX 2 rfl rfl ?_
  refine qb_callI hX 3 rfl cv_Top_116 (jm_Run_has (qk_GI hX) (qm_rf this 0) p1 (kf_Top_0 hthis) ) (ci := 4) (kf_Top_0 hthis) ⟨rfl, rfl, rfl, by decide, by decide⟩ rfl (by exact Nat.le_of_ble_eq_true rfl) (fun x1 => ?_)
  refine qb_ifne hX 4 13 rfl (by decide) ?_ ?_
  ·
    refine qb_iload_n hX 7 rfl rfl ?_
    refine qb_swc 0 ?_ (fun h0 => ?_)
    ·
      refine qb_tin hX 8 64 rfl (by decide) (by decide) rfl (by decide) ?_
      refine qb_aload_n hX 9 rfl rfl ?_
      refine qb_getR hX 10 rfl fl_Top_12 hthis rfl ?_
      refine qb_iload_n hX 11 rfl rfl ?_
      refine qb_iconst hX 12 0 rfl (by decide) ?_
      refine qb_callI hX 13 rfl cv_Top_108 (jm_Run_cell (qk_GI hX) (qm_rf this 0) p1 0 (kf_Top_0 hthis) ) (ci := 4) (kf_Top_0 hthis) ⟨rfl, rfl, rfl, by decide, by decide⟩ rfl (by exact Nat.le_of_ble_eq_true rfl) (fun x2 => ?_)
      exact qb_iret hX 14 rfl hR (fun _ h => h)
    refine qb_swc 1 ?_ (fun h1 => ?_)
    ·
      refine qb_tin hX 8 74 rfl (by decide) (by decide) rfl (by decide) ?_
      refine qb_aload_n hX 15 rfl rfl ?_
      refine qb_getR hX 16 rfl fl_Top_12 hthis rfl ?_
      refine qb_iload_n hX 17 rfl rfl ?_
      refine qb_iconst hX 18 1 rfl (by decide) ?_
      refine qb_callI hX 19 rfl cv_Top_108 (jm_Run_cell (qk_GI hX) (qm_rf this 0) p1 1 (kf_Top_0 hthis) ) (ci := 4) (kf_Top_0 hthis) ⟨rfl, rfl, rfl, by decide, by decide⟩ rfl (by exact Nat.le_of_ble_eq_true rfl) (fun x3 => ?_)
      exact qb_iret hX 20 rfl hR (fun _ h => h)
    refine qb_swc 2 ?_ (fun h2 => ?_)
    ·
      refine qb_tin hX 8 84 rfl (by decide) (by decide) rfl (by decide) ?_
      refine qb_aload_n hX 21 rfl rfl ?_
      refine qb_callR hX 22 rfl cv_Top_140 (jm_Top_laidOut (qk_GI hX) this  hthis ) (ci := 8) hthis ⟨rfl, rfl, rfl, by decide, by decide⟩ rfl (by exact Nat.le_of_ble_eq_true rfl) (fun r4 hr4 => ?_)
      refine qb_getR hX 23 rfl fl_Top_144 hr4 rfl ?_
      refine qb_getR hX 24 rfl fl_Top_148 (kf_Press_1 hr4) rfl ?_
      refine qb_iload_n hX 25 rfl rfl ?_
      refine qb_calSI hX 26 rfl cv_Top_154 (jm_Top_at (qk_GI hX) (qm_rf (qm_rf r4 1) 4) p1 (kf_Flow_4 (kf_Press_1 hr4))) ⟨rfl, by decide, by decide⟩ rfl (by exact Nat.le_of_ble_eq_true rfl) (fun x5 => ?_)
      exact qb_iret hX 27 rfl hR (fun _ h => h)
    refine qb_swc 3 ?_ (fun h3 => ?_)
    ·
      refine qb_tin hX 8 99 rfl (by decide) (by decide) rfl (by decide) ?_
      refine qb_aload_n hX 28 rfl rfl ?_
      refine qb_getR hX 29 rfl fl_Top_12 hthis rfl ?_
      refine qb_iload_n hX 30 rfl rfl ?_
      refine qb_iconst hX 31 2 rfl (by decide) ?_
      refine qb_callI hX 32 rfl cv_Top_108 (jm_Run_cell (qk_GI hX) (qm_rf this 0) p1 2 (kf_Top_0 hthis) ) (ci := 4) (kf_Top_0 hthis) ⟨rfl, rfl, rfl, by decide, by decide⟩ rfl (by exact Nat.le_of_ble_eq_true rfl) (fun x6 => ?_)
      exact qb_iret hX 33 rfl hR (fun _ h => h)
    refine qb_swc 4 ?_ (fun h4 => ?_)
    ·
      refine qb_tin hX 8 109 rfl (by decide) (by decide) rfl (by decide) ?_
      refine qb_aload_n hX 34 rfl rfl ?_
      refine qb_getR hX 35 rfl fl_Top_12 hthis rfl ?_
      refine qb_iload_n hX 36 rfl rfl ?_
      refine qb_iconst hX 37 3 rfl (by decide) ?_
      refine qb_callI hX 38 rfl cv_Top_108 (jm_Run_cell (qk_GI hX) (qm_rf this 0) p1 3 (kf_Top_0 hthis) ) (ci := 4) (kf_Top_0 hthis) ⟨rfl, rfl, rfl, by decide, by decide⟩ rfl (by exact Nat.le_of_ble_eq_true rfl) (fun x7 => ?_)
      exact qb_iret hX 39 rfl hR (fun _ h => h)
    refine qb_swc 5 ?_ (fun h5 => ?_)
    ·
      refine qb_tin hX 8 119 rfl (by decide) (by decide) rfl (by decide) ?_
      refine qb_aload_n hX 40 rfl rfl ?_
      refine qb_getR hX 41 rfl fl_Top_12 hthis rfl ?_
      refine qb_iload_n hX 42 rfl rfl ?_
      refine qb_iconst hX 43 4 rfl (by decide) ?_
      refine qb_callI hX 44 rfl cv_Top_108 (jm_Run_cell (qk_GI hX) (qm_rf this 0) p1 4 (kf_Top_0 hthis) ) (ci := 4) (kf_Top_0 hthis) ⟨rfl, rfl, rfl, by decide, by decide⟩ rfl (by exact Nat.le_of_ble_eq_true rfl) (fun x8 => ?_)
      exact qb_iret hX 45 rfl hR (fun _ h => h)
    refine qb_swc 6 ?_ (fun h6 => ?_)
    ·
      refine qb_tin hX 8 129 rfl (by decide) (by decide) rfl (by decide) ?_
      refine qb_aload_n hX 46 rfl rfl ?_
      refine qb_getR hX 47 rfl fl_Top_12 hthis rfl ?_
      refine qb_iload_n hX 48 rfl rfl ?_
      refine qb_iconst hX 49 5 rfl (by decide) ?_
      refine qb_callI hX 50 rfl cv_Top_108 (jm_Run_cell (qk_GI hX) (qm_rf this 0) p1 5 (kf_Top_0 hthis) ) (ci := 4) (kf_Top_0 hthis) ⟨rfl, rfl, rfl, by decide, by decide⟩ rfl (by exact Nat.le_of_ble_eq_true rfl) (fun x9 => ?_)
      exact qb_iret hX 51 rfl hR (fun _ h => h)
    refine qb_swc 7 ?_ (fun h7 => ?_)
    ·
      refine qb_tin hX 8 139 rfl (by decide) (by decide) rfl (by decide) ?_
      refine qb_aload_n hX 52 rfl rfl ?_
      refine qb_getR hX 53 rfl fl_Top_12 hthis rfl ?_
      refine qb_iload_n hX 54 rfl rfl ?_
      refine qb_bipush hX 55 6 rfl (by decide) ?_
      refine qb_callI hX 56 rfl cv_Top_108 (jm_Run_cell (qk_GI hX) (qm_rf this 0) p1 6 (kf_Top_0 hthis) ) (ci := 4) (kf_Top_0 hthis) ⟨rfl, rfl, rfl, by decide, by decide⟩ rfl (by exact Nat.le_of_ble_eq_true rfl) (fun x10 => ?_)
      exact qb_iret hX 57 rfl hR (fun _ h => h)
    refine qb_swc 8 ?_ (fun h8 => ?_)
    ·
      refine qb_tin hX 8 150 rfl (by decide) (by decide) rfl (by decide) ?_
      refine qb_aload_n hX 58 rfl rfl ?_
      refine qb_getR hX 59 rfl fl_Top_12 hthis rfl ?_
      refine qb_iload_n hX 60 rfl rfl ?_
      refine qb_bipush hX 61 7 rfl (by decide) ?_
      refine qb_callI hX 62 rfl cv_Top_108 (jm_Run_cell (qk_GI hX) (qm_rf this 0) p1 7 (kf_Top_0 hthis) ) (ci := 4) (kf_Top_0 hthis) ⟨rfl, rfl, rfl, by decide, by decide⟩ rfl (by exact Nat.le_of_ble_eq_true rfl) (fun x11 => ?_)
      exact qb_iret hX 63 rfl hR (fun _ h => h)
    refine qb_tout hX 8 161 rfl (by have g0 := lv_neT (a := 0) h0 (by decide); have g1 := lv_neT (a := 1) h1 (by decide); have g2 := lv_neT (a := 2) h2 (by decide); have g3 := lv_neT (a := 3) h3 (by decide); have g4 := lv_neT (a := 4) h4 (by decide); have g5 := lv_neT (a := 5) h5 (by decide); have g6 := lv_neT (a := 6) h6 (by decide); have g7 := lv_neT (a := 7) h7 (by decide); have g8 := lv_neT (a := 8) h8 (by decide); omega) (by decide) ?_
    refine qb_iconst hX 64 (-1) rfl (by decide) ?_
    exact qb_iret hX 65 rfl hR (fun _ h => h)
  ·
    refine qb_iconst hX 5 (-1) rfl (by decide) ?_
    exact qb_iret hX 6 rfl hR (fun _ h => h)
theorem jm_Top_block {l : Launch} {G : qm_G} (hG : qm_GI G) (this : Nat) (p1 : Int32) (p2 : Int32) (hthis : (qm_kd this).1 = 18) : qm_MI l G jy_Top_block prog_1_method_14_code 3 (some .int) 6 134 [.ref (G.1 this), .int p1, .int p2] (jf_Top_block this p1 p2) :=
  qm_metI (by decide +kernel) jd_Top_block (fun v hv => by simp only [List.mem_cons, List.not_mem_nil, or_false] at hv; rcases hv with rfl | rfl | rfl <;> rfl) (by exact Nat.le_of_ble_eq_true rfl) hG rfl (fun X hl hg hX r0 σ0 hR => by subst hl; subst hg; exact jb_Top_block hX hR this p1 p2 hthis)
def jl_Top_piece : List qm_I := [(0, .aload_n 0, 1, 1), (1, .invokevirtual 140, 3, 4), (4, .getfield 144, 3, 7), (7, .astore_n 3, 1, 8), (8, .iload_n 1, 1, 9), (9, .ifCond .lt 11, 3, 12), (12, .iload_n 1, 1, 13), (13, .aload_n 3, 1, 14), (14, .getfield 158, 3, 17), (17, .if_icmp .lt 5, 3, 20), (20, .iconst (-1), 1, 21), (21, .ireturn, 1, 22), (22, .iload_n 2, 1, 23), (23, .tableswitch 111 0 6 #[41, 50, 59, 68, 77, 86, 102], 41, 64), (64, .aload_n 3, 1, 65), (65, .getfield 161, 3, 68), (68, .iload_n 1, 1, 69), (69, .invokestatic 154, 3, 72), (72, .ireturn, 1, 73), (73, .aload_n 3, 1, 74), (74, .getfield 164, 3, 77), (77, .iload_n 1, 1, 78), (78, .invokestatic 154, 3, 81), (81, .ireturn, 1, 82), (82, .aload_n 3, 1, 83), (83, .getfield 167, 3, 86), (86, .iload_n 1, 1, 87), (87, .invokestatic 154, 3, 90), (90, .ireturn, 1, 91), (91, .aload_n 3, 1, 92), (92, .getfield 170, 3, 95), (95, .iload_n 1, 1, 96), (96, .invokestatic 154, 3, 99), (99, .ireturn, 1, 100), (100, .aload_n 3, 1, 101), (101, .getfield 173, 3, 104), (104, .iload_n 1, 1, 105), (105, .invokestatic 154, 3, 108), (108, .ireturn, 1, 109), (109, .aload_n 3, 1, 110), (110, .iload_n 1, 1, 111), (111, .iconst 1, 1, 112), (112, .iadd, 1, 113), (113, .invokevirtual 176, 3, 116), (116, .ifCond .eq 7, 3, 119), (119, .iconst 1, 1, 120), (120, .goto 4, 3, 123), (123, .iconst 0, 1, 124), (124, .ireturn, 1, 125), (125, .aload_n 3, 1, 126), (126, .getfield 179, 3, 129), (129, .iload_n 1, 1, 130), (130, .invokestatic 154, 3, 133), (133, .ireturn, 1, 134), (134, .iconst (-1), 1, 135), (135, .ireturn, 1, 136)]
theorem jd_Top_piece : qm_D prog_1_method_15_code jl_Top_piece := qm_D_of (by decide +kernel)
noncomputable def jf_Top_piece (this : Nat) (p1 : Int32) (p2 : Int32) : qm_M Int32 :=
  mB (mK 13 (jf_Top_laidOut this)) fun r1 =>
  if p1 < 0 then
    mP (-1)
  else
    mB (mGt (qm_rf r1 1) 0) fun x2 =>
    if p1 < x2 then
      if p2 = 0 then
        mB (jf_Top_at (qm_rf (qm_rf r1 1) 5) p1) fun x3 =>
        mP x3
      else
      if p2 = 1 then
        mB (jf_Top_at (qm_rf (qm_rf r1 1) 6) p1) fun x4 =>
        mP x4
      else
      if p2 = 2 then
        mB (jf_Top_at (qm_rf (qm_rf r1 1) 7) p1) fun x5 =>
        mP x5
      else
      if p2 = 3 then
        mB (jf_Top_at (qm_rf (qm_rf r1 1) 8) p1) fun x6 =>
        mP x6
      else
      if p2 = 4 then
        mB (jf_Top_at (qm_rf (qm_rf r1 1) 9) p1) fun x7 =>
        mP x7
      else
      if p2 = 5 then
        mB (jf_Flow_mayEnd (qm_rf r1 1) (p1 + 1)) fun x8 =>
        if x8 = 0 then
          mP 0
        else
          mP 1
      else
      if p2 = 6 then
        mB (jf_Top_at (qm_rf (qm_rf r1 1) 10) p1) fun x9 =>
        mP x9
      else
      mP (-1)
    else
      mP (-1)
set_option maxRecDepth 20000 in
set_option maxHeartbeats 4000000 in
theorem jb_Top_piece {X : qm_X} (hX : qm_ok X qr_Top prog_1_method_15_code 4 6 134 jl_Top_piece) {r0 : Int32} {σ0 : qm_Mem} (hR : qm_RI X r0 σ0 .int) (this : Nat) (p1 : Int32) (p2 : Int32) (hthis : (qm_kd this).1 = 18) : qm_B X (jf_Top_piece this p1 p2) 0 [some (.ref (qx_ad X this)), some (.int p1), some (.int p2), none] [] (fun r σ1 => r = r0 ∧ σ1 = σ0) := by
  unfold jf_Top_piece
  refine qb_aload_n hX 0 rfl rfl ?_
  refine qb_callR hX 1 rfl cv_Top_140 (jm_Top_laidOut (qk_GI hX) this  hthis ) (ci := 8) hthis ⟨rfl, rfl, rfl, by decide, by decide⟩ rfl (by exact Nat.le_of_ble_eq_true rfl) (fun r1 hr1 => ?_)
  refine qb_getR hX 2 rfl fl_Top_144 hr1 rfl ?_
  refine qb_astore_n hX 3 ([some (.ref (qx_ad X this)), some (.int p1), some (.int p2), some (.ref (qx_ad X (qm_rf r1 1)))]) rfl (by decide) rfl ?_
  refine qb_iload_n hX 4 rfl rfl ?_
  refine qb_iflt hX 5 20 rfl (by decide) ?_ ?_
  ·
    refine qb_iconst hX 10 (-1) rfl (by decide) ?_
    exact qb_iret hX 11 rfl hR (fun _ h => h)
  ·
    refine qb_iload_n hX 6 rfl rfl ?_
    refine qb_aload_n hX 7 rfl rfl ?_
    refine qb_get hX 8 rfl fl_Top_158 (kf_Press_1 hr1) rfl (fun x2 => ?_)
    refine qb_iclt hX 9 22 rfl (by decide) ?_ ?_
    ·
      refine qb_iload_n hX 12 rfl rfl ?_
      refine qb_swc 0 ?_ (fun h0 => ?_)
      ·
        refine qb_tin hX 13 64 rfl (by decide) (by decide) rfl (by decide) ?_
        refine qb_aload_n hX 14 rfl rfl ?_
        refine qb_getR hX 15 rfl fl_Top_161 (kf_Press_1 hr1) rfl ?_
        refine qb_iload_n hX 16 rfl rfl ?_
        refine qb_calSI hX 17 rfl cv_Top_154 (jm_Top_at (qk_GI hX) (qm_rf (qm_rf r1 1) 5) p1 (kf_Flow_5 (kf_Press_1 hr1))) ⟨rfl, by decide, by decide⟩ rfl (by exact Nat.le_of_ble_eq_true rfl) (fun x3 => ?_)
        exact qb_iret hX 18 rfl hR (fun _ h => h)
      refine qb_swc 1 ?_ (fun h1 => ?_)
      ·
        refine qb_tin hX 13 73 rfl (by decide) (by decide) rfl (by decide) ?_
        refine qb_aload_n hX 19 rfl rfl ?_
        refine qb_getR hX 20 rfl fl_Top_164 (kf_Press_1 hr1) rfl ?_
        refine qb_iload_n hX 21 rfl rfl ?_
        refine qb_calSI hX 22 rfl cv_Top_154 (jm_Top_at (qk_GI hX) (qm_rf (qm_rf r1 1) 6) p1 (kf_Flow_6 (kf_Press_1 hr1))) ⟨rfl, by decide, by decide⟩ rfl (by exact Nat.le_of_ble_eq_true rfl) (fun x4 => ?_)
        exact qb_iret hX 23 rfl hR (fun _ h => h)
      refine qb_swc 2 ?_ (fun h2 => ?_)
      ·
        refine qb_tin hX 13 82 rfl (by decide) (by decide) rfl (by decide) ?_
        refine qb_aload_n hX 24 rfl rfl ?_
        refine qb_getR hX 25 rfl fl_Top_167 (kf_Press_1 hr1) rfl ?_
        refine qb_iload_n hX 26 rfl rfl ?_
        refine qb_calSI hX 27 rfl cv_Top_154 (jm_Top_at (qk_GI hX) (qm_rf (qm_rf r1 1) 7) p1 (kf_Flow_7 (kf_Press_1 hr1))) ⟨rfl, by decide, by decide⟩ rfl (by exact Nat.le_of_ble_eq_true rfl) (fun x5 => ?_)
        exact qb_iret hX 28 rfl hR (fun _ h => h)
      refine qb_swc 3 ?_ (fun h3 => ?_)
      ·
        refine qb_tin hX 13 91 rfl (by decide) (by decide) rfl (by decide) ?_
        refine qb_aload_n hX 29 rfl rfl ?_
        refine qb_getR hX 30 rfl fl_Top_170 (kf_Press_1 hr1) rfl ?_
        refine qb_iload_n hX 31 rfl rfl ?_
        refine qb_calSI hX 32 rfl cv_Top_154 (jm_Top_at (qk_GI hX) (qm_rf (qm_rf r1 1) 8) p1 (kf_Flow_8 (kf_Press_1 hr1))) ⟨rfl, by decide, by decide⟩ rfl (by exact Nat.le_of_ble_eq_true rfl) (fun x6 => ?_)
        exact qb_iret hX 33 rfl hR (fun _ h => h)
      refine qb_swc 4 ?_ (fun h4 => ?_)
      ·
        refine qb_tin hX 13 100 rfl (by decide) (by decide) rfl (by decide) ?_
        refine qb_aload_n hX 34 rfl rfl ?_
        refine qb_getR hX 35 rfl fl_Top_173 (kf_Press_1 hr1) rfl ?_
        refine qb_iload_n hX 36 rfl rfl ?_
        refine qb_calSI hX 37 rfl cv_Top_154 (jm_Top_at (qk_GI hX) (qm_rf (qm_rf r1 1) 9) p1 (kf_Flow_9 (kf_Press_1 hr1))) ⟨rfl, by decide, by decide⟩ rfl (by exact Nat.le_of_ble_eq_true rfl) (fun x7 => ?_)
        exact qb_iret hX 38 rfl hR (fun _ h => h)
      refine qb_swc 5 ?_ (fun h5 => ?_)
      ·
        refine qb_tin hX 13 109 rfl (by decide) (by decide) rfl (by decide) ?_
        refine qb_aload_n hX 39 rfl rfl ?_
        refine qb_iload_n hX 40 rfl rfl ?_
        refine qb_iconst hX 41 1 rfl (by decide) ?_
        refine qb_iadd hX 42 rfl ?_
        refine qb_callI hX 43 rfl cv_Top_176 (jm_Flow_mayEnd (qk_GI hX) (qm_rf r1 1) (p1 + 1) (kf_Press_1 hr1) ) (ci := 1) (kf_Press_1 hr1) ⟨rfl, rfl, rfl, by decide, by decide⟩ rfl (by exact Nat.le_of_ble_eq_true rfl) (fun x8 => ?_)
        refine qb_ifeq hX 44 123 rfl (by decide) ?_ ?_
        ·
          refine qb_iconst hX 47 0 rfl (by decide) ?_
          exact qb_iret hX 48 rfl hR (fun _ h => h)
        ·
          refine qb_iconst hX 45 1 rfl (by decide) ?_
          refine qb_goto hX 46 (tgt := 124) rfl (by decide) ?_
          exact qb_iret hX 48 rfl hR (fun _ h => h)
      refine qb_swc 6 ?_ (fun h6 => ?_)
      ·
        refine qb_tin hX 13 125 rfl (by decide) (by decide) rfl (by decide) ?_
        refine qb_aload_n hX 49 rfl rfl ?_
        refine qb_getR hX 50 rfl fl_Top_179 (kf_Press_1 hr1) rfl ?_
        refine qb_iload_n hX 51 rfl rfl ?_
        refine qb_calSI hX 52 rfl cv_Top_154 (jm_Top_at (qk_GI hX) (qm_rf (qm_rf r1 1) 10) p1 (kf_Flow_10 (kf_Press_1 hr1))) ⟨rfl, by decide, by decide⟩ rfl (by exact Nat.le_of_ble_eq_true rfl) (fun x9 => ?_)
        exact qb_iret hX 53 rfl hR (fun _ h => h)
      refine qb_tout hX 13 134 rfl (by have g0 := lv_neT (a := 0) h0 (by decide); have g1 := lv_neT (a := 1) h1 (by decide); have g2 := lv_neT (a := 2) h2 (by decide); have g3 := lv_neT (a := 3) h3 (by decide); have g4 := lv_neT (a := 4) h4 (by decide); have g5 := lv_neT (a := 5) h5 (by decide); have g6 := lv_neT (a := 6) h6 (by decide); omega) (by decide) ?_
      refine qb_iconst hX 54 (-1) rfl (by decide) ?_
      exact qb_iret hX 55 rfl hR (fun _ h => h)
    ·
      refine qb_iconst hX 10 (-1) rfl (by decide) ?_
      exact qb_iret hX 11 rfl hR (fun _ h => h)
theorem jm_Top_piece {l : Launch} {G : qm_G} (hG : qm_GI G) (this : Nat) (p1 : Int32) (p2 : Int32) (hthis : (qm_kd this).1 = 18) : qm_MI l G jy_Top_piece prog_1_method_15_code 4 (some .int) 6 134 [.ref (G.1 this), .int p1, .int p2] (jf_Top_piece this p1 p2) :=
  qm_metI (by decide +kernel) jd_Top_piece (fun v hv => by simp only [List.mem_cons, List.not_mem_nil, or_false] at hv; rcases hv with rfl | rfl | rfl <;> rfl) (by exact Nat.le_of_ble_eq_true rfl) hG rfl (fun X hl hg hX r0 σ0 hR => by subst hl; subst hg; exact jb_Top_piece hX hR this p1 p2 hthis)
def jl_Top_section : List qm_I := [(0, .aload_n 0, 1, 1), (1, .invokevirtual 140, 3, 4), (4, .getfield 144, 3, 7), (7, .astore_n 3, 1, 8), (8, .iload_n 1, 1, 9), (9, .ifCond .lt 11, 3, 12), (12, .iload_n 1, 1, 13), (13, .aload_n 3, 1, 14), (14, .getfield 182, 3, 17), (17, .if_icmp .lt 5, 3, 20), (20, .iconst (-1), 1, 21), (21, .ireturn, 1, 22), (22, .aload_n 3, 1, 23), (23, .getfield 185, 3, 26), (26, .iload_n 1, 1, 27), (27, .invokestatic 154, 3, 30), (30, .istore 4, 2, 32), (32, .aload_n 3, 1, 33), (33, .getfield 188, 3, 36), (36, .iload_n 1, 1, 37), (37, .invokestatic 154, 3, 40), (40, .istore 5, 2, 42), (42, .iload_n 2, 1, 43), (43, .tableswitch 66 0 4 #[33, 36, 39, 48, 57], 33, 76), (76, .iload 4, 2, 78), (78, .ireturn, 1, 79), (79, .iload 5, 2, 81), (81, .ireturn, 1, 82), (82, .aload_n 3, 1, 83), (83, .getfield 191, 3, 86), (86, .iload_n 1, 1, 87), (87, .invokestatic 154, 3, 90), (90, .ireturn, 1, 91), (91, .aload_n 3, 1, 92), (92, .iload 4, 2, 94), (94, .iload 5, 2, 96), (96, .invokevirtual 194, 3, 99), (99, .ireturn, 1, 100), (100, .aload_n 3, 1, 101), (101, .iload 4, 2, 103), (103, .iload 5, 2, 105), (105, .invokevirtual 197, 3, 108), (108, .ireturn, 1, 109), (109, .iconst (-1), 1, 110), (110, .ireturn, 1, 111)]
theorem jd_Top_section : qm_D prog_1_method_16_code jl_Top_section := qm_D_of (by decide +kernel)
noncomputable def jf_Top_section (this : Nat) (p1 : Int32) (p2 : Int32) : qm_M Int32 :=
  mB (mK 13 (jf_Top_laidOut this)) fun r1 =>
  if p1 < 0 then
    mP (-1)
  else
    mB (mGt (qm_rf r1 1) 1) fun x2 =>
    if p1 < x2 then
      mB (jf_Top_at (qm_rf (qm_rf r1 1) 16) p1) fun x3 =>
      mB (jf_Top_at (qm_rf (qm_rf r1 1) 17) p1) fun x4 =>
      if p2 = 0 then
        mP x3
      else
      if p2 = 1 then
        mP x4
      else
      if p2 = 2 then
        mB (jf_Top_at (qm_rf (qm_rf r1 1) 18) p1) fun x5 =>
        mP x5
      else
      if p2 = 3 then
        mB (jf_Flow_endsIn (qm_rf r1 1) x3 x4) fun x6 =>
        mP x6
      else
      if p2 = 4 then
        mB (jf_Flow_ownLines (qm_rf r1 1) x3 x4) fun x7 =>
        mP x7
      else
      mP (-1)
    else
      mP (-1)
set_option maxRecDepth 20000 in
set_option maxHeartbeats 4000000 in
theorem jb_Top_section {X : qm_X} (hX : qm_ok X qr_Top prog_1_method_16_code 6 6 134 jl_Top_section) {r0 : Int32} {σ0 : qm_Mem} (hR : qm_RI X r0 σ0 .int) (this : Nat) (p1 : Int32) (p2 : Int32) (hthis : (qm_kd this).1 = 18) : qm_B X (jf_Top_section this p1 p2) 0 [some (.ref (qx_ad X this)), some (.int p1), some (.int p2), none, none, none] [] (fun r σ1 => r = r0 ∧ σ1 = σ0) := by
  unfold jf_Top_section
  refine qb_aload_n hX 0 rfl rfl ?_
  refine qb_callR hX 1 rfl cv_Top_140 (jm_Top_laidOut (qk_GI hX) this  hthis ) (ci := 8) hthis ⟨rfl, rfl, rfl, by decide, by decide⟩ rfl (by exact Nat.le_of_ble_eq_true rfl) (fun r1 hr1 => ?_)
  refine qb_getR hX 2 rfl fl_Top_144 hr1 rfl ?_
  refine qb_astore_n hX 3 ([some (.ref (qx_ad X this)), some (.int p1), some (.int p2), some (.ref (qx_ad X (qm_rf r1 1))), none, none]) rfl (by decide) rfl ?_
  refine qb_iload_n hX 4 rfl rfl ?_
  refine qb_iflt hX 5 20 rfl (by decide) ?_ ?_
  ·
    refine qb_iconst hX 10 (-1) rfl (by decide) ?_
    exact qb_iret hX 11 rfl hR (fun _ h => h)
  ·
    refine qb_iload_n hX 6 rfl rfl ?_
    refine qb_aload_n hX 7 rfl rfl ?_
    refine qb_get hX 8 rfl fl_Top_182 (kf_Press_1 hr1) rfl (fun x2 => ?_)
    refine qb_iclt hX 9 22 rfl (by decide) ?_ ?_
    ·
      refine qb_aload_n hX 12 rfl rfl ?_
      refine qb_getR hX 13 rfl fl_Top_185 (kf_Press_1 hr1) rfl ?_
      refine qb_iload_n hX 14 rfl rfl ?_
      refine qb_calSI hX 15 rfl cv_Top_154 (jm_Top_at (qk_GI hX) (qm_rf (qm_rf r1 1) 16) p1 (kf_Flow_16 (kf_Press_1 hr1))) ⟨rfl, by decide, by decide⟩ rfl (by exact Nat.le_of_ble_eq_true rfl) (fun x3 => ?_)
      refine qb_istore hX 16 ([some (.ref (qx_ad X this)), some (.int p1), some (.int p2), some (.ref (qx_ad X (qm_rf r1 1))), some (.int x3), none]) rfl (by decide) rfl ?_
      refine qb_aload_n hX 17 rfl rfl ?_
      refine qb_getR hX 18 rfl fl_Top_188 (kf_Press_1 hr1) rfl ?_
      refine qb_iload_n hX 19 rfl rfl ?_
      refine qb_calSI hX 20 rfl cv_Top_154 (jm_Top_at (qk_GI hX) (qm_rf (qm_rf r1 1) 17) p1 (kf_Flow_17 (kf_Press_1 hr1))) ⟨rfl, by decide, by decide⟩ rfl (by exact Nat.le_of_ble_eq_true rfl) (fun x4 => ?_)
      refine qb_istore hX 21 ([some (.ref (qx_ad X this)), some (.int p1), some (.int p2), some (.ref (qx_ad X (qm_rf r1 1))), some (.int x3), some (.int x4)]) rfl (by decide) rfl ?_
      refine qb_iload_n hX 22 rfl rfl ?_
      refine qb_swc 0 ?_ (fun h0 => ?_)
      ·
        refine qb_tin hX 23 76 rfl (by decide) (by decide) rfl (by decide) ?_
        refine qb_iload hX 24 rfl rfl ?_
        exact qb_iret hX 25 rfl hR (fun _ h => h)
      refine qb_swc 1 ?_ (fun h1 => ?_)
      ·
        refine qb_tin hX 23 79 rfl (by decide) (by decide) rfl (by decide) ?_
        refine qb_iload hX 26 rfl rfl ?_
        exact qb_iret hX 27 rfl hR (fun _ h => h)
      refine qb_swc 2 ?_ (fun h2 => ?_)
      ·
        refine qb_tin hX 23 82 rfl (by decide) (by decide) rfl (by decide) ?_
        refine qb_aload_n hX 28 rfl rfl ?_
        refine qb_getR hX 29 rfl fl_Top_191 (kf_Press_1 hr1) rfl ?_
        refine qb_iload_n hX 30 rfl rfl ?_
        refine qb_calSI hX 31 rfl cv_Top_154 (jm_Top_at (qk_GI hX) (qm_rf (qm_rf r1 1) 18) p1 (kf_Flow_18 (kf_Press_1 hr1))) ⟨rfl, by decide, by decide⟩ rfl (by exact Nat.le_of_ble_eq_true rfl) (fun x5 => ?_)
        exact qb_iret hX 32 rfl hR (fun _ h => h)
      refine qb_swc 3 ?_ (fun h3 => ?_)
      ·
        refine qb_tin hX 23 91 rfl (by decide) (by decide) rfl (by decide) ?_
        refine qb_aload_n hX 33 rfl rfl ?_
        refine qb_iload hX 34 rfl rfl ?_
        refine qb_iload hX 35 rfl rfl ?_
        refine qb_callI hX 36 rfl cv_Top_194 (jm_Flow_endsIn (qk_GI hX) (qm_rf r1 1) x3 x4 (kf_Press_1 hr1) ) (ci := 1) (kf_Press_1 hr1) ⟨rfl, rfl, rfl, by decide, by decide⟩ rfl (by exact Nat.le_of_ble_eq_true rfl) (fun x6 => ?_)
        exact qb_iret hX 37 rfl hR (fun _ h => h)
      refine qb_swc 4 ?_ (fun h4 => ?_)
      ·
        refine qb_tin hX 23 100 rfl (by decide) (by decide) rfl (by decide) ?_
        refine qb_aload_n hX 38 rfl rfl ?_
        refine qb_iload hX 39 rfl rfl ?_
        refine qb_iload hX 40 rfl rfl ?_
        refine qb_callI hX 41 rfl cv_Top_197 (jm_Flow_ownLines (qk_GI hX) (qm_rf r1 1) x3 x4 (kf_Press_1 hr1) ) (ci := 1) (kf_Press_1 hr1) ⟨rfl, rfl, rfl, by decide, by decide⟩ rfl (by exact Nat.le_of_ble_eq_true rfl) (fun x7 => ?_)
        exact qb_iret hX 42 rfl hR (fun _ h => h)
      refine qb_tout hX 23 109 rfl (by have g0 := lv_neT (a := 0) h0 (by decide); have g1 := lv_neT (a := 1) h1 (by decide); have g2 := lv_neT (a := 2) h2 (by decide); have g3 := lv_neT (a := 3) h3 (by decide); have g4 := lv_neT (a := 4) h4 (by decide); omega) (by decide) ?_
      refine qb_iconst hX 43 (-1) rfl (by decide) ?_
      exact qb_iret hX 44 rfl hR (fun _ h => h)
    ·
      refine qb_iconst hX 10 (-1) rfl (by decide) ?_
      exact qb_iret hX 11 rfl hR (fun _ h => h)
theorem jm_Top_section {l : Launch} {G : qm_G} (hG : qm_GI G) (this : Nat) (p1 : Int32) (p2 : Int32) (hthis : (qm_kd this).1 = 18) : qm_MI l G jy_Top_section prog_1_method_16_code 6 (some .int) 6 134 [.ref (G.1 this), .int p1, .int p2] (jf_Top_section this p1 p2) :=
  qm_metI (by decide +kernel) jd_Top_section (fun v hv => by simp only [List.mem_cons, List.not_mem_nil, or_false] at hv; rcases hv with rfl | rfl | rfl <;> rfl) (by exact Nat.le_of_ble_eq_true rfl) hG rfl (fun X hl hg hX r0 σ0 hR => by subst hl; subst hg; exact jb_Top_section hX hR this p1 p2 hthis)
def jl_Top_count : List qm_I := [(0, .iload_n 1, 1, 1), (1, .bipush 10, 2, 3), (3, .if_icmp .lt 21, 3, 6), (6, .iload_n 1, 1, 7), (7, .bipush 18, 2, 9), (9, .if_icmp .ge 15, 3, 12), (12, .aload_n 0, 1, 13), (13, .getfield 12, 3, 16), (16, .iload_n 1, 1, 17), (17, .bipush 10, 2, 19), (19, .isub, 1, 20), (20, .invokevirtual 93, 3, 23), (23, .ireturn, 1, 24), (24, .iload_n 1, 1, 25), (25, .tableswitch 120 0 7 #[47, 55, 66, 77, 88, 96, 104, 109], 47, 72), (72, .aload_n 0, 1, 73), (73, .getfield 12, 3, 76), (76, .getfield 122, 3, 79), (79, .ireturn, 1, 80), (80, .aload_n 0, 1, 81), (81, .invokevirtual 140, 3, 84), (84, .getfield 144, 3, 87), (87, .getfield 158, 3, 90), (90, .ireturn, 1, 91), (91, .aload_n 0, 1, 92), (92, .invokevirtual 140, 3, 95), (95, .getfield 144, 3, 98), (98, .getfield 182, 3, 101), (101, .ireturn, 1, 102), (102, .aload_n 0, 1, 103), (103, .invokevirtual 140, 3, 106), (106, .getfield 144, 3, 109), (109, .getfield 200, 3, 112), (112, .ireturn, 1, 113), (113, .aload_n 0, 1, 114), (114, .getfield 35, 3, 117), (117, .getfield 83, 3, 120), (120, .ireturn, 1, 121), (121, .aload_n 0, 1, 122), (122, .getfield 19, 3, 125), (125, .getfield 64, 3, 128), (128, .ireturn, 1, 129), (129, .aload_n 0, 1, 130), (130, .getfield 137, 3, 133), (133, .ireturn, 1, 134), (134, .aload_n 0, 1, 135), (135, .invokevirtual 140, 3, 138), (138, .getfield 144, 3, 141), (141, .invokevirtual 203, 3, 144), (144, .ireturn, 1, 145), (145, .iconst (-1), 1, 146), (146, .ireturn, 1, 147)]
theorem jd_Top_count : qm_D prog_1_method_17_code jl_Top_count := qm_D_of (by decide +kernel)
noncomputable def jf_Top_count (this : Nat) (p1 : Int32) : qm_M Int32 :=
  mB (α := (Unit ⊕ Int32)) (
    if p1 < 10 then
      mP (Sum.inl ())
    else
      if 18 ≤ p1 then
        mP (Sum.inl ())
      else
        mB (jf_Run_setting (qm_rf this 0) (p1 - 10)) fun x2 =>
        mP (Sum.inr x2)) (Sum.elim (fun s1 =>
    if p1 = 0 then
      mB (mGt (qm_rf this 0) 0) fun x3 =>
      mP x3
    else
    if p1 = 1 then
      mB (mK 13 (jf_Top_laidOut this)) fun r4 =>
      mB (mGt (qm_rf r4 1) 0) fun x5 =>
      mP x5
    else
    if p1 = 2 then
      mB (mK 13 (jf_Top_laidOut this)) fun r6 =>
      mB (mGt (qm_rf r6 1) 1) fun x7 =>
      mP x7
    else
    if p1 = 3 then
      mB (mK 13 (jf_Top_laidOut this)) fun r8 =>
      mB (mGt (qm_rf r8 1) 2) fun x9 =>
      mP x9
    else
    if p1 = 4 then
      mB (mGt (qm_rf this 3) 2) fun x10 =>
      mP x10
    else
    if p1 = 5 then
      mB (mGt (qm_rf this 1) 1) fun x11 =>
      mP x11
    else
    if p1 = 6 then
      mB (mGt this 5) fun x12 =>
      mP x12
    else
    if p1 = 7 then
      mB (mK 13 (jf_Top_laidOut this)) fun r13 =>
      mB (jf_Flow_spans (qm_rf r13 1)) fun x14 =>
      mP x14
    else
    mP (-1)) mP)
set_option maxRecDepth 20000 in
set_option maxHeartbeats 4000000 in
theorem jb_Top_count {X : qm_X} (hX : qm_ok X qr_Top prog_1_method_17_code 2 6 134 jl_Top_count) {r0 : Int32} {σ0 : qm_Mem} (hR : qm_RI X r0 σ0 .int) (this : Nat) (p1 : Int32) (hthis : (qm_kd this).1 = 18) : qm_B X (jf_Top_count this p1) 0 [some (.ref (qx_ad X this)), some (.int p1)] [] (fun r σ1 => r = r0 ∧ σ1 = σ0) := by
  unfold jf_Top_count
  refine qb_iload_n hX 0 rfl rfl ?_
  refine qb_bipush hX 1 10 rfl (by decide) ?_
  refine qb_join2 24 (fun s1 => [some (.ref (qx_ad X this)), some (.int p1)]) (fun s1 => []) ?_ ?_
  ·
    refine qb_iclt hX 2 24 rfl (by decide) ?_ ?_
    ·
      exact qb_exit (fun σ h => qj_wk (ρ' := [some (.ref (qx_ad X this)), some (.int p1)]) (qw_s (qw_s (qw_0))) h)
    ·
      refine qb_iload_n hX 3 rfl rfl ?_
      refine qb_bipush hX 4 18 rfl (by decide) ?_
      refine qb_icge hX 5 24 rfl (by decide) ?_ ?_
      ·
        exact qb_exit (fun σ h => qj_wk (ρ' := [some (.ref (qx_ad X this)), some (.int p1)]) (qw_s (qw_s (qw_0))) h)
      ·
        refine qb_aload_n hX 6 rfl rfl ?_
        refine qb_getR hX 7 rfl fl_Top_12 hthis rfl ?_
        refine qb_iload_n hX 8 rfl rfl ?_
        refine qb_bipush hX 9 10 rfl (by decide) ?_
        refine qb_isub hX 10 rfl ?_
        refine qb_callI hX 11 rfl cv_Top_93 (jm_Run_setting (qk_GI hX) (qm_rf this 0) (p1 - 10) (kf_Top_0 hthis) ) (ci := 4) (kf_Top_0 hthis) ⟨rfl, rfl, rfl, by decide, by decide⟩ rfl (by exact Nat.le_of_ble_eq_true rfl) (fun x2 => ?_)
        exact qb_iret hX 12 rfl hR (fun _ h => h)
  · intro s1
    refine qb_iload_n hX 13 rfl rfl ?_
    refine qb_swc 0 ?_ (fun h0 => ?_)
    ·
      refine qb_tin hX 14 72 rfl (by decide) (by decide) rfl (by decide) ?_
      refine qb_aload_n hX 15 rfl rfl ?_
      refine qb_getR hX 16 rfl fl_Top_12 hthis rfl ?_
      refine qb_get hX 17 rfl fl_Top_122 (kf_Top_0 hthis) rfl (fun x3 => ?_)
      exact qb_iret hX 18 rfl hR (fun _ h => h)
    refine qb_swc 1 ?_ (fun h1 => ?_)
    ·
      refine qb_tin hX 14 80 rfl (by decide) (by decide) rfl (by decide) ?_
      refine qb_aload_n hX 19 rfl rfl ?_
      refine qb_callR hX 20 rfl cv_Top_140 (jm_Top_laidOut (qk_GI hX) this  hthis ) (ci := 8) hthis ⟨rfl, rfl, rfl, by decide, by decide⟩ rfl (by exact Nat.le_of_ble_eq_true rfl) (fun r4 hr4 => ?_)
      refine qb_getR hX 21 rfl fl_Top_144 hr4 rfl ?_
      refine qb_get hX 22 rfl fl_Top_158 (kf_Press_1 hr4) rfl (fun x5 => ?_)
      exact qb_iret hX 23 rfl hR (fun _ h => h)
    refine qb_swc 2 ?_ (fun h2 => ?_)
    ·
      refine qb_tin hX 14 91 rfl (by decide) (by decide) rfl (by decide) ?_
      refine qb_aload_n hX 24 rfl rfl ?_
      refine qb_callR hX 25 rfl cv_Top_140 (jm_Top_laidOut (qk_GI hX) this  hthis ) (ci := 8) hthis ⟨rfl, rfl, rfl, by decide, by decide⟩ rfl (by exact Nat.le_of_ble_eq_true rfl) (fun r6 hr6 => ?_)
      refine qb_getR hX 26 rfl fl_Top_144 hr6 rfl ?_
      refine qb_get hX 27 rfl fl_Top_182 (kf_Press_1 hr6) rfl (fun x7 => ?_)
      exact qb_iret hX 28 rfl hR (fun _ h => h)
    refine qb_swc 3 ?_ (fun h3 => ?_)
    ·
      refine qb_tin hX 14 102 rfl (by decide) (by decide) rfl (by decide) ?_
      refine qb_aload_n hX 29 rfl rfl ?_
      refine qb_callR hX 30 rfl cv_Top_140 (jm_Top_laidOut (qk_GI hX) this  hthis ) (ci := 8) hthis ⟨rfl, rfl, rfl, by decide, by decide⟩ rfl (by exact Nat.le_of_ble_eq_true rfl) (fun r8 hr8 => ?_)
      refine qb_getR hX 31 rfl fl_Top_144 hr8 rfl ?_
      refine qb_get hX 32 rfl fl_Top_200 (kf_Press_1 hr8) rfl (fun x9 => ?_)
      exact qb_iret hX 33 rfl hR (fun _ h => h)
    refine qb_swc 4 ?_ (fun h4 => ?_)
    ·
      refine qb_tin hX 14 113 rfl (by decide) (by decide) rfl (by decide) ?_
      refine qb_aload_n hX 34 rfl rfl ?_
      refine qb_getR hX 35 rfl fl_Top_35 hthis rfl ?_
      refine qb_get hX 36 rfl fl_Top_83 (kf_Top_3 hthis) rfl (fun x10 => ?_)
      exact qb_iret hX 37 rfl hR (fun _ h => h)
    refine qb_swc 5 ?_ (fun h5 => ?_)
    ·
      refine qb_tin hX 14 121 rfl (by decide) (by decide) rfl (by decide) ?_
      refine qb_aload_n hX 38 rfl rfl ?_
      refine qb_getR hX 39 rfl fl_Top_19 hthis rfl ?_
      refine qb_get hX 40 rfl fl_Top_64 (kf_Top_1 hthis) rfl (fun x11 => ?_)
      exact qb_iret hX 41 rfl hR (fun _ h => h)
    refine qb_swc 6 ?_ (fun h6 => ?_)
    ·
      refine qb_tin hX 14 129 rfl (by decide) (by decide) rfl (by decide) ?_
      refine qb_aload_n hX 42 rfl rfl ?_
      refine qb_get hX 43 rfl fl_Top_137 hthis rfl (fun x12 => ?_)
      exact qb_iret hX 44 rfl hR (fun _ h => h)
    refine qb_swc 7 ?_ (fun h7 => ?_)
    ·
      refine qb_tin hX 14 134 rfl (by decide) (by decide) rfl (by decide) ?_
      refine qb_aload_n hX 45 rfl rfl ?_
      refine qb_callR hX 46 rfl cv_Top_140 (jm_Top_laidOut (qk_GI hX) this  hthis ) (ci := 8) hthis ⟨rfl, rfl, rfl, by decide, by decide⟩ rfl (by exact Nat.le_of_ble_eq_true rfl) (fun r13 hr13 => ?_)
      refine qb_getR hX 47 rfl fl_Top_144 hr13 rfl ?_
      refine qb_callI hX 48 rfl cv_Top_203 (jm_Flow_spans (qk_GI hX) (qm_rf r13 1)  (kf_Press_1 hr13) ) (ci := 1) (kf_Press_1 hr13) ⟨rfl, rfl, rfl, by decide, by decide⟩ rfl (by exact Nat.le_of_ble_eq_true rfl) (fun x14 => ?_)
      exact qb_iret hX 49 rfl hR (fun _ h => h)
    refine qb_tout hX 14 145 rfl (by have g0 := lv_neT (a := 0) h0 (by decide); have g1 := lv_neT (a := 1) h1 (by decide); have g2 := lv_neT (a := 2) h2 (by decide); have g3 := lv_neT (a := 3) h3 (by decide); have g4 := lv_neT (a := 4) h4 (by decide); have g5 := lv_neT (a := 5) h5 (by decide); have g6 := lv_neT (a := 6) h6 (by decide); have g7 := lv_neT (a := 7) h7 (by decide); omega) (by decide) ?_
    refine qb_iconst hX 50 (-1) rfl (by decide) ?_
    exact qb_iret hX 51 rfl hR (fun _ h => h)
theorem jm_Top_count {l : Launch} {G : qm_G} (hG : qm_GI G) (this : Nat) (p1 : Int32) (hthis : (qm_kd this).1 = 18) : qm_MI l G jy_Top_count prog_1_method_17_code 2 (some .int) 6 134 [.ref (G.1 this), .int p1] (jf_Top_count this p1) :=
  qm_metI (by decide +kernel) jd_Top_count (fun v hv => by simp only [List.mem_cons, List.not_mem_nil, or_false] at hv; rcases hv with rfl | rfl <;> rfl) (by exact Nat.le_of_ble_eq_true rfl) hG rfl (fun X hl hg hX r0 σ0 hR => by subst hl; subst hg; exact jb_Top_count hX hR this p1 hthis)
def jl_Top_pouredNow : List qm_I := [(0, .aload_n 0, 1, 1), (1, .invokevirtual 140, 3, 4), (4, .astore_n 1, 1, 5), (5, .aload_n 0, 1, 6), (6, .getfield 334, 3, 9), (9, .ifCond .ne 13, 3, 12), (12, .aload_n 1, 1, 13), (13, .invokevirtual 315, 3, 16), (16, .pop, 1, 17), (17, .aload_n 0, 1, 18), (18, .iconst 1, 1, 19), (19, .putfield 334, 3, 22), (22, .aload_n 1, 1, 23), (23, .areturn, 1, 24)]
theorem jd_Top_pouredNow : qm_D prog_1_method_40_code jl_Top_pouredNow := qm_D_of (by decide +kernel)
noncomputable def jf_Top_pouredNow (this : Nat) : qm_M Nat :=
  mB (mK 13 (jf_Top_laidOut this)) fun r1 =>
  mB (mGt this 10) fun x2 =>
  if ¬ x2 = 0 then
    mP r1
  else
    mB (jf_Press_pourAll r1) fun x3 =>
    mB (mPz this 10 1) fun _ =>
    mP r1
set_option maxRecDepth 20000 in
set_option maxHeartbeats 4000000 in
theorem jb_Top_pouredNow {X : qm_X} (hX : qm_ok X qr_Top prog_1_method_40_code 2 6 154 jl_Top_pouredNow) {r0 : Nat} {σ0 : qm_Mem} (hR : qm_RR X r0 σ0 (.object "ColumnsLevelled$Press")) (this : Nat) (hthis : (qm_kd this).1 = 18) : qm_B X (jf_Top_pouredNow this) 0 [some (.ref (qx_ad X this)), none] [] (fun r σ1 => r = r0 ∧ σ1 = σ0) := by
  unfold jf_Top_pouredNow
  refine qb_aload_n hX 0 rfl rfl ?_
  refine qb_callR hX 1 rfl cv_Top_140 (jm_Top_laidOut (qk_GI hX) this  hthis ) (ci := 8) hthis ⟨rfl, rfl, rfl, by decide, by decide⟩ rfl (by exact Nat.le_of_ble_eq_true rfl) (fun r1 hr1 => ?_)
  refine qb_astore_n hX 2 ([some (.ref (qx_ad X this)), some (.ref (qx_ad X r1))]) rfl (by decide) rfl ?_
  refine qb_aload_n hX 3 rfl rfl ?_
  refine qb_get hX 4 rfl fl_Top_334 hthis rfl (fun x2 => ?_)
  refine qb_ifne hX 5 22 rfl (by decide) ?_ ?_
  ·
    refine qb_aload_n hX 12 rfl rfl ?_
    exact qb_aret hX 13 rfl hR (fun _ h => h)
  ·
    refine qb_aload_n hX 6 rfl rfl ?_
    refine qb_callI hX 7 rfl cv_Top_315 (jm_Press_pourAll (qk_GI hX) r1  hr1 ) (ci := 3) hr1 ⟨rfl, rfl, rfl, by decide, by decide⟩ rfl (by exact Nat.le_of_ble_eq_true rfl) (fun x3 => ?_)
    refine qb_pop hX 8 rfl rfl ?_
    refine qb_aload_n hX 9 rfl rfl ?_
    refine qb_iconst hX 10 1 rfl (by decide) ?_
    refine qb_putZ hX 11 rfl fp_Top_334 hthis ?_
    refine qb_aload_n hX 12 rfl rfl ?_
    exact qb_aret hX 13 rfl hR (fun _ h => h)
theorem jm_Top_pouredNow {l : Launch} {G : qm_G} (hG : qm_GI G) (this : Nat) (hthis : (qm_kd this).1 = 18) : qm_MR l G jy_Top_pouredNow prog_1_method_40_code 2 (some (.object "ColumnsLevelled$Press")) 6 154 [.ref (G.1 this)] (jf_Top_pouredNow this) :=
  qm_metR (by decide +kernel) jd_Top_pouredNow (fun v hv => by simp only [List.mem_cons, List.not_mem_nil, or_false] at hv; rcases hv with rfl <;> rfl) (by exact Nat.le_of_ble_eq_true rfl) hG rfl (Or.inl ⟨_, rfl⟩) (fun X hl hg hX r0 σ0 hR => by subst hl; subst hg; exact jb_Top_pouredNow hX hR this hthis)
def jl_Top_pour : List qm_I := [(0, .aload_n 0, 1, 1), (1, .invokevirtual 206, 3, 4), (4, .invokevirtual 209, 3, 7), (7, .ireturn, 1, 8)]
theorem jd_Top_pour : qm_D prog_1_method_18_code jl_Top_pour := qm_D_of (by decide +kernel)
noncomputable def jf_Top_pour (this : Nat) : qm_M Int32 :=
  mB (mK 13 (jf_Top_pouredNow this)) fun r1 =>
  mB (jf_Press_answer r1) fun x2 =>
  mP x2
set_option maxRecDepth 20000 in
set_option maxHeartbeats 4000000 in
theorem jb_Top_pour {X : qm_X} (hX : qm_ok X qr_Top prog_1_method_18_code 1 7 175 jl_Top_pour) {r0 : Int32} {σ0 : qm_Mem} (hR : qm_RI X r0 σ0 .int) (this : Nat) (hthis : (qm_kd this).1 = 18) : qm_B X (jf_Top_pour this) 0 [some (.ref (qx_ad X this))] [] (fun r σ1 => r = r0 ∧ σ1 = σ0) := by
  unfold jf_Top_pour
  refine qb_aload_n hX 0 rfl rfl ?_
  refine qb_callR hX 1 rfl cv_Top_206 (jm_Top_pouredNow (qk_GI hX) this  hthis ) (ci := 8) hthis ⟨rfl, rfl, rfl, by decide, by decide⟩ rfl (by exact Nat.le_of_ble_eq_true rfl) (fun r1 hr1 => ?_)
  refine qb_callI hX 2 rfl cv_Top_209 (jm_Press_answer (qk_GI hX) r1  hr1 ) (ci := 3) hr1 ⟨rfl, rfl, rfl, by decide, by decide⟩ rfl (by exact Nat.le_of_ble_eq_true rfl) (fun x2 => ?_)
  exact qb_iret hX 3 rfl hR (fun _ h => h)
theorem jm_Top_pour {l : Launch} {G : qm_G} (hG : qm_GI G) (this : Nat) (hthis : (qm_kd this).1 = 18) : qm_MI l G jy_Top_pour prog_1_method_18_code 1 (some .int) 7 175 [.ref (G.1 this)] (jf_Top_pour this) :=
  qm_metI (by decide +kernel) jd_Top_pour (fun v hv => by simp only [List.mem_cons, List.not_mem_nil, or_false] at hv; rcases hv with rfl <;> rfl) (by exact Nat.le_of_ble_eq_true rfl) hG rfl (fun X hl hg hX r0 σ0 hR => by subst hl; subst hg; exact jb_Top_pour hX hR this hthis)
def jl_Top_column : List qm_I := [(0, .aload_n 0, 1, 1), (1, .invokevirtual 206, 3, 4), (4, .astore_n 3, 1, 5), (5, .iload_n 1, 1, 6), (6, .iconst (-1), 1, 7), (7, .if_icmp .ne 12, 3, 10), (10, .iload_n 2, 1, 11), (11, .ifCond .ne 8, 3, 14), (14, .aload_n 3, 1, 15), (15, .getfield 212, 3, 18), (18, .ireturn, 1, 19), (19, .iload_n 1, 1, 20), (20, .ifCond .lt 21, 3, 23), (23, .iload_n 1, 1, 24), (24, .aload_n 3, 1, 25), (25, .getfield 212, 3, 28), (28, .if_icmp .ge 13, 3, 31), (31, .iload_n 2, 1, 32), (32, .ifCond .lt 9, 3, 35), (35, .iload_n 2, 1, 36), (36, .bipush 12, 2, 38), (38, .if_icmp .lt 5, 3, 41), (41, .iconst (-1), 1, 42), (42, .ireturn, 1, 43), (43, .aload_n 3, 1, 44), (44, .iload_n 1, 1, 45), (45, .iload_n 2, 1, 46), (46, .invokevirtual 215, 3, 49), (49, .ireturn, 1, 50)]
theorem jd_Top_column : qm_D prog_1_method_19_code jl_Top_column := qm_D_of (by decide +kernel)
noncomputable def jf_Top_column (this : Nat) (p1 : Int32) (p2 : Int32) : qm_M Int32 :=
  mB (mK 13 (jf_Top_pouredNow this)) fun r1 =>
  mB (α := (Unit ⊕ Int32)) (
    if ¬ p1 = (-1) then
      mP (Sum.inl ())
    else
      if ¬ p2 = 0 then
        mP (Sum.inl ())
      else
        mB (mGt r1 4) fun x3 =>
        mP (Sum.inr x3)) (Sum.elim (fun s2 =>
    if p1 < 0 then
      mP (-1)
    else
      mB (mGt r1 4) fun x4 =>
      if x4 ≤ p1 then
        mP (-1)
      else
        if p2 < 0 then
          mP (-1)
        else
          if p2 < 12 then
            mB (jf_Press_cell r1 p1 p2) fun x5 =>
            mP x5
          else
            mP (-1)) mP)
set_option maxRecDepth 20000 in
set_option maxHeartbeats 4000000 in
theorem jb_Top_column {X : qm_X} (hX : qm_ok X qr_Top prog_1_method_19_code 4 7 175 jl_Top_column) {r0 : Int32} {σ0 : qm_Mem} (hR : qm_RI X r0 σ0 .int) (this : Nat) (p1 : Int32) (p2 : Int32) (hthis : (qm_kd this).1 = 18) : qm_B X (jf_Top_column this p1 p2) 0 [some (.ref (qx_ad X this)), some (.int p1), some (.int p2), none] [] (fun r σ1 => r = r0 ∧ σ1 = σ0) := by
  unfold jf_Top_column
  refine qb_aload_n hX 0 rfl rfl ?_
  refine qb_callR hX 1 rfl cv_Top_206 (jm_Top_pouredNow (qk_GI hX) this  hthis ) (ci := 8) hthis ⟨rfl, rfl, rfl, by decide, by decide⟩ rfl (by exact Nat.le_of_ble_eq_true rfl) (fun r1 hr1 => ?_)
  refine qb_astore_n hX 2 ([some (.ref (qx_ad X this)), some (.int p1), some (.int p2), some (.ref (qx_ad X r1))]) rfl (by decide) rfl ?_
  refine qb_iload_n hX 3 rfl rfl ?_
  refine qb_iconst hX 4 (-1) rfl (by decide) ?_
  refine qb_join2 19 (fun s2 => [none, some (.int p1), some (.int p2), some (.ref (qx_ad X r1))]) (fun s2 => []) ?_ ?_
  ·
    refine qb_icne hX 5 19 rfl (by decide) ?_ ?_
    ·
      exact qb_exit (fun σ h => qj_wk (ρ' := [none, some (.int p1), some (.int p2), some (.ref (qx_ad X r1))]) (qw_n (qw_s (qw_s (qw_s (qw_0))))) h)
    ·
      refine qb_iload_n hX 6 rfl rfl ?_
      refine qb_ifne hX 7 19 rfl (by decide) ?_ ?_
      ·
        exact qb_exit (fun σ h => qj_wk (ρ' := [none, some (.int p1), some (.int p2), some (.ref (qx_ad X r1))]) (qw_n (qw_s (qw_s (qw_s (qw_0))))) h)
      ·
        refine qb_aload_n hX 8 rfl rfl ?_
        refine qb_get hX 9 rfl fl_Top_212 hr1 rfl (fun x3 => ?_)
        exact qb_iret hX 10 rfl hR (fun _ h => h)
  · intro s2
    refine qb_iload_n hX 11 rfl rfl ?_
    refine qb_iflt hX 12 41 rfl (by decide) ?_ ?_
    ·
      refine qb_iconst hX 22 (-1) rfl (by decide) ?_
      exact qb_iret hX 23 rfl hR (fun _ h => h)
    ·
      refine qb_iload_n hX 13 rfl rfl ?_
      refine qb_aload_n hX 14 rfl rfl ?_
      refine qb_get hX 15 rfl fl_Top_212 hr1 rfl (fun x4 => ?_)
      refine qb_icge hX 16 41 rfl (by decide) ?_ ?_
      ·
        refine qb_iconst hX 22 (-1) rfl (by decide) ?_
        exact qb_iret hX 23 rfl hR (fun _ h => h)
      ·
        refine qb_iload_n hX 17 rfl rfl ?_
        refine qb_iflt hX 18 41 rfl (by decide) ?_ ?_
        ·
          refine qb_iconst hX 22 (-1) rfl (by decide) ?_
          exact qb_iret hX 23 rfl hR (fun _ h => h)
        ·
          refine qb_iload_n hX 19 rfl rfl ?_
          refine qb_bipush hX 20 12 rfl (by decide) ?_
          refine qb_iclt hX 21 43 rfl (by decide) ?_ ?_
          ·
            refine qb_aload_n hX 24 rfl rfl ?_
            refine qb_iload_n hX 25 rfl rfl ?_
            refine qb_iload_n hX 26 rfl rfl ?_
            refine qb_callI hX 27 rfl cv_Top_215 (jm_Press_cell (qk_GI hX) r1 p1 p2 hr1 ) (ci := 3) hr1 ⟨rfl, rfl, rfl, by decide, by decide⟩ rfl (by exact Nat.le_of_ble_eq_true rfl) (fun x5 => ?_)
            exact qb_iret hX 28 rfl hR (fun _ h => h)
          ·
            refine qb_iconst hX 22 (-1) rfl (by decide) ?_
            exact qb_iret hX 23 rfl hR (fun _ h => h)
theorem jm_Top_column {l : Launch} {G : qm_G} (hG : qm_GI G) (this : Nat) (p1 : Int32) (p2 : Int32) (hthis : (qm_kd this).1 = 18) : qm_MI l G jy_Top_column prog_1_method_19_code 4 (some .int) 7 175 [.ref (G.1 this), .int p1, .int p2] (jf_Top_column this p1 p2) :=
  qm_metI (by decide +kernel) jd_Top_column (fun v hv => by simp only [List.mem_cons, List.not_mem_nil, or_false] at hv; rcases hv with rfl | rfl | rfl <;> rfl) (by exact Nat.le_of_ble_eq_true rfl) hG rfl (fun X hl hg hX r0 σ0 hR => by subst hl; subst hg; exact jb_Top_column hX hR this p1 p2 hthis)
def jl_Top_note : List qm_I := [(0, .aload_n 0, 1, 1), (1, .invokevirtual 206, 3, 4), (4, .astore_n 3, 1, 5), (5, .iload_n 1, 1, 6), (6, .iconst (-1), 1, 7), (7, .if_icmp .ne 15, 3, 10), (10, .iload_n 2, 1, 11), (11, .ifCond .ne 11, 3, 14), (14, .aload_n 3, 1, 15), (15, .getfield 144, 3, 18), (18, .getfield 200, 3, 21), (21, .ireturn, 1, 22), (22, .iload_n 1, 1, 23), (23, .ifCond .lt 23, 3, 26), (26, .iload_n 1, 1, 27), (27, .aload_n 3, 1, 28), (28, .getfield 144, 3, 31), (31, .getfield 200, 3, 34), (34, .if_icmp .ge 12, 3, 37), (37, .iload_n 2, 1, 38), (38, .ifCond .lt 8, 3, 41), (41, .iload_n 2, 1, 42), (42, .iconst 3, 1, 43), (43, .if_icmp .le 5, 3, 46), (46, .iconst (-1), 1, 47), (47, .ireturn, 1, 48), (48, .aload_n 3, 1, 49), (49, .getfield 144, 3, 52), (52, .getfield 222, 3, 55), (55, .iload_n 1, 1, 56), (56, .invokestatic 154, 3, 59), (59, .istore 4, 2, 61), (61, .iload_n 2, 1, 62), (62, .tableswitch 49 0 2 #[26, 29, 42], 26, 88), (88, .iload 4, 2, 90), (90, .ireturn, 1, 91), (91, .aload_n 3, 1, 92), (92, .getfield 144, 3, 95), (95, .getfield 173, 3, 98), (98, .iload 4, 2, 100), (100, .invokestatic 154, 3, 103), (103, .ireturn, 1, 104), (104, .aload_n 3, 1, 105), (105, .iload 4, 2, 107), (107, .invokevirtual 225, 3, 110), (110, .ireturn, 1, 111), (111, .aload_n 3, 1, 112), (112, .iload 4, 2, 114), (114, .invokevirtual 228, 3, 117), (117, .ireturn, 1, 118)]
theorem jd_Top_note : qm_D prog_1_method_21_code jl_Top_note := qm_D_of (by decide +kernel)
noncomputable def jf_Top_note (this : Nat) (p1 : Int32) (p2 : Int32) : qm_M Int32 :=
  mB (mK 13 (jf_Top_pouredNow this)) fun r1 =>
  mB (α := (Unit ⊕ Int32)) (
    if ¬ p1 = (-1) then
      mP (Sum.inl ())
    else
      if ¬ p2 = 0 then
        mP (Sum.inl ())
      else
        mB (mGt (qm_rf r1 1) 2) fun x3 =>
        mP (Sum.inr x3)) (Sum.elim (fun s2 =>
    if p1 < 0 then
      mP (-1)
    else
      mB (mGt (qm_rf r1 1) 2) fun x4 =>
      if x4 ≤ p1 then
        mP (-1)
      else
        if p2 < 0 then
          mP (-1)
        else
          if p2 ≤ 3 then
            mB (jf_Top_at (qm_rf (qm_rf r1 1) 19) p1) fun x5 =>
            if p2 = 0 then
              mP x5
            else
            if p2 = 1 then
              mB (jf_Top_at (qm_rf (qm_rf r1 1) 9) x5) fun x6 =>
              mP x6
            else
            if p2 = 2 then
              mB (jf_Press_linesByMark r1 x5) fun x7 =>
              mP x7
            else
            mB (jf_Press_columnsOfNote r1 x5) fun x8 =>
            mP x8
          else
            mP (-1)) mP)
set_option maxRecDepth 20000 in
set_option maxHeartbeats 4000000 in
theorem jb_Top_note {X : qm_X} (hX : qm_ok X qr_Top prog_1_method_21_code 5 7 175 jl_Top_note) {r0 : Int32} {σ0 : qm_Mem} (hR : qm_RI X r0 σ0 .int) (this : Nat) (p1 : Int32) (p2 : Int32) (hthis : (qm_kd this).1 = 18) : qm_B X (jf_Top_note this p1 p2) 0 [some (.ref (qx_ad X this)), some (.int p1), some (.int p2), none, none] [] (fun r σ1 => r = r0 ∧ σ1 = σ0) := by
  unfold jf_Top_note
  refine qb_aload_n hX 0 rfl rfl ?_
  refine qb_callR hX 1 rfl cv_Top_206 (jm_Top_pouredNow (qk_GI hX) this  hthis ) (ci := 8) hthis ⟨rfl, rfl, rfl, by decide, by decide⟩ rfl (by exact Nat.le_of_ble_eq_true rfl) (fun r1 hr1 => ?_)
  refine qb_astore_n hX 2 ([some (.ref (qx_ad X this)), some (.int p1), some (.int p2), some (.ref (qx_ad X r1)), none]) rfl (by decide) rfl ?_
  refine qb_iload_n hX 3 rfl rfl ?_
  refine qb_iconst hX 4 (-1) rfl (by decide) ?_
  refine qb_join2 22 (fun s2 => [none, some (.int p1), some (.int p2), some (.ref (qx_ad X r1)), none]) (fun s2 => []) ?_ ?_
  ·
    refine qb_icne hX 5 22 rfl (by decide) ?_ ?_
    ·
      exact qb_exit (fun σ h => qj_wk (ρ' := [none, some (.int p1), some (.int p2), some (.ref (qx_ad X r1)), none]) (qw_n (qw_s (qw_s (qw_s (qw_n (qw_0)))))) h)
    ·
      refine qb_iload_n hX 6 rfl rfl ?_
      refine qb_ifne hX 7 22 rfl (by decide) ?_ ?_
      ·
        exact qb_exit (fun σ h => qj_wk (ρ' := [none, some (.int p1), some (.int p2), some (.ref (qx_ad X r1)), none]) (qw_n (qw_s (qw_s (qw_s (qw_n (qw_0)))))) h)
      ·
        refine qb_aload_n hX 8 rfl rfl ?_
        refine qb_getR hX 9 rfl fl_Top_144 hr1 rfl ?_
        refine qb_get hX 10 rfl fl_Top_200 (kf_Press_1 hr1) rfl (fun x3 => ?_)
        exact qb_iret hX 11 rfl hR (fun _ h => h)
  · intro s2
    refine qb_iload_n hX 12 rfl rfl ?_
    refine qb_iflt hX 13 46 rfl (by decide) ?_ ?_
    ·
      refine qb_iconst hX 24 (-1) rfl (by decide) ?_
      exact qb_iret hX 25 rfl hR (fun _ h => h)
    ·
      refine qb_iload_n hX 14 rfl rfl ?_
      refine qb_aload_n hX 15 rfl rfl ?_
      refine qb_getR hX 16 rfl fl_Top_144 hr1 rfl ?_
      refine qb_get hX 17 rfl fl_Top_200 (kf_Press_1 hr1) rfl (fun x4 => ?_)
      refine qb_icge hX 18 46 rfl (by decide) ?_ ?_
      ·
        refine qb_iconst hX 24 (-1) rfl (by decide) ?_
        exact qb_iret hX 25 rfl hR (fun _ h => h)
      ·
        refine qb_iload_n hX 19 rfl rfl ?_
        refine qb_iflt hX 20 46 rfl (by decide) ?_ ?_
        ·
          refine qb_iconst hX 24 (-1) rfl (by decide) ?_
          exact qb_iret hX 25 rfl hR (fun _ h => h)
        ·
          refine qb_iload_n hX 21 rfl rfl ?_
          refine qb_iconst hX 22 3 rfl (by decide) ?_
          refine qb_icle hX 23 48 rfl (by decide) ?_ ?_
          ·
            refine qb_aload_n hX 26 rfl rfl ?_
            refine qb_getR hX 27 rfl fl_Top_144 hr1 rfl ?_
            refine qb_getR hX 28 rfl fl_Top_222 (kf_Press_1 hr1) rfl ?_
            refine qb_iload_n hX 29 rfl rfl ?_
            refine qb_calSI hX 30 rfl cv_Top_154 (jm_Top_at (qk_GI hX) (qm_rf (qm_rf r1 1) 19) p1 (kf_Flow_19 (kf_Press_1 hr1))) ⟨rfl, by decide, by decide⟩ rfl (by exact Nat.le_of_ble_eq_true rfl) (fun x5 => ?_)
            refine qb_istore hX 31 ([none, some (.int p1), some (.int p2), some (.ref (qx_ad X r1)), some (.int x5)]) rfl (by decide) rfl ?_
            refine qb_iload_n hX 32 rfl rfl ?_
            refine qb_swc 0 ?_ (fun h0 => ?_)
            ·
              refine qb_tin hX 33 88 rfl (by decide) (by decide) rfl (by decide) ?_
              refine qb_iload hX 34 rfl rfl ?_
              exact qb_iret hX 35 rfl hR (fun _ h => h)
            refine qb_swc 1 ?_ (fun h1 => ?_)
            ·
              refine qb_tin hX 33 91 rfl (by decide) (by decide) rfl (by decide) ?_
              refine qb_aload_n hX 36 rfl rfl ?_
              refine qb_getR hX 37 rfl fl_Top_144 hr1 rfl ?_
              refine qb_getR hX 38 rfl fl_Top_173 (kf_Press_1 hr1) rfl ?_
              refine qb_iload hX 39 rfl rfl ?_
              refine qb_calSI hX 40 rfl cv_Top_154 (jm_Top_at (qk_GI hX) (qm_rf (qm_rf r1 1) 9) x5 (kf_Flow_9 (kf_Press_1 hr1))) ⟨rfl, by decide, by decide⟩ rfl (by exact Nat.le_of_ble_eq_true rfl) (fun x6 => ?_)
              exact qb_iret hX 41 rfl hR (fun _ h => h)
            refine qb_swc 2 ?_ (fun h2 => ?_)
            ·
              refine qb_tin hX 33 104 rfl (by decide) (by decide) rfl (by decide) ?_
              refine qb_aload_n hX 42 rfl rfl ?_
              refine qb_iload hX 43 rfl rfl ?_
              refine qb_callI hX 44 rfl cv_Top_225 (jm_Press_linesByMark (qk_GI hX) r1 x5 hr1 ) (ci := 3) hr1 ⟨rfl, rfl, rfl, by decide, by decide⟩ rfl (by exact Nat.le_of_ble_eq_true rfl) (fun x7 => ?_)
              exact qb_iret hX 45 rfl hR (fun _ h => h)
            refine qb_tout hX 33 111 rfl (by have g0 := lv_neT (a := 0) h0 (by decide); have g1 := lv_neT (a := 1) h1 (by decide); have g2 := lv_neT (a := 2) h2 (by decide); omega) (by decide) ?_
            refine qb_aload_n hX 46 rfl rfl ?_
            refine qb_iload hX 47 rfl rfl ?_
            refine qb_callI hX 48 rfl cv_Top_228 (jm_Press_columnsOfNote (qk_GI hX) r1 x5 hr1 ) (ci := 3) hr1 ⟨rfl, rfl, rfl, by decide, by decide⟩ rfl (by exact Nat.le_of_ble_eq_true rfl) (fun x8 => ?_)
            exact qb_iret hX 49 rfl hR (fun _ h => h)
          ·
            refine qb_iconst hX 24 (-1) rfl (by decide) ?_
            exact qb_iret hX 25 rfl hR (fun _ h => h)
theorem jm_Top_note {l : Launch} {G : qm_G} (hG : qm_GI G) (this : Nat) (p1 : Int32) (p2 : Int32) (hthis : (qm_kd this).1 = 18) : qm_MI l G jy_Top_note prog_1_method_21_code 5 (some .int) 7 175 [.ref (G.1 this), .int p1, .int p2] (jf_Top_note this p1 p2) :=
  qm_metI (by decide +kernel) jd_Top_note (fun v hv => by simp only [List.mem_cons, List.not_mem_nil, or_false] at hv; rcases hv with rfl | rfl | rfl <;> rfl) (by exact Nat.le_of_ble_eq_true rfl) hG rfl (fun X hl hg hX r0 σ0 hR => by subst hl; subst hg; exact jb_Top_note hX hR this p1 p2 hthis)
def jl_Top_loose : List qm_I := [(0, .iload_n 1, 1, 1), (1, .ifCond .lt 8, 3, 4), (4, .iload_n 1, 1, 5), (5, .iconst 2, 1, 6), (6, .if_icmp .le 5, 3, 9), (9, .iconst (-1), 1, 10), (10, .ireturn, 1, 11), (11, .aload_n 0, 1, 12), (12, .invokevirtual 206, 3, 15), (15, .astore_n 2, 1, 16), (16, .aload_n 2, 1, 17), (17, .getfield 240, 3, 20), (20, .iconst (-1), 1, 21), (21, .if_icmp .eq 8, 3, 24), (24, .aload_n 2, 1, 25), (25, .invokevirtual 209, 3, 28), (28, .ireturn, 1, 29), (29, .iconst 0, 1, 30), (30, .istore_n 3, 1, 31), (31, .iconst 0, 1, 32), (32, .istore 4, 2, 34), (34, .bipush (-2), 2, 36), (36, .istore 5, 2, 38), (38, .iconst 0, 1, 39), (39, .istore 6, 2, 41), (41, .iload 6, 2, 43), (43, .aload_n 2, 1, 44), (44, .getfield 212, 3, 47), (47, .if_icmp .ge 53, 3, 50), (50, .aload_n 2, 1, 51), (51, .iload 6, 2, 53), (53, .bipush 10, 2, 55), (55, .invokevirtual 215, 3, 58), (58, .aload_n 2, 1, 59), (59, .iload 6, 2, 61), (61, .invokevirtual 243, 3, 64), (64, .isub, 1, 65), (65, .istore 7, 2, 67), (67, .iload_n 3, 1, 68), (68, .iload 7, 2, 70), (70, .iadd, 1, 71), (71, .istore_n 3, 1, 72), (72, .iload 5, 2, 74), (74, .bipush (-2), 2, 76), (76, .if_icmp .eq 10, 3, 79), (79, .iload 7, 2, 81), (81, .iload 4, 2, 83), (83, .if_icmp .le 11, 3, 86), (86, .iload 7, 2, 88), (88, .istore 4, 2, 90), (90, .iload 6, 2, 92), (92, .istore 5, 2, 94), (94, .iinc 6 1, 3, 97), (97, .goto (-56), 3, 100), (100, .iload_n 1, 1, 101), (101, .lookupswitch 32 #[(0, 27), (1, 29)], 27, 128), (128, .iload_n 3, 1, 129), (129, .ireturn, 1, 130), (130, .iload 4, 2, 132), (132, .ireturn, 1, 133), (133, .iload 5, 2, 135), (135, .ireturn, 1, 136)]
theorem jd_Top_loose : qm_D prog_1_method_23_code jl_Top_loose := qm_D_of (by decide +kernel)
noncomputable def jf_Top_loose (this : Nat) (p1 : Int32) : qm_M Int32 :=
  if p1 < 0 then
    mP (-1)
  else
    if p1 ≤ 2 then
      mB (mK 13 (jf_Top_pouredNow this)) fun r1 =>
      mB (mGt r1 9) fun x2 =>
      if x2 = (-1) then
        mB (α := Int32 × Int32 × Int32) (
          mW (S := Int32 × Int32 × Int32 × Int32) (α := Int32 × Int32 × Int32) (fun s4 =>
            mB (mGt r1 4) fun x5 =>
            if x5 ≤ s4.2.2.2 then
              mP (Sum.inr (s4.1, s4.2.1, s4.2.2.1))
            else
              mB (jf_Press_cell r1 s4.2.2.2 10) fun x6 =>
              mB (jf_Press_used r1 s4.2.2.2) fun x7 =>
              mB (mP (x6 - x7)) fun x8 =>
              mB (mP (s4.1 + x8)) fun x9 =>
              mB (α := Int32 × Int32) (
                mB (α := (Unit ⊕ (Int32 × Int32))) (
                  if s4.2.2.1 = (-2) then
                    mP (Sum.inl ())
                  else
                    if x8 ≤ s4.2.1 then
                      mP (Sum.inr (s4.2.1, s4.2.2.1))
                    else
                      mP (Sum.inl ())) (Sum.elim (fun s11 =>
                  mP (x8, s4.2.2.2)) mP)) fun s10 =>
              mB (mP (s4.2.2.2 + 1)) fun x12 =>
              mP (Sum.inl (x9, s10.1, s10.2, x12))) (0, 0, (-2), 0)) fun s3 =>
        if p1 = 0 then
          mP s3.1
        else
        if p1 = 1 then
          mP s3.2.1
        else
        mP s3.2.2
      else
        mB (jf_Press_answer r1) fun x13 =>
        mP x13
    else
      mP (-1)
set_option maxRecDepth 20000 in
set_option maxHeartbeats 4000000 in
theorem jb_Top_loose {X : qm_X} (hX : qm_ok X qr_Top prog_1_method_23_code 8 7 175 jl_Top_loose) {r0 : Int32} {σ0 : qm_Mem} (hR : qm_RI X r0 σ0 .int) (this : Nat) (p1 : Int32) (hthis : (qm_kd this).1 = 18) : qm_B X (jf_Top_loose this p1) 0 [some (.ref (qx_ad X this)), some (.int p1), none, none, none, none, none, none] [] (fun r σ1 => r = r0 ∧ σ1 = σ0) := by
  unfold jf_Top_loose
  refine qb_iload_n hX 0 rfl rfl ?_
  refine qb_iflt hX 1 9 rfl (by decide) ?_ ?_
  ·
    refine qb_iconst hX 5 (-1) rfl (by decide) ?_
    exact qb_iret hX 6 rfl hR (fun _ h => h)
  ·
    refine qb_iload_n hX 2 rfl rfl ?_
    refine qb_iconst hX 3 2 rfl (by decide) ?_
    refine qb_icle hX 4 11 rfl (by decide) ?_ ?_
    ·
      refine qb_aload_n hX 7 rfl rfl ?_
      refine qb_callR hX 8 rfl cv_Top_206 (jm_Top_pouredNow (qk_GI hX) this  hthis ) (ci := 8) hthis ⟨rfl, rfl, rfl, by decide, by decide⟩ rfl (by exact Nat.le_of_ble_eq_true rfl) (fun r1 hr1 => ?_)
      refine qb_astore_n hX 9 ([some (.ref (qx_ad X this)), some (.int p1), some (.ref (qx_ad X r1)), none, none, none, none, none]) rfl (by decide) rfl ?_
      refine qb_aload_n hX 10 rfl rfl ?_
      refine qb_get hX 11 rfl fl_Top_240 hr1 rfl (fun x2 => ?_)
      refine qb_iconst hX 12 (-1) rfl (by decide) ?_
      refine qb_iceq hX 13 29 rfl (by decide) ?_ ?_
      ·
        refine qb_iconst hX 17 0 rfl (by decide) ?_
        refine qb_istore_n hX 18 ([some (.ref (qx_ad X this)), some (.int p1), some (.ref (qx_ad X r1)), some (.int 0), none, none, none, none]) rfl (by decide) rfl ?_
        refine qb_iconst hX 19 0 rfl (by decide) ?_
        refine qb_istore hX 20 ([some (.ref (qx_ad X this)), some (.int p1), some (.ref (qx_ad X r1)), some (.int 0), some (.int 0), none, none, none]) rfl (by decide) rfl ?_
        refine qb_bipush hX 21 (-2) rfl (by decide) ?_
        refine qb_istore hX 22 ([some (.ref (qx_ad X this)), some (.int p1), some (.ref (qx_ad X r1)), some (.int 0), some (.int 0), some (.int (-2)), none, none]) rfl (by decide) rfl ?_
        refine qb_iconst hX 23 0 rfl (by decide) ?_
        refine qb_istore hX 24 ([some (.ref (qx_ad X this)), some (.int p1), some (.ref (qx_ad X r1)), some (.int 0), some (.int 0), some (.int (-2)), some (.int 0), none]) rfl (by decide) rfl ?_
        refine qb_join 100 (fun s3 => [none, some (.int p1), none, some (.int s3.1), some (.int s3.2.1), some (.int s3.2.2), none, none]) (fun s3 => []) ?_ ?_
        ·
          refine qb_loopw ((0, 0, (-2), 0)) (fun s4 => [none, some (.int p1), some (.ref (qx_ad X r1)), some (.int s4.1), some (.int s4.2.1), some (.int s4.2.2.1), some (.int s4.2.2.2), none]) (qw_n (qw_s (qw_s (qw_s (qw_s (qw_s (qw_s (qw_n (qw_0))))))))) (fun s4 => ?_)
          refine qb_iload hX 25 rfl rfl ?_
          refine qb_aload_n hX 26 rfl rfl ?_
          refine qb_get hX 27 rfl fl_Top_212 hr1 rfl (fun x5 => ?_)
          refine qb_icge hX 28 100 rfl (by decide) ?_ ?_
          ·
            exact qb_exit (fun σ h => qj_wk (ρ' := [none, some (.int p1), none, some (.int s4.1), some (.int s4.2.1), some (.int s4.2.2.1), none, none]) (qw_n (qw_s (qw_n (qw_s (qw_s (qw_s (qw_n (qw_n (qw_0))))))))) h)
          ·
            refine qb_aload_n hX 29 rfl rfl ?_
            refine qb_iload hX 30 rfl rfl ?_
            refine qb_bipush hX 31 10 rfl (by decide) ?_
            refine qb_callI hX 32 rfl cv_Top_215 (jm_Press_cell (qk_GI hX) r1 s4.2.2.2 10 hr1 ) (ci := 3) hr1 ⟨rfl, rfl, rfl, by decide, by decide⟩ rfl (by exact Nat.le_of_ble_eq_true rfl) (fun x6 => ?_)
            refine qb_aload_n hX 33 rfl rfl ?_
            refine qb_iload hX 34 rfl rfl ?_
            refine qb_callI hX 35 rfl cv_Top_243 (jm_Press_used (qk_GI hX) r1 s4.2.2.2 hr1 ) (ci := 3) hr1 ⟨rfl, rfl, rfl, by decide, by decide⟩ rfl (by exact Nat.le_of_ble_eq_true rfl) (fun x7 => ?_)
            refine qb_isub hX 36 rfl ?_
            refine qb_istoreL hX 37 (fun x8 => [none, some (.int p1), some (.ref (qx_ad X r1)), some (.int s4.1), some (.int s4.2.1), some (.int s4.2.2.1), some (.int s4.2.2.2), some (.int x8)]) rfl (by decide) (fun _ => rfl) (fun x8 => ?_)
            refine qb_iload_n hX 38 rfl rfl ?_
            refine qb_iload hX 39 rfl rfl ?_
            refine qb_iadd hX 40 rfl ?_
            refine qb_istore_nL hX 41 (fun x9 => [none, some (.int p1), some (.ref (qx_ad X r1)), some (.int x9), some (.int s4.2.1), some (.int s4.2.2.1), some (.int s4.2.2.2), some (.int x8)]) rfl (by decide) (fun _ => rfl) (fun x9 => ?_)
            refine qb_iload hX 42 rfl rfl ?_
            refine qb_bipush hX 43 (-2) rfl (by decide) ?_
            refine qb_join 94 (fun s10 => [none, some (.int p1), some (.ref (qx_ad X r1)), some (.int x9), some (.int s10.1), some (.int s10.2), some (.int s4.2.2.2), none]) (fun s10 => []) ?_ ?_
            ·
              refine qb_join2 86 (fun s11 => [none, some (.int p1), some (.ref (qx_ad X r1)), some (.int x9), none, none, some (.int s4.2.2.2), some (.int x8)]) (fun s11 => []) ?_ ?_
              ·
                refine qb_iceq hX 44 86 rfl (by decide) ?_ ?_
                ·
                  exact qb_exit (fun σ h => qj_wk (ρ' := [none, some (.int p1), some (.ref (qx_ad X r1)), some (.int x9), none, none, some (.int s4.2.2.2), some (.int x8)]) (qw_n (qw_s (qw_s (qw_s (qw_n (qw_n (qw_s (qw_s (qw_0))))))))) h)
                ·
                  refine qb_iload hX 45 rfl rfl ?_
                  refine qb_iload hX 46 rfl rfl ?_
                  refine qb_icle hX 47 94 rfl (by decide) ?_ ?_
                  ·
                    exact qb_exit (fun σ h => qj_wk (ρ' := [none, some (.int p1), some (.ref (qx_ad X r1)), some (.int x9), some (.int s4.2.1), some (.int s4.2.2.1), some (.int s4.2.2.2), none]) (qw_n (qw_s (qw_s (qw_s (qw_s (qw_s (qw_s (qw_n (qw_0))))))))) h)
                  ·
                    exact qb_exit (fun σ h => qj_wk (ρ' := [none, some (.int p1), some (.ref (qx_ad X r1)), some (.int x9), none, none, some (.int s4.2.2.2), some (.int x8)]) (qw_n (qw_s (qw_s (qw_s (qw_n (qw_n (qw_s (qw_s (qw_0))))))))) h)
              · intro s11
                refine qb_iload hX 48 rfl rfl ?_
                refine qb_istore hX 49 ([none, some (.int p1), some (.ref (qx_ad X r1)), some (.int x9), some (.int x8), none, some (.int s4.2.2.2), some (.int x8)]) rfl (by decide) rfl ?_
                refine qb_iload hX 50 rfl rfl ?_
                refine qb_istore hX 51 ([none, some (.int p1), some (.ref (qx_ad X r1)), some (.int x9), some (.int x8), some (.int s4.2.2.2), some (.int s4.2.2.2), some (.int x8)]) rfl (by decide) rfl ?_
                exact qb_exit (fun σ h => qj_wk (ρ' := [none, some (.int p1), some (.ref (qx_ad X r1)), some (.int x9), some (.int x8), some (.int s4.2.2.2), some (.int s4.2.2.2), none]) (qw_n (qw_s (qw_s (qw_s (qw_s (qw_s (qw_s (qw_n (qw_0))))))))) h)
            · intro s10
              refine qb_iinc hX 52 1 (fun x12 => [none, some (.int p1), some (.ref (qx_ad X r1)), some (.int x9), some (.int s10.1), some (.int s10.2), some (.int x12), none]) rfl (by decide) (by decide) rfl (fun _ => rfl) (fun x12 => ?_)
              exact qb_exit (fun σ h => qj_goto hX 53 rfl (by decide) (qj_wk (ρ' := [none, some (.int p1), some (.ref (qx_ad X r1)), some (.int x9), some (.int s10.1), some (.int s10.2), some (.int x12), none]) (qw_n (qw_s (qw_s (qw_s (qw_s (qw_s (qw_s (qw_n (qw_0))))))))) h))
        · intro s3
          refine qb_iload_n hX 54 rfl rfl ?_
          refine qb_swc 0 ?_ (fun h0 => ?_)
          ·
            refine qb_lsw hX 55 (off := 27) 128 rfl (by decide) (by decide) (by decide) ?_
            refine qb_iload_n hX 56 rfl rfl ?_
            exact qb_iret hX 57 rfl hR (fun _ h => h)
          refine qb_swc 1 ?_ (fun h1 => ?_)
          ·
            refine qb_lsw hX 55 (off := 29) 130 rfl (by decide) (by decide) (by decide) ?_
            refine qb_iload hX 58 rfl rfl ?_
            exact qb_iret hX 59 rfl hR (fun _ h => h)
          refine qb_lsw hX 55 (off := 32) 133 rfl (by decide) (by rw [lv_osw h0 (by decide)]; rw [lv_osw h1 (by decide)]; try rfl) (by decide) ?_
          refine qb_iload hX 60 rfl rfl ?_
          exact qb_iret hX 61 rfl hR (fun _ h => h)
      ·
        refine qb_aload_n hX 14 rfl rfl ?_
        refine qb_callI hX 15 rfl cv_Top_209 (jm_Press_answer (qk_GI hX) r1  hr1 ) (ci := 3) hr1 ⟨rfl, rfl, rfl, by decide, by decide⟩ rfl (by exact Nat.le_of_ble_eq_true rfl) (fun x13 => ?_)
        exact qb_iret hX 16 rfl hR (fun _ h => h)
    ·
      refine qb_iconst hX 5 (-1) rfl (by decide) ?_
      exact qb_iret hX 6 rfl hR (fun _ h => h)
theorem jm_Top_loose {l : Launch} {G : qm_G} (hG : qm_GI G) (this : Nat) (p1 : Int32) (hthis : (qm_kd this).1 = 18) : qm_MI l G jy_Top_loose prog_1_method_23_code 8 (some .int) 7 175 [.ref (G.1 this), .int p1] (jf_Top_loose this p1) :=
  qm_metI (by decide +kernel) jd_Top_loose (fun v hv => by simp only [List.mem_cons, List.not_mem_nil, or_false] at hv; rcases hv with rfl | rfl <;> rfl) (by exact Nat.le_of_ble_eq_true rfl) hG rfl (fun X hl hg hX r0 σ0 hR => by subst hl; subst hg; exact jb_Top_loose hX hR this p1 hthis)
def jl_Top_asks : List qm_I := [(0, .iload_n 1, 1, 1), (1, .ifCond .lt 32, 3, 4), (4, .iload_n 1, 1, 5), (5, .aload_n 0, 1, 6), (6, .invokevirtual 140, 3, 9), (9, .getfield 144, 3, 12), (12, .getfield 182, 3, 15), (15, .if_icmp .ge 18, 3, 18), (18, .iload_n 2, 1, 19), (19, .ifCond .lt 14, 3, 22), (22, .iload_n 2, 1, 23), (23, .sipush 2000, 3, 26), (26, .if_icmp .gt 7, 3, 29), (29, .iconst 1, 1, 30), (30, .goto 4, 3, 33), (33, .iconst 0, 1, 34), (34, .ireturn, 1, 35)]
theorem jd_Top_asks : qm_D prog_1_method_41_code jl_Top_asks := qm_D_of (by decide +kernel)
noncomputable def jf_Top_asks (this : Nat) (p1 : Int32) (p2 : Int32) : qm_M Int32 :=
  if p1 < 0 then
    mP 0
  else
    mB (mK 13 (jf_Top_laidOut this)) fun r1 =>
    mB (mGt (qm_rf r1 1) 1) fun x2 =>
    if x2 ≤ p1 then
      mP 0
    else
      if p2 < 0 then
        mP 0
      else
        if 2000 < p2 then
          mP 0
        else
          mP 1
set_option maxRecDepth 20000 in
set_option maxHeartbeats 4000000 in
theorem jb_Top_asks {X : qm_X} (hX : qm_ok X qr_Top prog_1_method_41_code 3 6 134 jl_Top_asks) {r0 : Int32} {σ0 : qm_Mem} (hR : qm_RI X r0 σ0 .boolean) (this : Nat) (p1 : Int32) (p2 : Int32) (hthis : (qm_kd this).1 = 18) : qm_B X (jf_Top_asks this p1 p2) 0 [some (.ref (qx_ad X this)), some (.int p1), some (.int p2)] [] (fun r σ1 => r = r0 ∧ σ1 = σ0) := by
  unfold jf_Top_asks
  refine qb_iload_n hX 0 rfl rfl ?_
  refine qb_iflt hX 1 33 rfl (by decide) ?_ ?_
  ·
    refine qb_iconst hX 15 0 rfl (by decide) ?_
    exact qb_zret1 hX 16 rfl hR (by decide) (fun _ h => h)
  ·
    refine qb_iload_n hX 2 rfl rfl ?_
    refine qb_aload_n hX 3 rfl rfl ?_
    refine qb_callR hX 4 rfl cv_Top_140 (jm_Top_laidOut (qk_GI hX) this  hthis ) (ci := 8) hthis ⟨rfl, rfl, rfl, by decide, by decide⟩ rfl (by exact Nat.le_of_ble_eq_true rfl) (fun r1 hr1 => ?_)
    refine qb_getR hX 5 rfl fl_Top_144 hr1 rfl ?_
    refine qb_get hX 6 rfl fl_Top_182 (kf_Press_1 hr1) rfl (fun x2 => ?_)
    refine qb_icge hX 7 33 rfl (by decide) ?_ ?_
    ·
      refine qb_iconst hX 15 0 rfl (by decide) ?_
      exact qb_zret1 hX 16 rfl hR (by decide) (fun _ h => h)
    ·
      refine qb_iload_n hX 8 rfl rfl ?_
      refine qb_iflt hX 9 33 rfl (by decide) ?_ ?_
      ·
        refine qb_iconst hX 15 0 rfl (by decide) ?_
        exact qb_zret1 hX 16 rfl hR (by decide) (fun _ h => h)
      ·
        refine qb_iload_n hX 10 rfl rfl ?_
        refine qb_sipush hX 11 2000 rfl (by decide) ?_
        refine qb_icgt hX 12 33 rfl (by decide) ?_ ?_
        ·
          refine qb_iconst hX 15 0 rfl (by decide) ?_
          exact qb_zret1 hX 16 rfl hR (by decide) (fun _ h => h)
        ·
          refine qb_iconst hX 13 1 rfl (by decide) ?_
          refine qb_goto hX 14 (tgt := 34) rfl (by decide) ?_
          exact qb_zret1 hX 16 rfl hR (by decide) (fun _ h => h)
theorem jm_Top_asks {l : Launch} {G : qm_G} (hG : qm_GI G) (this : Nat) (p1 : Int32) (p2 : Int32) (hthis : (qm_kd this).1 = 18) : qm_MI l G jy_Top_asks prog_1_method_41_code 3 (some .boolean) 6 134 [.ref (G.1 this), .int p1, .int p2] (jf_Top_asks this p1 p2) :=
  qm_metI (by decide +kernel) jd_Top_asks (fun v hv => by simp only [List.mem_cons, List.not_mem_nil, or_false] at hv; rcases hv with rfl | rfl | rfl <;> rfl) (by exact Nat.le_of_ble_eq_true rfl) hG rfl (fun X hl hg hX r0 σ0 hR => by subst hl; subst hg; exact jb_Top_asks hX hR this p1 p2 hthis)
def jl_Top_least : List qm_I := [(0, .aload_n 0, 1, 1), (1, .iload_n 1, 1, 2), (2, .iconst 0, 1, 3), (3, .invokevirtual 264, 3, 6), (6, .ifCond .ne 5, 3, 9), (9, .iconst (-1), 1, 10), (10, .ireturn, 1, 11), (11, .aload_n 0, 1, 12), (12, .getfield 48, 3, 15), (15, .getfield 267, 3, 18), (18, .iload_n 1, 1, 19), (19, .invokevirtual 277, 3, 22), (22, .ireturn, 1, 23)]
theorem jd_Top_least : qm_D prog_1_method_26_code jl_Top_least := qm_D_of (by decide +kernel)
noncomputable def jf_Top_least (this : Nat) (p1 : Int32) : qm_M Int32 :=
  mB (jf_Top_asks this p1 0) fun x1 =>
  if ¬ x1 = 0 then
    mB (jf_Fitter_leastOf (qm_rf (qm_rf this 6) 2) p1) fun x2 =>
    mP x2
  else
    mP (-1)
set_option maxRecDepth 20000 in
set_option maxHeartbeats 4000000 in
theorem jb_Top_least {X : qm_X} (hX : qm_ok X qr_Top prog_1_method_26_code 2 7 156 jl_Top_least) {r0 : Int32} {σ0 : qm_Mem} (hR : qm_RI X r0 σ0 .int) (this : Nat) (p1 : Int32) (hthis : (qm_kd this).1 = 18) : qm_B X (jf_Top_least this p1) 0 [some (.ref (qx_ad X this)), some (.int p1)] [] (fun r σ1 => r = r0 ∧ σ1 = σ0) := by
  unfold jf_Top_least
  refine qb_aload_n hX 0 rfl rfl ?_
  refine qb_iload_n hX 1 rfl rfl ?_
  refine qb_iconst hX 2 0 rfl (by decide) ?_
  refine qb_callI hX 3 rfl cv_Top_264 (jm_Top_asks (qk_GI hX) this p1 0 hthis ) (ci := 8) hthis ⟨rfl, rfl, rfl, by decide, by decide⟩ rfl (by exact Nat.le_of_ble_eq_true rfl) (fun x1 => ?_)
  refine qb_ifne hX 4 11 rfl (by decide) ?_ ?_
  ·
    refine qb_aload_n hX 7 rfl rfl ?_
    refine qb_getR hX 8 rfl fl_Top_48 hthis rfl ?_
    refine qb_getR hX 9 rfl fl_Top_267 (kf_Top_6 hthis) rfl ?_
    refine qb_iload_n hX 10 rfl rfl ?_
    refine qb_callI hX 11 rfl cv_Top_277 (jm_Fitter_leastOf (qk_GI hX) (qm_rf (qm_rf this 6) 2) p1 (kf_Press_2 (kf_Top_6 hthis)) ) (ci := 0) (kf_Press_2 (kf_Top_6 hthis)) ⟨rfl, rfl, rfl, by decide, by decide⟩ rfl (by exact Nat.le_of_ble_eq_true rfl) (fun x2 => ?_)
    exact qb_iret hX 12 rfl hR (fun _ h => h)
  ·
    refine qb_iconst hX 5 (-1) rfl (by decide) ?_
    exact qb_iret hX 6 rfl hR (fun _ h => h)
theorem jm_Top_least {l : Launch} {G : qm_G} (hG : qm_GI G) (this : Nat) (p1 : Int32) (hthis : (qm_kd this).1 = 18) : qm_MI l G jy_Top_least prog_1_method_26_code 2 (some .int) 7 156 [.ref (G.1 this), .int p1] (jf_Top_least this p1) :=
  qm_metI (by decide +kernel) jd_Top_least (fun v hv => by simp only [List.mem_cons, List.not_mem_nil, or_false] at hv; rcases hv with rfl | rfl <;> rfl) (by exact Nat.le_of_ble_eq_true rfl) hG rfl (fun X hl hg hX r0 σ0 hR => by subst hl; subst hg; exact jb_Top_least hX hR this p1 hthis)
end
section
def jl_Teller_isWord : List qm_I := [(0, .iload_n 3, 1, 1), (1, .iload_n 2, 1, 2), (2, .isub, 1, 3), (3, .istore 4, 2, 5), (5, .iload_n 1, 1, 6), (6, .ifCond .lt 34, 3, 9), (9, .iload 4, 2, 11), (11, .ifCond .le 29, 3, 14), (14, .iload_n 1, 1, 15), (15, .iload 4, 2, 17), (17, .iadd, 1, 18), (18, .ldc 94, 2, 20), (20, .invokevirtual 96, 3, 23), (23, .if_icmp .ge 17, 3, 26), (26, .ldc 94, 2, 28), (28, .iload_n 1, 1, 29), (29, .iload 4, 2, 31), (31, .iadd, 1, 32), (32, .invokevirtual 100, 3, 35), (35, .bipush 32, 2, 37), (37, .if_icmp .eq 5, 3, 40), (40, .iconst 0, 1, 41), (41, .ireturn, 1, 42), (42, .iconst 0, 1, 43), (43, .istore 5, 2, 45), (45, .iload 5, 2, 47), (47, .iload 4, 2, 49), (49, .if_icmp .ge 37, 3, 52), (52, .ldc 94, 2, 54), (54, .iload_n 1, 1, 55), (55, .iload 5, 2, 57), (57, .iadd, 1, 58), (58, .invokevirtual 100, 3, 61), (61, .aload_n 0, 1, 62), (62, .getfield 11, 3, 65), (65, .getfield 70, 3, 68), (68, .iload_n 2, 1, 69), (69, .iload 5, 2, 71), (71, .iadd, 1, 72), (72, .invokestatic 73, 3, 75), (75, .if_icmp .eq 5, 3, 78), (78, .iconst 0, 1, 79), (79, .ireturn, 1, 80), (80, .iinc 5 1, 3, 83), (83, .goto (-38), 3, 86), (86, .iconst 1, 1, 87), (87, .ireturn, 1, 88)]
theorem jd_Teller_isWord : qm_D prog_8_method_7_code jl_Teller_isWord := qm_D_of (by decide +kernel)
noncomputable def jf_Teller_isWord (this : Nat) (p1 : Int32) (p2 : Int32) (p3 : Int32) : qm_M Int32 :=
  mB (mP (p3 - p2)) fun x1 =>
  if p1 < 0 then
    mP 0
  else
    if x1 ≤ 0 then
      mP 0
    else
      mB (jf_String_length 408) fun x2 =>
      if x2 ≤ (p1 + x1) then
        mP 0
      else
        mB (jf_String_charAt 408 (p1 + x1)) fun x3 =>
        if x3 = 32 then
          mB (α := (Unit ⊕ Int32)) (
            mW (S := Int32) (α := (Unit ⊕ Int32)) (fun s5 =>
              if x1 ≤ s5 then
                mP (Sum.inr (Sum.inl ()))
              else
                mB (jf_String_charAt 408 (p1 + s5)) fun x6 =>
                mB (jf_Top_at (qm_rf (qm_rf this 0) 0) (p2 + s5)) fun x7 =>
                if x6 = x7 then
                  mB (mP (s5 + 1)) fun x8 =>
                  mP (Sum.inl x8)
                else
                  mP (Sum.inr (Sum.inr 0))) 0) (Sum.elim (fun s4 =>
            mP 1) mP)
        else
          mP 0
set_option maxRecDepth 20000 in
set_option maxHeartbeats 4000000 in
theorem jb_Teller_isWord {X : qm_X} (hX : qm_ok X qr_Teller prog_8_method_7_code 6 5 106 jl_Teller_isWord) {r0 : Int32} {σ0 : qm_Mem} (hR : qm_RI X r0 σ0 .boolean) (this : Nat) (p1 : Int32) (p2 : Int32) (p3 : Int32) (hthis : (qm_kd this).1 = 16) : qm_B X (jf_Teller_isWord this p1 p2 p3) 0 [some (.ref (qx_ad X this)), some (.int p1), some (.int p2), some (.int p3), none, none] [] (fun r σ1 => r = r0 ∧ σ1 = σ0) := by
  unfold jf_Teller_isWord
  refine qb_iload_n hX 0 rfl rfl ?_
  refine qb_iload_n hX 1 rfl rfl ?_
  refine qb_isub hX 2 rfl ?_
  refine qb_istoreL hX 3 (fun x1 => [some (.ref (qx_ad X this)), some (.int p1), some (.int p2), some (.int p3), some (.int x1), none]) rfl (by decide) (fun _ => rfl) (fun x1 => ?_)
  refine qb_iload_n hX 4 rfl rfl ?_
  refine qb_iflt hX 5 40 rfl (by decide) ?_ ?_
  ·
    refine qb_iconst hX 21 0 rfl (by decide) ?_
    exact qb_zret1 hX 22 rfl hR (by decide) (fun _ h => h)
  ·
    refine qb_iload hX 6 rfl rfl ?_
    refine qb_ifle hX 7 40 rfl (by decide) ?_ ?_
    ·
      refine qb_iconst hX 21 0 rfl (by decide) ?_
      exact qb_zret1 hX 22 rfl hR (by decide) (fun _ h => h)
    ·
      refine qb_iload_n hX 8 rfl rfl ?_
      refine qb_iload hX 9 rfl rfl ?_
      refine qb_iadd hX 10 rfl ?_
      refine qb_ldcS hX 11 408 rfl ks_Teller_94 ?_
      refine qb_scal hX 12 rfl cv_Teller_96 (jm_String_length (qk_GI hX) 408  (rfl : (qm_kd 408).1 = 6)) (rfl : (qm_kd 408).1 = 6) ⟨rfl, rfl, by decide, by decide⟩ rfl (by exact Nat.le_of_ble_eq_true rfl) (fun x2 => ?_)
      refine qb_icge hX 13 40 rfl (by decide) ?_ ?_
      ·
        refine qb_iconst hX 21 0 rfl (by decide) ?_
        exact qb_zret1 hX 22 rfl hR (by decide) (fun _ h => h)
      ·
        refine qb_ldcS hX 14 408 rfl ks_Teller_94 ?_
        refine qb_iload_n hX 15 rfl rfl ?_
        refine qb_iload hX 16 rfl rfl ?_
        refine qb_iadd hX 17 rfl ?_
        refine qb_scal hX 18 rfl cv_Teller_100 (jm_String_charAt (qk_GI hX) 408 (p1 + x1) (rfl : (qm_kd 408).1 = 6)) (rfl : (qm_kd 408).1 = 6) ⟨rfl, rfl, by decide, by decide⟩ rfl (by exact Nat.le_of_ble_eq_true rfl) (fun x3 => ?_)
        refine qb_bipush hX 19 32 rfl (by decide) ?_
        refine qb_iceq hX 20 42 rfl (by decide) ?_ ?_
        ·
          refine qb_iconst hX 23 0 rfl (by decide) ?_
          refine qb_istore hX 24 ([some (.ref (qx_ad X this)), some (.int p1), some (.int p2), some (.int p3), some (.int x1), some (.int 0)]) rfl (by decide) rfl ?_
          refine qb_join2 86 (fun s4 => [none, none, none, none, none, none]) (fun s4 => []) ?_ ?_
          ·
            refine qb_loopw (0) (fun s5 => [some (.ref (qx_ad X this)), some (.int p1), some (.int p2), none, some (.int x1), some (.int s5)]) (qw_s (qw_s (qw_s (qw_n (qw_s (qw_s (qw_0))))))) (fun s5 => ?_)
            refine qb_iload hX 25 rfl rfl ?_
            refine qb_iload hX 26 rfl rfl ?_
            refine qb_icge hX 27 86 rfl (by decide) ?_ ?_
            ·
              exact qb_exit (fun σ h => qj_wk (ρ' := [none, none, none, none, none, none]) (qw_n (qw_n (qw_n (qw_n (qw_n (qw_n (qw_0))))))) h)
            ·
              refine qb_ldcS hX 28 408 rfl ks_Teller_94 ?_
              refine qb_iload_n hX 29 rfl rfl ?_
              refine qb_iload hX 30 rfl rfl ?_
              refine qb_iadd hX 31 rfl ?_
              refine qb_scal hX 32 rfl cv_Teller_100 (jm_String_charAt (qk_GI hX) 408 (p1 + s5) (rfl : (qm_kd 408).1 = 6)) (rfl : (qm_kd 408).1 = 6) ⟨rfl, rfl, by decide, by decide⟩ rfl (by exact Nat.le_of_ble_eq_true rfl) (fun x6 => ?_)
              refine qb_aload_n hX 33 rfl rfl ?_
              refine qb_getR hX 34 rfl fl_Teller_11 hthis rfl ?_
              refine qb_getR hX 35 rfl fl_Teller_70 (kf_Teller_0 hthis) rfl ?_
              refine qb_iload_n hX 36 rfl rfl ?_
              refine qb_iload hX 37 rfl rfl ?_
              refine qb_iadd hX 38 rfl ?_
              refine qb_calNI hX 39 rfl cv_Teller_73 (jm_Top_at (qk_GI hX) (qm_rf (qm_rf this 0) 0) (p2 + s5) (kf_Tape_0 (kf_Teller_0 hthis))) ⟨rfl, by decide, by decide⟩ rfl (by exact Nat.le_of_ble_eq_true rfl) (fun x7 => ?_)
              refine qb_iceq hX 40 80 rfl (by decide) ?_ ?_
              ·
                refine qb_iinc hX 43 1 (fun x8 => [some (.ref (qx_ad X this)), some (.int p1), some (.int p2), none, some (.int x1), some (.int x8)]) rfl (by decide) (by decide) rfl (fun _ => rfl) (fun x8 => ?_)
                exact qb_exit (fun σ h => qj_goto hX 44 rfl (by decide) (qj_wk (ρ' := [some (.ref (qx_ad X this)), some (.int p1), some (.int p2), none, some (.int x1), some (.int x8)]) (qw_s (qw_s (qw_s (qw_n (qw_s (qw_s (qw_0))))))) h))
              ·
                refine qb_iconst hX 41 0 rfl (by decide) ?_
                exact qb_zret1 hX 42 rfl hR (by decide) (fun _ h => h)
          · intro s4
            refine qb_iconst hX 45 1 rfl (by decide) ?_
            exact qb_zret1 hX 46 rfl hR (by decide) (fun _ h => h)
        ·
          refine qb_iconst hX 21 0 rfl (by decide) ?_
          exact qb_zret1 hX 22 rfl hR (by decide) (fun _ h => h)
theorem jm_Teller_isWord {l : Launch} {G : qm_G} (hG : qm_GI G) (this : Nat) (p1 : Int32) (p2 : Int32) (p3 : Int32) (hthis : (qm_kd this).1 = 16) : qm_MI l G jy_Teller_isWord prog_8_method_7_code 6 (some .boolean) 5 106 [.ref (G.1 this), .int p1, .int p2, .int p3] (jf_Teller_isWord this p1 p2 p3) :=
  qm_metI (by decide +kernel) jd_Teller_isWord (fun v hv => by simp only [List.mem_cons, List.not_mem_nil, or_false] at hv; rcases hv with rfl | rfl | rfl | rfl <;> rfl) (by exact Nat.le_of_ble_eq_true rfl) hG rfl (fun X hl hg hX r0 σ0 hR => by subst hl; subst hg; exact jb_Teller_isWord hX hR this p1 p2 p3 hthis)
def jl_Teller_wordOf : List qm_I := [(0, .iconst (-1), 1, 1), (1, .istore_n 3, 1, 2), (2, .iconst 0, 1, 3), (3, .istore 4, 2, 5), (5, .iload 4, 2, 7), (7, .ldc 94, 2, 9), (9, .invokevirtual 96, 3, 12), (12, .if_icmp .ge 39, 3, 15), (15, .ldc 94, 2, 17), (17, .iload 4, 2, 19), (19, .invokevirtual 100, 3, 22), (22, .bipush 32, 2, 24), (24, .if_icmp .ne 21, 3, 27), (27, .iinc 3 1, 3, 30), (30, .aload_n 0, 1, 31), (31, .iload 4, 2, 33), (33, .iconst 1, 1, 34), (34, .iadd, 1, 35), (35, .iload_n 1, 1, 36), (36, .iload_n 2, 1, 37), (37, .invokevirtual 104, 3, 40), (40, .ifCond .eq 5, 3, 43), (43, .iload_n 3, 1, 44), (44, .ireturn, 1, 45), (45, .iinc 4 1, 3, 48), (48, .goto (-43), 3, 51), (51, .iconst (-1), 1, 52), (52, .ireturn, 1, 53)]
theorem jd_Teller_wordOf : qm_D prog_8_method_6_code jl_Teller_wordOf := qm_D_of (by decide +kernel)
noncomputable def jf_Teller_wordOf (this : Nat) (p1 : Int32) (p2 : Int32) : qm_M Int32 :=
  mB (α := (Unit ⊕ Int32)) (
    mW (S := Int32 × Int32) (α := (Unit ⊕ Int32)) (fun s2 =>
      mB (jf_String_length 408) fun x3 =>
      if x3 ≤ s2.2 then
        mP (Sum.inr (Sum.inl ()))
      else
        mB (jf_String_charAt 408 s2.2) fun x4 =>
        mB (α := (Int32 ⊕ ((Int32 × Int32) ⊕ (Unit ⊕ Int32)))) (
          if ¬ x4 = 32 then
            mP (Sum.inl s2.1)
          else
            mB (mP (s2.1 + 1)) fun x6 =>
            mB (jf_Teller_isWord this (s2.2 + 1) p1 p2) fun x7 =>
            if x7 = 0 then
              mP (Sum.inl x6)
            else
              mP (Sum.inr (Sum.inr (Sum.inr x6)))) (Sum.elim (fun s5 =>
          mB (mP (s2.2 + 1)) fun x8 =>
          mP (Sum.inl (s5, x8))) mP)) ((-1), 0)) (Sum.elim (fun s1 =>
    mP (-1)) mP)
set_option maxRecDepth 20000 in
set_option maxHeartbeats 4000000 in
theorem jb_Teller_wordOf {X : qm_X} (hX : qm_ok X qr_Teller prog_8_method_6_code 5 6 131 jl_Teller_wordOf) {r0 : Int32} {σ0 : qm_Mem} (hR : qm_RI X r0 σ0 .int) (this : Nat) (p1 : Int32) (p2 : Int32) (hthis : (qm_kd this).1 = 16) : qm_B X (jf_Teller_wordOf this p1 p2) 0 [some (.ref (qx_ad X this)), some (.int p1), some (.int p2), none, none] [] (fun r σ1 => r = r0 ∧ σ1 = σ0) := by
  unfold jf_Teller_wordOf
  refine qb_iconst hX 0 (-1) rfl (by decide) ?_
  refine qb_istore_n hX 1 ([some (.ref (qx_ad X this)), some (.int p1), some (.int p2), some (.int (-1)), none]) rfl (by decide) rfl ?_
  refine qb_iconst hX 2 0 rfl (by decide) ?_
  refine qb_istore hX 3 ([some (.ref (qx_ad X this)), some (.int p1), some (.int p2), some (.int (-1)), some (.int 0)]) rfl (by decide) rfl ?_
  refine qb_join2 51 (fun s1 => [none, none, none, none, none]) (fun s1 => []) ?_ ?_
  ·
    refine qb_loopw (((-1), 0)) (fun s2 => [some (.ref (qx_ad X this)), some (.int p1), some (.int p2), some (.int s2.1), some (.int s2.2)]) (qw_s (qw_s (qw_s (qw_s (qw_s (qw_0)))))) (fun s2 => ?_)
    refine qb_iload hX 4 rfl rfl ?_
    refine qb_ldcS hX 5 408 rfl ks_Teller_94 ?_
    refine qb_scal hX 6 rfl cv_Teller_96 (jm_String_length (qk_GI hX) 408  (rfl : (qm_kd 408).1 = 6)) (rfl : (qm_kd 408).1 = 6) ⟨rfl, rfl, by decide, by decide⟩ rfl (by exact Nat.le_of_ble_eq_true rfl) (fun x3 => ?_)
    refine qb_icge hX 7 51 rfl (by decide) ?_ ?_
    ·
      exact qb_exit (fun σ h => qj_wk (ρ' := [none, none, none, none, none]) (qw_n (qw_n (qw_n (qw_n (qw_n (qw_0)))))) h)
    ·
      refine qb_ldcS hX 8 408 rfl ks_Teller_94 ?_
      refine qb_iload hX 9 rfl rfl ?_
      refine qb_scal hX 10 rfl cv_Teller_100 (jm_String_charAt (qk_GI hX) 408 s2.2 (rfl : (qm_kd 408).1 = 6)) (rfl : (qm_kd 408).1 = 6) ⟨rfl, rfl, by decide, by decide⟩ rfl (by exact Nat.le_of_ble_eq_true rfl) (fun x4 => ?_)
      refine qb_bipush hX 11 32 rfl (by decide) ?_
      refine qb_join2 45 (fun s5 => [some (.ref (qx_ad X this)), some (.int p1), some (.int p2), some (.int s5), some (.int s2.2)]) (fun s5 => []) ?_ ?_
      ·
        refine qb_icne hX 12 45 rfl (by decide) ?_ ?_
        ·
          exact qb_exit (fun σ h => qj_wk (ρ' := [some (.ref (qx_ad X this)), some (.int p1), some (.int p2), some (.int s2.1), some (.int s2.2)]) (qw_s (qw_s (qw_s (qw_s (qw_s (qw_0)))))) h)
        ·
          refine qb_iinc hX 13 1 (fun x6 => [some (.ref (qx_ad X this)), some (.int p1), some (.int p2), some (.int x6), some (.int s2.2)]) rfl (by decide) (by decide) rfl (fun _ => rfl) (fun x6 => ?_)
          refine qb_aload_n hX 14 rfl rfl ?_
          refine qb_iload hX 15 rfl rfl ?_
          refine qb_iconst hX 16 1 rfl (by decide) ?_
          refine qb_iadd hX 17 rfl ?_
          refine qb_iload_n hX 18 rfl rfl ?_
          refine qb_iload_n hX 19 rfl rfl ?_
          refine qb_callI hX 20 rfl cv_Teller_104 (jm_Teller_isWord (qk_GI hX) this (s2.2 + 1) p1 p2 hthis ) (ci := 6) hthis ⟨rfl, rfl, rfl, by decide, by decide⟩ rfl (by exact Nat.le_of_ble_eq_true rfl) (fun x7 => ?_)
          refine qb_ifeq hX 21 45 rfl (by decide) ?_ ?_
          ·
            exact qb_exit (fun σ h => qj_wk (ρ' := [some (.ref (qx_ad X this)), some (.int p1), some (.int p2), some (.int x6), some (.int s2.2)]) (qw_s (qw_s (qw_s (qw_s (qw_s (qw_0)))))) h)
          ·
            refine qb_iload_n hX 22 rfl rfl ?_
            exact qb_iret hX 23 rfl hR (fun _ h => h)
      · intro s5
        refine qb_iinc hX 24 1 (fun x8 => [some (.ref (qx_ad X this)), some (.int p1), some (.int p2), some (.int s5), some (.int x8)]) rfl (by decide) (by decide) rfl (fun _ => rfl) (fun x8 => ?_)
        exact qb_exit (fun σ h => qj_goto hX 25 rfl (by decide) (qj_wk (ρ' := [some (.ref (qx_ad X this)), some (.int p1), some (.int p2), some (.int s5), some (.int x8)]) (qw_s (qw_s (qw_s (qw_s (qw_s (qw_0)))))) h))
  · intro s1
    refine qb_iconst hX 26 (-1) rfl (by decide) ?_
    exact qb_iret hX 27 rfl hR (fun _ h => h)
theorem jm_Teller_wordOf {l : Launch} {G : qm_G} (hG : qm_GI G) (this : Nat) (p1 : Int32) (p2 : Int32) (hthis : (qm_kd this).1 = 16) : qm_MI l G jy_Teller_wordOf prog_8_method_6_code 5 (some .int) 6 131 [.ref (G.1 this), .int p1, .int p2] (jf_Teller_wordOf this p1 p2) :=
  qm_metI (by decide +kernel) jd_Teller_wordOf (fun v hv => by simp only [List.mem_cons, List.not_mem_nil, or_false] at hv; rcases hv with rfl | rfl | rfl <;> rfl) (by exact Nat.le_of_ble_eq_true rfl) hG rfl (fun X hl hg hX r0 σ0 hR => by subst hl; subst hg; exact jb_Teller_wordOf hX hR this p1 p2 hthis)
def jl_Teller_split : List qm_I := [(0, .iconst 0, 1, 1), (1, .istore_n 1, 1, 2), (2, .iconst 0, 1, 3), (3, .istore_n 2, 1, 4), (4, .iload_n 2, 1, 5), (5, .aload_n 0, 1, 6), (6, .getfield 11, 3, 9), (9, .getfield 65, 3, 12), (12, .if_icmp .ge 145, 3, 15), (15, .iload_n 1, 1, 16), (16, .iconst 1, 1, 17), (17, .iadd, 1, 18), (18, .sipush 401, 3, 21), (21, .if_icmp .ge 136, 3, 24), (24, .aload_n 0, 1, 25), (25, .getfield 11, 3, 28), (28, .getfield 70, 3, 31), (31, .iload_n 2, 1, 32), (32, .invokestatic 73, 3, 35), (35, .istore_n 3, 1, 36), (36, .iinc 2 1, 3, 39), (39, .iload_n 3, 1, 40), (40, .bipush 32, 2, 42), (42, .if_icmp .eq 112, 3, 45), (45, .iload_n 3, 1, 46), (46, .invokestatic 77, 3, 49), (49, .istore 4, 2, 51), (51, .aload_n 0, 1, 52), (52, .getfield 26, 3, 55), (55, .iload_n 1, 1, 56), (56, .iload_n 2, 1, 57), (57, .iconst 1, 1, 58), (58, .isub, 1, 59), (59, .iastore, 1, 60), (60, .aload_n 0, 1, 61), (61, .getfield 22, 3, 64), (64, .iload_n 1, 1, 65), (65, .iload 4, 2, 67), (67, .iastore, 1, 68), (68, .iload 4, 2, 70), (70, .ifCond .eq 9, 3, 73), (73, .iload 4, 2, 75), (75, .iconst 1, 1, 76), (76, .if_icmp .ne 39, 3, 79), (79, .iload_n 2, 1, 80), (80, .aload_n 0, 1, 81), (81, .getfield 11, 3, 84), (84, .getfield 65, 3, 87), (87, .if_icmp .ge 28, 3, 90), (90, .aload_n 0, 1, 91), (91, .getfield 11, 3, 94), (94, .getfield 70, 3, 97), (97, .iload_n 2, 1, 98), (98, .invokestatic 73, 3, 101), (101, .invokestatic 77, 3, 104), (104, .iload 4, 2, 106), (106, .if_icmp .ne 9, 3, 109), (109, .iinc 2 1, 3, 112), (112, .goto (-44), 3, 115), (115, .aload_n 0, 1, 116), (116, .getfield 29, 3, 119), (119, .iload_n 1, 1, 120), (120, .iload 4, 2, 122), (122, .ifCond .ne 17, 3, 125), (125, .aload_n 0, 1, 126), (126, .aload_n 0, 1, 127), (127, .getfield 26, 3, 130), (130, .iload_n 1, 1, 131), (131, .iaload, 1, 132), (132, .iload_n 2, 1, 133), (133, .invokevirtual 81, 3, 136), (136, .goto 14, 3, 139), (139, .aload_n 0, 1, 140), (140, .aload_n 0, 1, 141), (141, .getfield 26, 3, 144), (144, .iload_n 1, 1, 145), (145, .iaload, 1, 146), (146, .iload_n 2, 1, 147), (147, .invokevirtual 85, 3, 150), (150, .iastore, 1, 151), (151, .iinc 1 1, 3, 154), (154, .goto (-150), 3, 157), (157, .aload_n 0, 1, 158), (158, .getfield 22, 3, 161), (161, .iload_n 1, 1, 162), (162, .iconst 4, 1, 163), (163, .iastore, 1, 164), (164, .aload_n 0, 1, 165), (165, .getfield 26, 3, 168), (168, .iload_n 1, 1, 169), (169, .aload_n 0, 1, 170), (170, .getfield 11, 3, 173), (173, .getfield 65, 3, 176), (176, .iastore, 1, 177), (177, .return_, 1, 178)]
theorem jd_Teller_split : qm_D prog_8_method_3_code jl_Teller_split := qm_D_of (by decide +kernel)
noncomputable def jf_Teller_split (this : Nat) : qm_M Unit :=
  mB (α := Int32) (
    mW (S := Int32 × Int32) (α := Int32) (fun s2 =>
      mB (mGt (qm_rf this 0) 1) fun x3 =>
      if x3 ≤ s2.2 then
        mP (Sum.inr s2.1)
      else
        if 401 ≤ (s2.1 + 1) then
          mP (Sum.inr s2.1)
        else
          mB (jf_Top_at (qm_rf (qm_rf this 0) 0) s2.2) fun x4 =>
          mB (mP (s2.2 + 1)) fun x5 =>
          mB (α := Int32 × Int32) (
            if x4 = 32 then
              mP (s2.1, x5)
            else
              mB (jf_Teller_signOf x4) fun x7 =>
              mB (mSt (qm_rf this 3) s2.1 (x5 - 1)) fun _ =>
              mB (mSt (qm_rf this 2) s2.1 x7) fun _ =>
              mB (α := Int32) (
                mW (S := Int32) (α := Int32) (fun s9 =>
                  mB (α := (Unit ⊕ (Int32 ⊕ Int32))) (
                    if x7 = 0 then
                      mP (Sum.inl ())
                    else
                      if ¬ x7 = 1 then
                        mP (Sum.inr (Sum.inr s9))
                      else
                        mP (Sum.inl ())) (Sum.elim (fun s10 =>
                    mB (mGt (qm_rf this 0) 1) fun x11 =>
                    if x11 ≤ s9 then
                      mP (Sum.inr s9)
                    else
                      mB (jf_Top_at (qm_rf (qm_rf this 0) 0) s9) fun x12 =>
                      mB (jf_Teller_signOf x12) fun x13 =>
                      if ¬ x13 = x7 then
                        mP (Sum.inr s9)
                      else
                        mB (mP (s9 + 1)) fun x14 =>
                        mP (Sum.inl x14)) mP)) x5) fun s8 =>
              mB (α := Int32) (
                if ¬ x7 = 0 then
                  mB (mLd (qm_rf this 3) s2.1) fun x16 =>
                  mB (jf_Teller_numberOf this x16 s8) fun x17 =>
                  mP x17
                else
                  mB (mLd (qm_rf this 3) s2.1) fun x18 =>
                  mB (jf_Teller_wordOf this x18 s8) fun x19 =>
                  mP x19) fun s15 =>
              mB (mSt (qm_rf this 4) s2.1 s15) fun _ =>
              mB (mP (s2.1 + 1)) fun x20 =>
              mP (x20, s8)) fun s6 =>
          mP (Sum.inl (s6.1, s6.2))) (0, 0)) fun s1 =>
  mB (mSt (qm_rf this 2) s1 4) fun _ =>
  mB (mGt (qm_rf this 0) 1) fun x21 =>
  mB (mSt (qm_rf this 3) s1 x21) fun _ =>
  mP ()
set_option maxRecDepth 20000 in
set_option maxHeartbeats 4000000 in
theorem jb_Teller_split {X : qm_X} (hX : qm_ok X qr_Teller prog_8_method_3_code 5 7 155 jl_Teller_split) {σ0 : qm_Mem} (hR : qm_RV X σ0) (this : Nat) (hthis : (qm_kd this).1 = 16) : qm_B X (jf_Teller_split this) 0 [some (.ref (qx_ad X this)), none, none, none, none] [] (fun _ σ1 => σ1 = σ0) := by
  unfold jf_Teller_split
  refine qb_iconst hX 0 0 rfl (by decide) ?_
  refine qb_istore_n hX 1 ([some (.ref (qx_ad X this)), some (.int 0), none, none, none]) rfl (by decide) rfl ?_
  refine qb_iconst hX 2 0 rfl (by decide) ?_
  refine qb_istore_n hX 3 ([some (.ref (qx_ad X this)), some (.int 0), some (.int 0), none, none]) rfl (by decide) rfl ?_
  refine qb_join 157 (fun s1 => [some (.ref (qx_ad X this)), some (.int s1), none, none, none]) (fun s1 => []) ?_ ?_
  ·
    refine qb_loopw ((0, 0)) (fun s2 => [some (.ref (qx_ad X this)), some (.int s2.1), some (.int s2.2), none, none]) (qw_s (qw_s (qw_s (qw_n (qw_n (qw_0)))))) (fun s2 => ?_)
    refine qb_iload_n hX 4 rfl rfl ?_
    refine qb_aload_n hX 5 rfl rfl ?_
    refine qb_getR hX 6 rfl fl_Teller_11 hthis rfl ?_
    refine qb_get hX 7 rfl fl_Teller_65 (kf_Teller_0 hthis) rfl (fun x3 => ?_)
    refine qb_icge hX 8 157 rfl (by decide) ?_ ?_
    ·
      exact qb_exit (fun σ h => qj_wk (ρ' := [some (.ref (qx_ad X this)), some (.int s2.1), none, none, none]) (qw_s (qw_s (qw_n (qw_n (qw_n (qw_0)))))) h)
    ·
      refine qb_iload_n hX 9 rfl rfl ?_
      refine qb_iconst hX 10 1 rfl (by decide) ?_
      refine qb_iadd hX 11 rfl ?_
      refine qb_sipush hX 12 401 rfl (by decide) ?_
      refine qb_icge hX 13 157 rfl (by decide) ?_ ?_
      ·
        exact qb_exit (fun σ h => qj_wk (ρ' := [some (.ref (qx_ad X this)), some (.int s2.1), none, none, none]) (qw_s (qw_s (qw_n (qw_n (qw_n (qw_0)))))) h)
      ·
        refine qb_aload_n hX 14 rfl rfl ?_
        refine qb_getR hX 15 rfl fl_Teller_11 hthis rfl ?_
        refine qb_getR hX 16 rfl fl_Teller_70 (kf_Teller_0 hthis) rfl ?_
        refine qb_iload_n hX 17 rfl rfl ?_
        refine qb_calNI hX 18 rfl cv_Teller_73 (jm_Top_at (qk_GI hX) (qm_rf (qm_rf this 0) 0) s2.2 (kf_Tape_0 (kf_Teller_0 hthis))) ⟨rfl, by decide, by decide⟩ rfl (by exact Nat.le_of_ble_eq_true rfl) (fun x4 => ?_)
        refine qb_istore_n hX 19 ([some (.ref (qx_ad X this)), some (.int s2.1), some (.int s2.2), some (.int x4), none]) rfl (by decide) rfl ?_
        refine qb_iinc hX 20 1 (fun x5 => [some (.ref (qx_ad X this)), some (.int s2.1), some (.int x5), some (.int x4), none]) rfl (by decide) (by decide) rfl (fun _ => rfl) (fun x5 => ?_)
        refine qb_iload_n hX 21 rfl rfl ?_
        refine qb_bipush hX 22 32 rfl (by decide) ?_
        refine qb_join 154 (fun s6 => [some (.ref (qx_ad X this)), some (.int s6.1), some (.int s6.2), none, none]) (fun s6 => []) ?_ ?_
        ·
          refine qb_iceq hX 23 154 rfl (by decide) ?_ ?_
          ·
            exact qb_exit (fun σ h => qj_wk (ρ' := [some (.ref (qx_ad X this)), some (.int s2.1), some (.int x5), none, none]) (qw_s (qw_s (qw_s (qw_n (qw_n (qw_0)))))) h)
          ·
            refine qb_iload_n hX 24 rfl rfl ?_
            refine qb_calSI hX 25 rfl cv_Teller_77 (jm_Teller_signOf (qk_GI hX) x4 ) ⟨rfl, by decide, by decide⟩ rfl (by exact Nat.le_of_ble_eq_true rfl) (fun x7 => ?_)
            refine qb_istore hX 26 ([some (.ref (qx_ad X this)), some (.int s2.1), some (.int x5), some (.int x4), some (.int x7)]) rfl (by decide) rfl ?_
            refine qb_aload_n hX 27 rfl rfl ?_
            refine qb_getR hX 28 rfl fl_Teller_26 hthis rfl ?_
            refine qb_iload_n hX 29 rfl rfl ?_
            refine qb_iload_n hX 30 rfl rfl ?_
            refine qb_iconst hX 31 1 rfl (by decide) ?_
            refine qb_isub hX 32 rfl ?_
            refine qb_iast hX 33 rfl (kf_Teller_3 hthis) ?_
            refine qb_aload_n hX 34 rfl rfl ?_
            refine qb_getR hX 35 rfl fl_Teller_22 hthis rfl ?_
            refine qb_iload_n hX 36 rfl rfl ?_
            refine qb_iload hX 37 rfl rfl ?_
            refine qb_iast hX 38 rfl (kf_Teller_2 hthis) ?_
            refine qb_join 115 (fun s8 => [some (.ref (qx_ad X this)), some (.int s2.1), some (.int s8), none, some (.int x7)]) (fun s8 => []) ?_ ?_
            ·
              refine qb_loopw (x5) (fun s9 => [some (.ref (qx_ad X this)), some (.int s2.1), some (.int s9), none, some (.int x7)]) (qw_s (qw_s (qw_s (qw_n (qw_s (qw_0)))))) (fun s9 => ?_)
              refine qb_iload hX 39 rfl rfl ?_
              refine qb_join2 79 (fun s10 => [some (.ref (qx_ad X this)), some (.int s2.1), some (.int s9), none, some (.int x7)]) (fun s10 => []) ?_ ?_
              ·
                refine qb_ifeq hX 40 79 rfl (by decide) ?_ ?_
                ·
                  exact qb_exit (fun σ h => qj_wk (ρ' := [some (.ref (qx_ad X this)), some (.int s2.1), some (.int s9), none, some (.int x7)]) (qw_s (qw_s (qw_s (qw_n (qw_s (qw_0)))))) h)
                ·
                  refine qb_iload hX 41 rfl rfl ?_
                  refine qb_iconst hX 42 1 rfl (by decide) ?_
                  refine qb_icne hX 43 115 rfl (by decide) ?_ ?_
                  ·
                    exact qb_exit (fun σ h => qj_wk (ρ' := [some (.ref (qx_ad X this)), some (.int s2.1), some (.int s9), none, some (.int x7)]) (qw_s (qw_s (qw_s (qw_n (qw_s (qw_0)))))) h)
                  ·
                    exact qb_exit (fun σ h => qj_wk (ρ' := [some (.ref (qx_ad X this)), some (.int s2.1), some (.int s9), none, some (.int x7)]) (qw_s (qw_s (qw_s (qw_n (qw_s (qw_0)))))) h)
              · intro s10
                refine qb_iload_n hX 44 rfl rfl ?_
                refine qb_aload_n hX 45 rfl rfl ?_
                refine qb_getR hX 46 rfl fl_Teller_11 hthis rfl ?_
                refine qb_get hX 47 rfl fl_Teller_65 (kf_Teller_0 hthis) rfl (fun x11 => ?_)
                refine qb_icge hX 48 115 rfl (by decide) ?_ ?_
                ·
                  exact qb_exit (fun σ h => qj_wk (ρ' := [some (.ref (qx_ad X this)), some (.int s2.1), some (.int s9), none, some (.int x7)]) (qw_s (qw_s (qw_s (qw_n (qw_s (qw_0)))))) h)
                ·
                  refine qb_aload_n hX 49 rfl rfl ?_
                  refine qb_getR hX 50 rfl fl_Teller_11 hthis rfl ?_
                  refine qb_getR hX 51 rfl fl_Teller_70 (kf_Teller_0 hthis) rfl ?_
                  refine qb_iload_n hX 52 rfl rfl ?_
                  refine qb_calNI hX 53 rfl cv_Teller_73 (jm_Top_at (qk_GI hX) (qm_rf (qm_rf this 0) 0) s9 (kf_Tape_0 (kf_Teller_0 hthis))) ⟨rfl, by decide, by decide⟩ rfl (by exact Nat.le_of_ble_eq_true rfl) (fun x12 => ?_)
                  refine qb_calSI hX 54 rfl cv_Teller_77 (jm_Teller_signOf (qk_GI hX) x12 ) ⟨rfl, by decide, by decide⟩ rfl (by exact Nat.le_of_ble_eq_true rfl) (fun x13 => ?_)
                  refine qb_iload hX 55 rfl rfl ?_
                  refine qb_icne hX 56 115 rfl (by decide) ?_ ?_
                  ·
                    exact qb_exit (fun σ h => qj_wk (ρ' := [some (.ref (qx_ad X this)), some (.int s2.1), some (.int s9), none, some (.int x7)]) (qw_s (qw_s (qw_s (qw_n (qw_s (qw_0)))))) h)
                  ·
                    refine qb_iinc hX 57 1 (fun x14 => [some (.ref (qx_ad X this)), some (.int s2.1), some (.int x14), none, some (.int x7)]) rfl (by decide) (by decide) rfl (fun _ => rfl) (fun x14 => ?_)
                    exact qb_exit (fun σ h => qj_goto hX 58 rfl (by decide) (qj_wk (ρ' := [some (.ref (qx_ad X this)), some (.int s2.1), some (.int x14), none, some (.int x7)]) (qw_s (qw_s (qw_s (qw_n (qw_s (qw_0)))))) h))
            · intro s8
              refine qb_aload_n hX 59 rfl rfl ?_
              refine qb_getR hX 60 rfl fl_Teller_29 hthis rfl ?_
              refine qb_iload_n hX 61 rfl rfl ?_
              refine qb_iload hX 62 rfl rfl ?_
              refine qb_join 150 (fun s15 => [some (.ref (qx_ad X this)), some (.int s2.1), some (.int s8), none, none]) (fun s15 => [.int s15, .int s2.1, .ref (qx_ad X (qm_rf this 4))]) ?_ ?_
              ·
                refine qb_ifne hX 63 139 rfl (by decide) ?_ ?_
                ·
                  refine qb_aload_n hX 72 rfl rfl ?_
                  refine qb_aload_n hX 73 rfl rfl ?_
                  refine qb_getR hX 74 rfl fl_Teller_26 hthis rfl ?_
                  refine qb_iload_n hX 75 rfl rfl ?_
                  refine qb_iald hX 76 rfl (kf_Teller_3 hthis) (fun x16 => ?_)
                  refine qb_iload_n hX 77 rfl rfl ?_
                  refine qb_callI hX 78 rfl cv_Teller_85 (jm_Teller_numberOf (qk_GI hX) this x16 s8 hthis ) (ci := 6) hthis ⟨rfl, rfl, rfl, by decide, by decide⟩ rfl (by exact Nat.le_of_ble_eq_true rfl) (fun x17 => ?_)
                  exact qb_exit (fun σ h => qj_wk (ρ' := [some (.ref (qx_ad X this)), some (.int s2.1), some (.int s8), none, none]) (qw_s (qw_s (qw_s (qw_n (qw_n (qw_0)))))) h)
                ·
                  refine qb_aload_n hX 64 rfl rfl ?_
                  refine qb_aload_n hX 65 rfl rfl ?_
                  refine qb_getR hX 66 rfl fl_Teller_26 hthis rfl ?_
                  refine qb_iload_n hX 67 rfl rfl ?_
                  refine qb_iald hX 68 rfl (kf_Teller_3 hthis) (fun x18 => ?_)
                  refine qb_iload_n hX 69 rfl rfl ?_
                  refine qb_callI hX 70 rfl cv_Teller_81 (jm_Teller_wordOf (qk_GI hX) this x18 s8 hthis ) (ci := 6) hthis ⟨rfl, rfl, rfl, by decide, by decide⟩ rfl (by exact Nat.le_of_ble_eq_true rfl) (fun x19 => ?_)
                  exact qb_exit (fun σ h => qj_goto hX 71 rfl (by decide) (qj_wk (ρ' := [some (.ref (qx_ad X this)), some (.int s2.1), some (.int s8), none, none]) (qw_s (qw_s (qw_s (qw_n (qw_n (qw_0)))))) h))
              · intro s15
                refine qb_iast hX 79 rfl (kf_Teller_4 hthis) ?_
                refine qb_iinc hX 80 1 (fun x20 => [some (.ref (qx_ad X this)), some (.int x20), some (.int s8), none, none]) rfl (by decide) (by decide) rfl (fun _ => rfl) (fun x20 => ?_)
                exact qb_exit (fun σ h => qj_wk (ρ' := [some (.ref (qx_ad X this)), some (.int x20), some (.int s8), none, none]) (qw_s (qw_s (qw_s (qw_n (qw_n (qw_0)))))) h)
        · intro s6
          exact qb_exit (fun σ h => qj_goto hX 81 rfl (by decide) (qj_wk (ρ' := [some (.ref (qx_ad X this)), some (.int s6.1), some (.int s6.2), none, none]) (qw_s (qw_s (qw_s (qw_n (qw_n (qw_0)))))) h))
  · intro s1
    refine qb_aload_n hX 82 rfl rfl ?_
    refine qb_getR hX 83 rfl fl_Teller_22 hthis rfl ?_
    refine qb_iload_n hX 84 rfl rfl ?_
    refine qb_iconst hX 85 4 rfl (by decide) ?_
    refine qb_iast hX 86 rfl (kf_Teller_2 hthis) ?_
    refine qb_aload_n hX 87 rfl rfl ?_
    refine qb_getR hX 88 rfl fl_Teller_26 hthis rfl ?_
    refine qb_iload_n hX 89 rfl rfl ?_
    refine qb_aload_n hX 90 rfl rfl ?_
    refine qb_getR hX 91 rfl fl_Teller_11 hthis rfl ?_
    refine qb_get hX 92 rfl fl_Teller_65 (kf_Teller_0 hthis) rfl (fun x21 => ?_)
    refine qb_iast hX 93 rfl (kf_Teller_3 hthis) ?_
    exact qb_vret hX 94 rfl hR (fun _ h => h)
theorem jm_Teller_split {l : Launch} {G : qm_G} (hG : qm_GI G) (this : Nat) (hthis : (qm_kd this).1 = 16) : qm_MV l G jy_Teller_split prog_8_method_3_code 5 7 155 [.ref (G.1 this)] (jf_Teller_split this) :=
  qm_metV (by decide +kernel) jd_Teller_split (fun v hv => by simp only [List.mem_cons, List.not_mem_nil, or_false] at hv; rcases hv with rfl <;> rfl) (by exact Nat.le_of_ble_eq_true rfl) hG (fun X hl hg hX σ0 hR => by subst hl; subst hg; exact jb_Teller_split hX hR this hthis)
def jl_Teller_read : List qm_I := [(0, .aload_n 0, 1, 1), (1, .getfield 18, 3, 4), (4, .invokevirtual 32, 3, 7), (7, .aload_n 0, 1, 8), (8, .invokevirtual 35, 3, 11), (11, .aload_n 0, 1, 12), (12, .iconst 0, 1, 13), (13, .putfield 38, 3, 16), (16, .aload_n 0, 1, 17), (17, .iconst (-1), 1, 18), (18, .putfield 42, 3, 21), (21, .aload_n 0, 1, 22), (22, .iconst 0, 1, 23), (23, .putfield 45, 3, 26), (26, .aload_n 0, 1, 27), (27, .invokevirtual 48, 3, 30), (30, .iconst 4, 1, 31), (31, .if_icmp .eq 7, 3, 34), (34, .iconst 1, 1, 35), (35, .goto 4, 3, 38), (38, .iconst 0, 1, 39), (39, .istore_n 1, 1, 40), (40, .iconst 0, 1, 41), (41, .istore_n 2, 1, 42), (42, .iload_n 1, 1, 43), (43, .ifCond .eq 79, 3, 46), (46, .iload_n 2, 1, 47), (47, .sipush 401, 3, 50), (50, .if_icmp .ge 72, 3, 53), (53, .aload_n 0, 1, 54), (54, .invokevirtual 52, 3, 57), (57, .aload_n 0, 1, 58), (58, .getfield 42, 3, 61), (61, .iconst (-1), 1, 62), (62, .if_icmp .ne 15, 3, 65), (65, .aload_n 0, 1, 66), (66, .invokevirtual 48, 3, 69), (69, .iconst 4, 1, 70), (70, .if_icmp .eq 7, 3, 73), (73, .iconst 1, 1, 74), (74, .goto 4, 3, 77), (77, .iconst 0, 1, 78), (78, .istore_n 1, 1, 79), (79, .iload_n 1, 1, 80), (80, .ifCond .eq 22, 3, 83), (83, .aload_n 0, 1, 84), (84, .invokevirtual 48, 3, 87), (87, .iconst 2, 1, 88), (88, .if_icmp .eq 14, 3, 91), (91, .aload_n 0, 1, 92), (92, .aload_n 0, 1, 93), (93, .invokevirtual 55, 3, 96), (96, .iconst 1, 1, 97), (97, .invokevirtual 58, 3, 100), (100, .iconst 0, 1, 101), (101, .istore_n 1, 1, 102), (102, .iload_n 1, 1, 103), (103, .ifCond .eq 13, 3, 106), (106, .aload_n 0, 1, 107), (107, .dup, 1, 108), (108, .getfield 38, 3, 111), (111, .iconst 1, 1, 112), (112, .iadd, 1, 113), (113, .putfield 38, 3, 116), (116, .iinc 2 1, 3, 119), (119, .goto (-77), 3, 122), (122, .aload_n 0, 1, 123), (123, .getfield 42, 3, 126), (126, .iconst (-1), 1, 127), (127, .if_icmp .ne 13, 3, 130), (130, .aload_n 0, 1, 131), (131, .getfield 18, 3, 134), (134, .invokevirtual 62, 3, 137), (137, .goto 10, 3, 140), (140, .bipush (-2), 2, 142), (142, .aload_n 0, 1, 143), (143, .getfield 42, 3, 146), (146, .isub, 1, 147), (147, .ireturn, 1, 148)]
theorem jd_Teller_read : qm_D prog_8_method_2_code jl_Teller_read := qm_D_of (by decide +kernel)
noncomputable def jf_Teller_read (this : Nat) : qm_M Int32 :=
  mB (jf_Run_clear (qm_rf this 1)) fun _ =>
  mB (jf_Teller_split this) fun _ =>
  mB (mPt this 5 0) fun _ =>
  mB (mPt this 6 (-1)) fun _ =>
  mB (mPt this 7 0) fun _ =>
  mB (jf_Teller_sign this) fun x1 =>
  mB (α := Int32) (
    if x1 = 4 then
      mP 0
    else
      mP 1) fun s2 =>
  mB (α := Unit) (
    mW (S := Int32 × Int32) (α := Unit) (fun s4 =>
      if s4.1 = 0 then
        mP (Sum.inr ())
      else
        if 401 ≤ s4.2 then
          mP (Sum.inr ())
        else
          mB (jf_Teller_readPart this) fun _ =>
          mB (mGt this 6) fun x5 =>
          mB (α := Int32) (
            mB (α := (Unit ⊕ Int32)) (
              if ¬ x5 = (-1) then
                mP (Sum.inl ())
              else
                mB (jf_Teller_sign this) fun x8 =>
                if x8 = 4 then
                  mP (Sum.inl ())
                else
                  mP (Sum.inr 1)) (Sum.elim (fun s7 =>
              mP 0) mP)) fun s6 =>
          mB (α := Int32) (
            if s6 = 0 then
              mP s6
            else
              mB (jf_Teller_sign this) fun x10 =>
              if x10 = 2 then
                mP s6
              else
                mB (jf_Teller_place this) fun x11 =>
                mB (jf_Teller_wrong this x11 1) fun _ =>
                mP 0) fun s9 =>
          mB (α := Unit) (
            if s9 = 0 then
              mP ()
            else
              mB (mGt this 5) fun x13 =>
              mB (mPt this 5 (x13 + 1)) fun _ =>
              mP ()) fun s12 =>
          mB (mP (s4.2 + 1)) fun x14 =>
          mP (Sum.inl (s9, x14))) (s2, 0)) fun s3 =>
  mB (mGt this 6) fun x15 =>
  if ¬ x15 = (-1) then
    mB (mGt this 6) fun x16 =>
    mP ((-2) - x16)
  else
    mB (jf_Run_allPieces (qm_rf this 1)) fun x17 =>
    mP x17
set_option maxRecDepth 20000 in
set_option maxHeartbeats 4000000 in
theorem jb_Teller_read {X : qm_X} (hX : qm_ok X qr_Teller prog_8_method_2_code 3 8 179 jl_Teller_read) {r0 : Int32} {σ0 : qm_Mem} (hR : qm_RI X r0 σ0 .int) (this : Nat) (hthis : (qm_kd this).1 = 16) : qm_B X (jf_Teller_read this) 0 [some (.ref (qx_ad X this)), none, none] [] (fun r σ1 => r = r0 ∧ σ1 = σ0) := by
  unfold jf_Teller_read
  refine qb_aload_n hX 0 rfl rfl ?_
  refine qb_getR hX 1 rfl fl_Teller_18 hthis rfl ?_
  refine qb_callV hX 2 rfl cv_Teller_32 (jm_Run_clear (qk_GI hX) (qm_rf this 1)  (kf_Teller_1 hthis) ) (ci := 4) (kf_Teller_1 hthis) ⟨rfl, rfl, rfl, by decide, by decide⟩ rfl (by exact Nat.le_of_ble_eq_true rfl) ?_
  refine qb_aload_n hX 3 rfl rfl ?_
  refine qb_callV hX 4 rfl cv_Teller_35 (jm_Teller_split (qk_GI hX) this  hthis ) (ci := 6) hthis ⟨rfl, rfl, rfl, by decide, by decide⟩ rfl (by exact Nat.le_of_ble_eq_true rfl) ?_
  refine qb_aload_n hX 5 rfl rfl ?_
  refine qb_iconst hX 6 0 rfl (by decide) ?_
  refine qb_put hX 7 rfl fp_Teller_38 hthis ?_
  refine qb_aload_n hX 8 rfl rfl ?_
  refine qb_iconst hX 9 (-1) rfl (by decide) ?_
  refine qb_put hX 10 rfl fp_Teller_42 hthis ?_
  refine qb_aload_n hX 11 rfl rfl ?_
  refine qb_iconst hX 12 0 rfl (by decide) ?_
  refine qb_put hX 13 rfl fp_Teller_45 hthis ?_
  refine qb_aload_n hX 14 rfl rfl ?_
  refine qb_callI hX 15 rfl cv_Teller_48 (jm_Teller_sign (qk_GI hX) this  hthis ) (ci := 6) hthis ⟨rfl, rfl, rfl, by decide, by decide⟩ rfl (by exact Nat.le_of_ble_eq_true rfl) (fun x1 => ?_)
  refine qb_iconst hX 16 4 rfl (by decide) ?_
  refine qb_join 39 (fun s2 => [some (.ref (qx_ad X this)), none, none]) (fun s2 => [.int s2]) ?_ ?_
  ·
    refine qb_iceq hX 17 38 rfl (by decide) ?_ ?_
    ·
      refine qb_iconst hX 20 0 rfl (by decide) ?_
      exact qb_exit (fun σ h => qj_wk (ρ' := [some (.ref (qx_ad X this)), none, none]) (qw_s (qw_n (qw_n (qw_0)))) h)
    ·
      refine qb_iconst hX 18 1 rfl (by decide) ?_
      exact qb_exit (fun σ h => qj_goto hX 19 rfl (by decide) (qj_wk (ρ' := [some (.ref (qx_ad X this)), none, none]) (qw_s (qw_n (qw_n (qw_0)))) h))
  · intro s2
    refine qb_istore_n hX 21 ([some (.ref (qx_ad X this)), some (.int s2), none]) rfl (by decide) rfl ?_
    refine qb_iconst hX 22 0 rfl (by decide) ?_
    refine qb_istore_n hX 23 ([some (.ref (qx_ad X this)), some (.int s2), some (.int 0)]) rfl (by decide) rfl ?_
    refine qb_join 122 (fun s3 => [some (.ref (qx_ad X this)), none, none]) (fun s3 => []) ?_ ?_
    ·
      refine qb_loopw ((s2, 0)) (fun s4 => [some (.ref (qx_ad X this)), some (.int s4.1), some (.int s4.2)]) (qw_s (qw_s (qw_s (qw_0)))) (fun s4 => ?_)
      refine qb_iload_n hX 24 rfl rfl ?_
      refine qb_ifeq hX 25 122 rfl (by decide) ?_ ?_
      ·
        exact qb_exit (fun σ h => qj_wk (ρ' := [some (.ref (qx_ad X this)), none, none]) (qw_s (qw_n (qw_n (qw_0)))) h)
      ·
        refine qb_iload_n hX 26 rfl rfl ?_
        refine qb_sipush hX 27 401 rfl (by decide) ?_
        refine qb_icge hX 28 122 rfl (by decide) ?_ ?_
        ·
          exact qb_exit (fun σ h => qj_wk (ρ' := [some (.ref (qx_ad X this)), none, none]) (qw_s (qw_n (qw_n (qw_0)))) h)
        ·
          refine qb_aload_n hX 29 rfl rfl ?_
          refine qb_callV hX 30 rfl cv_Teller_52 (jm_Teller_readPart (qk_GI hX) this  hthis ) (ci := 6) hthis ⟨rfl, rfl, rfl, by decide, by decide⟩ rfl (by exact Nat.le_of_ble_eq_true rfl) ?_
          refine qb_aload_n hX 31 rfl rfl ?_
          refine qb_get hX 32 rfl fl_Teller_42 hthis rfl (fun x5 => ?_)
          refine qb_iconst hX 33 (-1) rfl (by decide) ?_
          refine qb_join 78 (fun s6 => [some (.ref (qx_ad X this)), none, some (.int s4.2)]) (fun s6 => [.int s6]) ?_ ?_
          ·
            refine qb_join2 77 (fun s7 => [some (.ref (qx_ad X this)), none, some (.int s4.2)]) (fun s7 => []) ?_ ?_
            ·
              refine qb_icne hX 34 77 rfl (by decide) ?_ ?_
              ·
                exact qb_exit (fun σ h => qj_wk (ρ' := [some (.ref (qx_ad X this)), none, some (.int s4.2)]) (qw_s (qw_n (qw_s (qw_0)))) h)
              ·
                refine qb_aload_n hX 35 rfl rfl ?_
                refine qb_callI hX 36 rfl cv_Teller_48 (jm_Teller_sign (qk_GI hX) this  hthis ) (ci := 6) hthis ⟨rfl, rfl, rfl, by decide, by decide⟩ rfl (by exact Nat.le_of_ble_eq_true rfl) (fun x8 => ?_)
                refine qb_iconst hX 37 4 rfl (by decide) ?_
                refine qb_iceq hX 38 77 rfl (by decide) ?_ ?_
                ·
                  exact qb_exit (fun σ h => qj_wk (ρ' := [some (.ref (qx_ad X this)), none, some (.int s4.2)]) (qw_s (qw_n (qw_s (qw_0)))) h)
                ·
                  refine qb_iconst hX 39 1 rfl (by decide) ?_
                  exact qb_exit (fun σ h => qj_goto hX 40 rfl (by decide) (qj_wk (ρ' := [some (.ref (qx_ad X this)), none, some (.int s4.2)]) (qw_s (qw_n (qw_s (qw_0)))) h))
            · intro s7
              refine qb_iconst hX 41 0 rfl (by decide) ?_
              exact qb_exit (fun σ h => qj_wk (ρ' := [some (.ref (qx_ad X this)), none, some (.int s4.2)]) (qw_s (qw_n (qw_s (qw_0)))) h)
          · intro s6
            refine qb_istore_n hX 42 ([some (.ref (qx_ad X this)), some (.int s6), some (.int s4.2)]) rfl (by decide) rfl ?_
            refine qb_iload_n hX 43 rfl rfl ?_
            refine qb_join 102 (fun s9 => [some (.ref (qx_ad X this)), some (.int s9), some (.int s4.2)]) (fun s9 => []) ?_ ?_
            ·
              refine qb_ifeq hX 44 102 rfl (by decide) ?_ ?_
              ·
                exact qb_exit (fun σ h => qj_wk (ρ' := [some (.ref (qx_ad X this)), some (.int s6), some (.int s4.2)]) (qw_s (qw_s (qw_s (qw_0)))) h)
              ·
                refine qb_aload_n hX 45 rfl rfl ?_
                refine qb_callI hX 46 rfl cv_Teller_48 (jm_Teller_sign (qk_GI hX) this  hthis ) (ci := 6) hthis ⟨rfl, rfl, rfl, by decide, by decide⟩ rfl (by exact Nat.le_of_ble_eq_true rfl) (fun x10 => ?_)
                refine qb_iconst hX 47 2 rfl (by decide) ?_
                refine qb_iceq hX 48 102 rfl (by decide) ?_ ?_
                ·
                  exact qb_exit (fun σ h => qj_wk (ρ' := [some (.ref (qx_ad X this)), some (.int s6), some (.int s4.2)]) (qw_s (qw_s (qw_s (qw_0)))) h)
                ·
                  refine qb_aload_n hX 49 rfl rfl ?_
                  refine qb_aload_n hX 50 rfl rfl ?_
                  refine qb_callI hX 51 rfl cv_Teller_55 (jm_Teller_place (qk_GI hX) this  hthis ) (ci := 6) hthis ⟨rfl, rfl, rfl, by decide, by decide⟩ rfl (by exact Nat.le_of_ble_eq_true rfl) (fun x11 => ?_)
                  refine qb_iconst hX 52 1 rfl (by decide) ?_
                  refine qb_callV hX 53 rfl cv_Teller_58 (jm_Teller_wrong (qk_GI hX) this x11 1 hthis ) (ci := 6) hthis ⟨rfl, rfl, rfl, by decide, by decide⟩ rfl (by exact Nat.le_of_ble_eq_true rfl) ?_
                  refine qb_iconst hX 54 0 rfl (by decide) ?_
                  refine qb_istore_n hX 55 ([some (.ref (qx_ad X this)), some (.int 0), some (.int s4.2)]) rfl (by decide) rfl ?_
                  exact qb_exit (fun σ h => qj_wk (ρ' := [some (.ref (qx_ad X this)), some (.int 0), some (.int s4.2)]) (qw_s (qw_s (qw_s (qw_0)))) h)
            · intro s9
              refine qb_iload_n hX 56 rfl rfl ?_
              refine qb_join 116 (fun s12 => [some (.ref (qx_ad X this)), some (.int s9), some (.int s4.2)]) (fun s12 => []) ?_ ?_
              ·
                refine qb_ifeq hX 57 116 rfl (by decide) ?_ ?_
                ·
                  exact qb_exit (fun σ h => qj_wk (ρ' := [some (.ref (qx_ad X this)), some (.int s9), some (.int s4.2)]) (qw_s (qw_s (qw_s (qw_0)))) h)
                ·
                  refine qb_aload_n hX 58 rfl rfl ?_
                  refine qb_dup hX 59 rfl rfl ?_
                  refine qb_get hX 60 rfl fl_Teller_38 hthis rfl (fun x13 => ?_)
                  refine qb_iconst hX 61 1 rfl (by decide) ?_
                  refine qb_iadd hX 62 rfl ?_
                  refine qb_put hX 63 rfl fp_Teller_38 hthis ?_
                  exact qb_exit (fun σ h => qj_wk (ρ' := [some (.ref (qx_ad X this)), some (.int s9), some (.int s4.2)]) (qw_s (qw_s (qw_s (qw_0)))) h)
              · intro s12
                refine qb_iinc hX 64 1 (fun x14 => [some (.ref (qx_ad X this)), some (.int s9), some (.int x14)]) rfl (by decide) (by decide) rfl (fun _ => rfl) (fun x14 => ?_)
                exact qb_exit (fun σ h => qj_goto hX 65 rfl (by decide) (qj_wk (ρ' := [some (.ref (qx_ad X this)), some (.int s9), some (.int x14)]) (qw_s (qw_s (qw_s (qw_0)))) h))
    · intro s3
      refine qb_aload_n hX 66 rfl rfl ?_
      refine qb_get hX 67 rfl fl_Teller_42 hthis rfl (fun x15 => ?_)
      refine qb_iconst hX 68 (-1) rfl (by decide) ?_
      refine qb_icne hX 69 140 rfl (by decide) ?_ ?_
      ·
        refine qb_bipush hX 74 (-2) rfl (by decide) ?_
        refine qb_aload_n hX 75 rfl rfl ?_
        refine qb_get hX 76 rfl fl_Teller_42 hthis rfl (fun x16 => ?_)
        refine qb_isub hX 77 rfl ?_
        exact qb_iret hX 78 rfl hR (fun _ h => h)
      ·
        refine qb_aload_n hX 70 rfl rfl ?_
        refine qb_getR hX 71 rfl fl_Teller_18 hthis rfl ?_
        refine qb_callI hX 72 rfl cv_Teller_62 (jm_Run_allPieces (qk_GI hX) (qm_rf this 1)  (kf_Teller_1 hthis) ) (ci := 4) (kf_Teller_1 hthis) ⟨rfl, rfl, rfl, by decide, by decide⟩ rfl (by exact Nat.le_of_ble_eq_true rfl) (fun x17 => ?_)
        refine qb_goto hX 73 (tgt := 147) rfl (by decide) ?_
        exact qb_iret hX 78 rfl hR (fun _ h => h)
theorem jm_Teller_read {l : Launch} {G : qm_G} (hG : qm_GI G) (this : Nat) (hthis : (qm_kd this).1 = 16) : qm_MI l G jy_Teller_read prog_8_method_2_code 3 (some .int) 8 179 [.ref (G.1 this)] (jf_Teller_read this) :=
  qm_metI (by decide +kernel) jd_Teller_read (fun v hv => by simp only [List.mem_cons, List.not_mem_nil, or_false] at hv; rcases hv with rfl <;> rfl) (by exact Nat.le_of_ble_eq_true rfl) hG rfl (fun X hl hg hX r0 σ0 hR => by subst hl; subst hg; exact jb_Teller_read hX hR this hthis)
def jl_Top_tell : List qm_I := [(0, .aload_n 0, 1, 1), (1, .getfield 28, 3, 4), (4, .invokevirtual 72, 3, 7), (7, .istore_n 1, 1, 8), (8, .aload_n 0, 1, 9), (9, .getfield 19, 3, 12), (12, .iconst 0, 1, 13), (13, .putfield 64, 3, 16), (16, .iload_n 1, 1, 17), (17, .ifCond .lt 29, 3, 20), (20, .aload_n 0, 1, 21), (21, .getfield 12, 3, 24), (24, .aload_n 0, 1, 25), (25, .getfield 28, 3, 28), (28, .getfield 76, 3, 31), (31, .invokevirtual 79, 3, 34), (34, .aload_n 0, 1, 35), (35, .getfield 35, 3, 38), (38, .iconst 0, 1, 39), (39, .putfield 83, 3, 42), (42, .aload_n 0, 1, 43), (43, .invokevirtual 86, 3, 46), (46, .iload_n 1, 1, 47), (47, .ireturn, 1, 48)]
theorem jd_Top_tell : qm_D prog_1_method_4_code jl_Top_tell := qm_D_of (by decide +kernel)
noncomputable def jf_Top_tell (this : Nat) : qm_M Int32 :=
  mB (jf_Teller_read (qm_rf this 2)) fun x1 =>
  mB (mPt (qm_rf this 1) 1 0) fun _ =>
  if x1 < 0 then
    mP x1
  else
    mB (jf_Run_copyFrom (qm_rf this 0) (qm_rf (qm_rf this 2) 1)) fun _ =>
    mB (mPt (qm_rf this 3) 2 0) fun _ =>
    mB (jf_Top_changed this) fun _ =>
    mP x1
set_option maxRecDepth 20000 in
set_option maxHeartbeats 4000000 in
theorem jb_Top_tell {X : qm_X} (hX : qm_ok X qr_Top prog_1_method_4_code 2 9 201 jl_Top_tell) {r0 : Int32} {σ0 : qm_Mem} (hR : qm_RI X r0 σ0 .int) (this : Nat) (hthis : (qm_kd this).1 = 18) : qm_B X (jf_Top_tell this) 0 [some (.ref (qx_ad X this)), none] [] (fun r σ1 => r = r0 ∧ σ1 = σ0) := by
  unfold jf_Top_tell
  refine qb_aload_n hX 0 rfl rfl ?_
  refine qb_getR hX 1 rfl fl_Top_28 hthis rfl ?_
  refine qb_callI hX 2 rfl cv_Top_72 (jm_Teller_read (qk_GI hX) (qm_rf this 2)  (kf_Top_2 hthis) ) (ci := 6) (kf_Top_2 hthis) ⟨rfl, rfl, rfl, by decide, by decide⟩ rfl (by exact Nat.le_of_ble_eq_true rfl) (fun x1 => ?_)
  refine qb_istore_n hX 3 ([some (.ref (qx_ad X this)), some (.int x1)]) rfl (by decide) rfl ?_
  refine qb_aload_n hX 4 rfl rfl ?_
  refine qb_getR hX 5 rfl fl_Top_19 hthis rfl ?_
  refine qb_iconst hX 6 0 rfl (by decide) ?_
  refine qb_put hX 7 rfl fp_Top_64 (kf_Top_1 hthis) ?_
  refine qb_iload_n hX 8 rfl rfl ?_
  refine qb_iflt hX 9 46 rfl (by decide) ?_ ?_
  ·
    refine qb_iload_n hX 22 rfl rfl ?_
    exact qb_iret hX 23 rfl hR (fun _ h => h)
  ·
    refine qb_aload_n hX 10 rfl rfl ?_
    refine qb_getR hX 11 rfl fl_Top_12 hthis rfl ?_
    refine qb_aload_n hX 12 rfl rfl ?_
    refine qb_getR hX 13 rfl fl_Top_28 hthis rfl ?_
    refine qb_getR hX 14 rfl fl_Top_76 (kf_Top_2 hthis) rfl ?_
    refine qb_callV hX 15 rfl cv_Top_79 (jm_Run_copyFrom (qk_GI hX) (qm_rf this 0) (qm_rf (qm_rf this 2) 1) (kf_Top_0 hthis) (kf_Teller_1 (kf_Top_2 hthis))) (ci := 4) (kf_Top_0 hthis) ⟨rfl, rfl, rfl, by decide, by decide⟩ rfl (by exact Nat.le_of_ble_eq_true rfl) ?_
    refine qb_aload_n hX 16 rfl rfl ?_
    refine qb_getR hX 17 rfl fl_Top_35 hthis rfl ?_
    refine qb_iconst hX 18 0 rfl (by decide) ?_
    refine qb_put hX 19 rfl fp_Top_83 (kf_Top_3 hthis) ?_
    refine qb_aload_n hX 20 rfl rfl ?_
    refine qb_callV hX 21 rfl cv_Top_86 (jm_Top_changed (qk_GI hX) this  hthis ) (ci := 8) hthis ⟨rfl, rfl, rfl, by decide, by decide⟩ rfl (by exact Nat.le_of_ble_eq_true rfl) ?_
    refine qb_iload_n hX 22 rfl rfl ?_
    exact qb_iret hX 23 rfl hR (fun _ h => h)
theorem jm_Top_tell {l : Launch} {G : qm_G} (hG : qm_GI G) (this : Nat) (hthis : (qm_kd this).1 = 18) : qm_MI l G jy_Top_tell prog_1_method_4_code 2 (some .int) 9 201 [.ref (G.1 this)] (jf_Top_tell this) :=
  qm_metI (by decide +kernel) jd_Top_tell (fun v hv => by simp only [List.mem_cons, List.not_mem_nil, or_false] at hv; rcases hv with rfl <;> rfl) (by exact Nat.le_of_ble_eq_true rfl) hG rfl (fun X hl hg hX r0 σ0 hR => by subst hl; subst hg; exact jb_Top_tell hX hR this hthis)
end
