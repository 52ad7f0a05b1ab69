theorem qm_args_in : ∀ (vs : List Value) (k i : Nat) (v : Value), (∀ v ∈ vs, v.category = 1) → vs[i]? = some v → (k + i, v) ∈ lv_args k vs
  | [], _, _, _, _, h => by simp at h
  | w :: vs, k, 0, v, hc, h => by
    simp at h
    subst h
    unfold lv_args
    exact List.mem_cons_self
  | w :: vs, k, i + 1, v, hc, h => by
    simp at h
    have h1 := qm_args_in vs (k + 1) i v (fun v hv => hc v (List.mem_cons_of_mem _ hv)) h
    unfold lv_args
    have hw := hc w List.mem_cons_self
    rw [if_neg (by omega), show k + (i + 1) = k + 1 + i by omega]
    exact List.mem_cons_of_mem _ h1
theorem qm_sl_len : ∀ (vs : List Value), (∀ v ∈ vs, v.category = 1) → (lg_sl vs).length = vs.length
  | [], _ => rfl
  | w :: vs, hc => by
    have hw := hc w List.mem_cons_self
    have ih := qm_sl_len vs (fun v hv => hc v (List.mem_cons_of_mem _ hv))
    unfold lg_sl at ih ⊢
    rw [List.flatMap_cons, List.length_append, ih, if_neg (by omega), List.length_cons, List.length_cons, List.length_nil]
    omega
theorem qm_entry (vs : List Value) (n : Nat) (hc : ∀ v ∈ vs, v.category = 1) (hn : vs.length ≤ n) : qm_L ((lg_sl vs ++ List.replicate (n - (lg_sl vs).length) Slot.unset).toArray) n (vs.map some ++ List.replicate (n - vs.length) none) := by
  obtain ⟨h1, h2, h3⟩ := lv_entry vs (n := n) (by rw [qm_sl_len vs hc]; exact hn)
  refine ⟨h1, h2, fun i v hv => ?_⟩
  have hi : vs[i]? = some v := by
    rcases Nat.lt_or_ge i vs.length with q | q
    · rw [List.getElem?_append_left (by simpa using q), List.getElem?_map] at hv
      cases hz : vs[i]? with
      | none => rw [hz] at hv; cases hv
      | some w => rw [hz] at hv; cases hv; rfl
    · rw [List.getElem?_append_right (by simpa using q), List.getElem?_replicate] at hv
      split at hv <;> cases hv
  have hm := qm_args_in vs 0 i v hc hi
  rw [Nat.zero_add] at hm
  exact ⟨h3 _ hm, hc v (List.mem_of_getElem? hi)⟩
def qm_RI (X : qm_X) (r0 : Int32) (σ0 : qm_Mem) (ty : FieldType) : Prop :=
  qx_Q X = MQ (qx_below X) (qm_Qi (qx_G X) r0 σ0 (qx_s X).heap.size) (qx_args X) (qx_s X) (qx_cells X) (qx_slots X) (qm_A (qx_G X) (qx_s X).heap.size) ∧ (qx_meth X).sig.returnType = some ty ∧ qx_A X = qm_A (qx_G X) (qx_s X).heap.size
def qm_RV (X : qm_X) (σ0 : qm_Mem) : Prop :=
  qx_Q X = MQ (qx_below X) (qm_Qv (qx_G X) σ0 (qx_s X).heap.size) (qx_args X) (qx_s X) (qx_cells X) (qx_slots X) (qm_A (qx_G X) (qx_s X).heap.size) ∧ (qx_meth X).sig.returnType = none ∧ qx_A X = qm_A (qx_G X) (qx_s X).heap.size
def qm_RR (X : qm_X) (r0 : Nat) (σ0 : qm_Mem) (ty : FieldType) : Prop :=
  qx_Q X = MQ (qx_below X) (qm_Qr (qx_G X) r0 σ0 (qx_s X).heap.size) (qx_args X) (qx_s X) (qx_cells X) (qx_slots X) (qm_A (qx_G X) (qx_s X).heap.size) ∧ (qx_meth X).sig.returnType = some ty ∧ ((∃ n, ty = .object n) ∨ ∃ t, ty = .array t) ∧ qx_A X = qm_A (qx_G X) (qx_s X).heap.size
section QR
variable {X : qm_X} {own : String} {cc : ByteArray} {nL f lo : Nat} {il : List qm_I}
variable {α : Type} {pc pc' : Nat} {ρ : List (Option Value)} {st : List Value} {κ : α → qm_Mem → Prop}
theorem qj_ret (hX : qm_ok X own cc nL f lo il) {k : Nat} {x r0 : Int32} {σ σ0 : qm_Mem} {ty : FieldType} (hd : qm_nth il k = some (pc, .ireturn, 1, pc')) (hR : qm_RI X r0 σ0 ty) (hn : narrow ty (.int x) = .int x) (h : x = r0 ∧ σ = σ0) : qm_J X pc ρ [.int x] σ := by
  intro H locs ls hH hS hL
  obtain ⟨e1, e2⟩ := h
  subst e1
  subst e2
  obtain ⟨hQ, hr, hA⟩ := hR
  show W _ _ _ _ _ _ _ _ _ _ _ _ _ _ (qx_Q X) _
  rw [hQ]
  rw [hA] at hS
  exact W.zret (qk_ex hX) (qk_by hX) hr hn (fun t ht hW => ⟨⟨x, (), rfl, rfl, by show qm_H _ _ t.heap; rw [ht]; exact hH⟩, hS.F ht⟩) hS.2.2 (qk_d hX hd) hX.2.2.1
theorem qb_iret (hX : qm_ok X own cc nL f lo il) (k : Nat) {x r0 : Int32} {σ0 : qm_Mem} {a : α} (hd : qm_nth il k = some (pc, .ireturn, 1, pc')) (hR : qm_RI X r0 σ0 .int) (h : ∀ σ, κ a σ → x = r0 ∧ σ = σ0) : qm_B X (mP a) pc ρ [.int x] κ := by
  intro σ b σ' h1 h2
  cases h1
  exact qj_ret hX hd hR rfl (h _ h2)
theorem qb_zret (hX : qm_ok X own cc nL f lo il) (k : Nat) {x r0 : Int32} {σ0 : qm_Mem} {a : Int32 → α} (hd : qm_nth il k = some (pc, .ireturn, 1, pc')) (hR : qm_RI X r0 σ0 .boolean) (h : ∀ σ, κ (a x) σ → x = r0 ∧ σ = σ0) : qm_B X (mB (mZ x) (fun y => mP (a y))) pc ρ [.int x] κ := by
  intro σ b σ' h1 h2
  obtain ⟨y, σ1, e1, e2⟩ := mB_some h1
  unfold mZ at e1
  split at e1
  · rename_i hz
    cases e1
    cases e2
    refine qj_ret hX hd hR ?_ (h _ h2)
    rcases hz with q | q
    · rw [q]; rfl
    · rw [q]; rfl
  · cases e1
theorem qb_vret (hX : qm_ok X own cc nL f lo il) (k : Nat) {σ0 : qm_Mem} {a : α} (hd : qm_nth il k = some (pc, .return_, 1, pc')) (hR : qm_RV X σ0) (h : ∀ σ, κ a σ → σ = σ0) : qm_B X (mP a) pc ρ [] κ := by
  intro σ b σ' h1 h2
  cases h1
  have e2 := h _ h2
  intro H locs ls hH hS hL
  subst e2
  obtain ⟨hQ, hr, hA⟩ := hR
  show W _ _ _ _ _ _ _ _ _ _ _ _ _ _ (qx_Q X) _
  rw [hQ]
  rw [hA] at hS
  exact W.vret (qk_ex hX) (qk_by hX) hr (fun t ht hW => ⟨⟨(), rfl, trivial, by show qm_H _ _ t.heap; rw [ht]; exact hH⟩, hS.F ht⟩) hS.2.2 (qk_d hX hd) hX.2.2.1
theorem qb_aret (hX : qm_ok X own cc nL f lo il) (k : Nat) {x r0 : Nat} {σ0 : qm_Mem} {ty : FieldType} {a : α} (hd : qm_nth il k = some (pc, .areturn, 1, pc')) (hR : qm_RR X r0 σ0 ty) (h : ∀ σ, κ a σ → x = r0 ∧ σ = σ0) : qm_B X (mP a) pc ρ [.ref (qx_ad X x)] κ := by
  intro σ b σ' h1 h2
  cases h1
  obtain ⟨e1, e2⟩ := h _ h2
  intro H locs ls hH hS hL
  subst e1
  subst e2
  obtain ⟨hQ, hr, hrt, hA⟩ := hR
  show W _ _ _ _ _ _ _ _ _ _ _ _ _ _ (qx_Q X) _
  rw [hQ]
  rw [hA] at hS
  exact W.aret (qk_ex hX) (qk_by hX) hr hrt (Or.inr ⟨_, rfl⟩) (fun t ht hW => ⟨⟨(), _, rfl, trivial, rfl, by show qm_H _ _ t.heap; rw [ht]; exact hH⟩, hS.F ht⟩) hS.2.2 (qk_d hX hd) hX.2.2.1
end QR
theorem qm_metI {l : Launch} {G : qm_G} {y : MethodName} {b : ByteArray} {nL : Nat} {ret : Option FieldType} {f lo : Nat} {av : List Value} {m : qm_M Int32} {il : List qm_I} {ty : FieldType} (hy : plainName y.cls = true) (hil : qm_D b il) (hc : ∀ v ∈ av, v.category = 1) (hn : av.length ≤ nL) (hG : qm_GI G) (hret : ret = some ty)
    (body : ∀ X, qx_l X = l → qx_G X = G → qm_ok X y.cls b nL f lo il → ∀ r0 σ0, qm_RI X r0 σ0 ty → qm_B X m 0 (av.map some ++ List.replicate (nL - av.length) none) [] (fun r σ1 => r = r0 ∧ σ1 = σ0)) : qm_MI l G y b nL ret f lo av m := by
  intro σ r σ' hm sz
  refine Met.ofW (cc := b) (maxL := nL) (ret := ret) hy rfl ?_
  intro p e s mi args below meth c s₁ B hml hv
  obtain ⟨rfl, hsz, hH, hK, hZ⟩ := hv
  subst hsz
  have hts := atoms_spec (ws := qm_w y b nL ret) B.pre
  have hok : qm_ok (p, l, e, qm_rm f lo, s, mi, av.toArray, below, meth, c, G, qm_A G s.heap.size, 0, 0, MQ below (qm_Qi G r σ' s.heap.size) av.toArray s 0 0 (qm_A G s.heap.size)) y.cls b nL f lo il :=
    ⟨⟨B.exec, B.bytes, hml, findClass_of_methodNamed B.named, fun w hw => hts w (List.mem_cons_of_mem _ hw)⟩, hil, B.notSynchronized, hK, hZ, hG, ⟨fun i hi => Or.inl ⟨i, hi, rfl⟩, fun q hq => Or.inr hq⟩, rfl, rfl, Nat.le_refl _, Nat.le_refl _⟩
  have hb := body _ rfl rfl hok r σ' ⟨rfl, B.returns.trans hret, rfl⟩ σ r σ' hm ⟨rfl, rfl⟩
  rw [lg_entry_eq]
  exact hb s.heap [] _ hH va_S.rf (by show qm_L _ c.maxLocals _; rw [hml]; exact qm_entry av nL hc hn)
theorem qm_metV {l : Launch} {G : qm_G} {y : MethodName} {b : ByteArray} {nL : Nat} {f lo : Nat} {av : List Value} {m : qm_M Unit} {il : List qm_I} (hy : plainName y.cls = true) (hil : qm_D b il) (hc : ∀ v ∈ av, v.category = 1) (hn : av.length ≤ nL) (hG : qm_GI G)
    (body : ∀ X, qx_l X = l → qx_G X = G → qm_ok X y.cls b nL f lo il → ∀ σ0, qm_RV X σ0 → qm_B X m 0 (av.map some ++ List.replicate (nL - av.length) none) [] (fun _ σ1 => σ1 = σ0)) : qm_MV l G y b nL f lo av m := by
  intro σ r σ' hm sz
  refine Met.ofW (cc := b) (maxL := nL) (ret := none) hy rfl ?_
  intro p e s mi args below meth c s₁ B hml hv
  obtain ⟨rfl, hsz, hH, hK, hZ⟩ := hv
  subst hsz
  have hts := atoms_spec (ws := qm_w y b nL none) B.pre
  have hok : qm_ok (p, l, e, qm_rm f lo, s, mi, av.toArray, below, meth, c, G, qm_A G s.heap.size, 0, 0, MQ below (qm_Qv G σ' s.heap.size) av.toArray s 0 0 (qm_A G s.heap.size)) y.cls b nL f lo il :=
    ⟨⟨B.exec, B.bytes, hml, findClass_of_methodNamed B.named, fun w hw => hts w (List.mem_cons_of_mem _ hw)⟩, hil, B.notSynchronized, hK, hZ, hG, ⟨fun i hi => Or.inl ⟨i, hi, rfl⟩, fun q hq => Or.inr hq⟩, rfl, rfl, Nat.le_refl _, Nat.le_refl _⟩
  have hb := body _ rfl rfl hok σ' ⟨rfl, B.returns, rfl⟩ σ r σ' hm rfl
  rw [lg_entry_eq]
  exact hb s.heap [] _ hH va_S.rf (by show qm_L _ c.maxLocals _; rw [hml]; exact qm_entry av nL hc hn)
theorem qm_metR {l : Launch} {G : qm_G} {y : MethodName} {b : ByteArray} {nL : Nat} {ret : Option FieldType} {f lo : Nat} {av : List Value} {m : qm_M Nat} {il : List qm_I} {ty : FieldType} (hy : plainName y.cls = true) (hil : qm_D b il) (hc : ∀ v ∈ av, v.category = 1) (hn : av.length ≤ nL) (hG : qm_GI G) (hret : ret = some ty) (hty : (∃ n, ty = .object n) ∨ ∃ t, ty = .array t)
    (body : ∀ X, qx_l X = l → qx_G X = G → qm_ok X y.cls b nL f lo il → ∀ r0 σ0, qm_RR X r0 σ0 ty → qm_B X m 0 (av.map some ++ List.replicate (nL - av.length) none) [] (fun r σ1 => r = r0 ∧ σ1 = σ0)) : qm_MR l G y b nL ret f lo av m := by
  intro σ r σ' hm sz
  refine Met.ofW (cc := b) (maxL := nL) (ret := ret) hy rfl ?_
  intro p e s mi args below meth c s₁ B hml hv
  obtain ⟨rfl, hsz, hH, hK, hZ⟩ := hv
  subst hsz
  have hts := atoms_spec (ws := qm_w y b nL ret) B.pre
  have hok : qm_ok (p, l, e, qm_rm f lo, s, mi, av.toArray, below, meth, c, G, qm_A G s.heap.size, 0, 0, MQ below (qm_Qr G r σ' s.heap.size) av.toArray s 0 0 (qm_A G s.heap.size)) y.cls b nL f lo il :=
    ⟨⟨B.exec, B.bytes, hml, findClass_of_methodNamed B.named, fun w hw => hts w (List.mem_cons_of_mem _ hw)⟩, hil, B.notSynchronized, hK, hZ, hG, ⟨fun i hi => Or.inl ⟨i, hi, rfl⟩, fun q hq => Or.inr hq⟩, rfl, rfl, Nat.le_refl _, Nat.le_refl _⟩
  have hb := body _ rfl rfl hok r σ' ⟨rfl, B.returns.trans hret, hty, rfl⟩ σ r σ' hm ⟨rfl, rfl⟩
  rw [lg_entry_eq]
  exact hb s.heap [] _ hH va_S.rf (by show qm_L _ c.maxLocals _; rw [hml]; exact qm_entry av nL hc hn)
