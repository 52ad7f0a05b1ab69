/-- a class's fields are told by the tables -/
def qm_cls (ci : Nat) (C : String) (T : u_T) (N : Nat) : Prop := qm_cl[ci]? = some (C, T, N) ∧ ∀ w ∈ u_ws C T N, w ∈ qm_tb
/-- an instruction's field: own class, place in its pool, class, field -/
def qm_FL (own : String) (idx ci j : Nat) : Prop := ∃ C T N, qm_cls ci C T N ∧ j < N ∧ Cond.fieldLink own idx (T j).1 (T j).2.1 (T j).2.2.1 ∈ qm_tb
def qm_tyk (ty : FieldType) : Prop := ty = .int ∨ ty = .boolean
/-- such a field may be written outside of a constructor -/
def qm_FP (own : String) (idx ci j : Nat) (ty : FieldType) : Prop := ∃ (C : String) (T : u_T) (N : Nat) (tys : Nat → FieldType), qm_cls ci C T N ∧ j < N ∧ Cond.fieldLink own idx (T j).1 (T j).2.1 (T j).2.2.1 ∈ qm_tb ∧ (∀ k, k < N → parseFieldDescriptor (T k).2.2.1 = some (tys k)) ∧ (∀ a, a < N → ∀ b, b < N → a ≠ b → (T a).2.1 ≠ (T b).2.1) ∧ (T j).2.2.2 = false ∧ parseFieldDescriptor (T j).2.2.1 = some ty ∧ qm_ft ci j = false ∧ N = qm_nf ci
theorem qm_fs_at {G : qm_G} {t i k : Nat} {σ : qm_Mem} (h : k < qm_nf t) : (qm_fs G t i σ)[k]? = some (qm_vl G t i σ k) := by
  unfold qm_fs
  rw [List.getElem?_map, List.getElem?_range h]
  rfl
theorem qm_fs_len {G : qm_G} {t i : Nat} {σ : qm_Mem} : (qm_fs G t i σ).length = qm_nf t := by
  unfold qm_fs
  rw [List.length_map, List.length_range]
theorem qm_cls_nf {ci N : Nat} {C : String} {T : u_T} (h : qm_cl[ci]? = some (C, T, N)) : qm_nf ci = N := by
  unfold qm_nf
  rw [h]
theorem qm_own : ∀ a : Nat, 10 ≤ (qm_kd a).1 → a < qm_N := by
  intro a h
  rcases Nat.lt_or_ge a qm_N with q | q
  · exact q
  · rcases Nat.lt_or_ge a 500 with z | z
    · exact absurd h ((by decide +kernel : ∀ a, a < 500 → qm_N ≤ a → ¬ 10 ≤ (qm_kd a).1) a z q)
    · have : qm_kd a = (0, 0) := by
        have hz : ∀ (l : List (Nat × Nat × Nat)) (n a : Nat), l.foldl (fun s r => s + r.1) 0 ≤ n → n ≤ a → qm_kl l a = (0, 0) := by
          intro l
          induction l with
          | nil => intro n a _ _; rfl
          | cons r l ih =>
            intro n a h1 h2
            have hf : ∀ (l : List (Nat × Nat × Nat)) (z : Nat), l.foldl (fun s r => s + r.1) z = z + l.foldl (fun s r => s + r.1) 0 := by
              intro l
              induction l with
              | nil => intro z; rfl
              | cons q l ih => intro z; rw [List.foldl_cons, List.foldl_cons, ih, ih (0 + q.1)]; omega
            rw [List.foldl_cons, hf] at h1
            obtain ⟨c, t, n2⟩ := r
            unfold qm_kl
            rw [if_neg (by simp at h1; omega)]
            exact ih (n - c) (a - c) (by simp at h1; omega) (by simp at h1; omega)
        exact hz qm_runs 500 a (by decide +kernel) z
      rw [this] at h
      exact absurd h (by decide)
section QC
variable {X : qm_X} {own : String} {cc : ByteArray} {nL f lo : Nat} {il : List qm_I}
variable {α : Type} {m : qm_M α} {pc pc' : Nat} {ρ : List (Option Value)} {st : List Value} {κ : α → qm_Mem → Prop}
theorem qj_get (hX : qm_ok X own cc nL f lo il) {k idx ci j a : Nat} {σ : qm_Mem} (hd : qm_nth il k = some (pc, .getfield idx, 3, pc')) (hf : qm_FL own idx ci j) (ha : (qm_kd a).1 = 10 + ci) (h : qm_J X pc' ρ (qm_vl (qx_G X) ci a σ j :: st) σ) : qm_J X pc ρ (.ref (qx_ad X a) :: st) σ := by
  cases qk_n hX hd
  intro H locs ls hH hS hL
  obtain ⟨C, T, N, ⟨hc, hw⟩, hj, hl⟩ := hf
  exact va_get (D := (qx_G X).2.1) (ci := ci) (Ts := qm_tb) (qk_ex hX) (qk_by hX) (qk_ts hX) hw (qk_ow hX) (qk_K hX) (hH.obj ha) 0 rfl hc j hj (qk_ts hX _ hl) (fun x h => h) (qm_fs_at (by rw [qm_cls_nf hc]; exact hj)) (qk_d hX hd) (h H locs ls hH hS hL)
theorem qb_get (hX : qm_ok X own cc nL f lo il) (k : Nat) {idx ci j a : Nat} {g : Int32 → qm_M α} (hd : qm_nth il k = some (pc, .getfield idx, 3, pc')) (hf : qm_FL own idx ci j) (ha : (qm_kd a).1 = 10 + ci) (hr : qm_ft ci j = false) (h : ∀ x, qm_B X (g x) pc' ρ (.int x :: st) κ) : qm_B X (mB (mGt a j) g) pc ρ (.ref (qx_ad X a) :: st) κ := by
  intro σ r σ' h1 h2
  refine qj_get hX hd hf ha ?_
  unfold qm_vl
  rw [if_neg (by rw [hr]; exact Bool.noConfusion)]
  exact h (σ a j) σ r σ' h1 h2
theorem qb_getR (hX : qm_ok X own cc nL f lo il) (k : Nat) {idx ci j a : Nat} (hd : qm_nth il k = some (pc, .getfield idx, 3, pc')) (hf : qm_FL own idx ci j) (ha : (qm_kd a).1 = 10 + ci) (hr : qm_ft ci j = true) (h : qm_B X m pc' ρ (.ref (qx_ad X (qm_rf a j)) :: st) κ) : qm_B X m pc ρ (.ref (qx_ad X a) :: st) κ := by
  intro σ r σ' h1 h2
  refine qj_get hX hd hf ha ?_
  unfold qm_vl
  rw [if_pos hr]
  exact h σ r σ' h1 h2
theorem qj_put (hX : qm_ok X own cc nL f lo il) {k idx ci j a : Nat} {x : Int32} {ty : FieldType} {σ : qm_Mem} (hd : qm_nth il k = some (pc, .putfield idx, 3, pc')) (hf : qm_FP own idx ci j ty) (ha : (qm_kd a).1 = 10 + ci) (hn : narrow ty (.int x) = .int x) (hfit : fits ty (.int x) = true) (h : qm_J X pc' ρ st (qm_u σ a j x)) : qm_J X pc ρ (.int x :: .ref (qx_ad X a) :: st) σ := by
  cases qk_n hX hd
  intro H locs ls hH hS hL
  obtain ⟨C, T, N, tys, ⟨hc, hin⟩, hj, hl, hty, hnm, hfin, hpd, hft, hN⟩ := hf
  have hK := qk_K hX
  have hts := qk_ts hX
  have hap := va_apart (own := own) hts hin tys hty hnm hK hc
  have hP := hH.obj ha
  obtain ⟨r, h1, cell, q1, q2, q3, q4⟩ := hP 0 _ rfl
  have hr : r = (C, T, N) := Option.some.inj (h1.symm.trans hc)
  subst hr
  obtain ⟨hS9, hfc, kC, hkC, hkind⟩ := hK.1 ci _ hc
  obtain ⟨cf, kf, fi, f9, hi, hsl⟩ := hS9 j hj
  have hlay := hts _ (hin _ (u_in_lay hj))
  unfold u_lay at hlay
  rw [if_neg (by rw [hfin]; decide)] at hlay
  have hst := (u_facts hfc hkC (u_lays hts hin hj) hi).1
  have h6 := u_store hfc hkC hkind hlay hi hpd hn hfit
  refine W.putK (qk_ex hX) (qk_by hX) (f := f9) ⟨qk_ow hX, hts _ hl, ⟨_, _, _, hi⟩, hst⟩ (by rw [q2]; exact h6) q1 q3 (by rw [hsl]; exact k2_hasslot (q4 j hj)) rfl rfl (qk_d hX hd) fun H' e1 e2 e3 => ?_
  rw [hsl] at e1
  have hw := qm_own a (by omega)
  refine h H' _ ls (hH.put (qk_GI hX) hw (fun e he => ?_) e3) (hS.put e2 e3 ((qk_A hX).1 a hw)) hL
  have he2 : e = .inr (ci, qm_fs (qx_G X) ci a (qm_u σ a j x)) := by
    unfold qm_E at he
    rw [if_neg (by omega), if_neg (by omega), if_pos (by omega), ha, Nat.add_sub_cancel_left] at he
    exact (Option.some.inj he).symm
  subst he2
  refine ⟨_, hc, t_OB.to (V := updV (vp_V (qm_fs (qx_G X) ci a σ)) j (.int x)) ⟨_, e1, q2, q3, t_set q4 hap hj (.int x)⟩ (fun i hi9 => ?_)⟩
  have hi8 : i < qm_nf ci := by rw [← hN]; exact hi9
  show updV (vp_V (qm_fs (qx_G X) ci a σ)) j (.int x) i = vp_V (qm_fs (qx_G X) ci a (qm_u σ a j x)) i
  unfold vp_V
  rw [List.getD_eq_getElem?_getD, qm_fs_at hi8]
  unfold updV
  by_cases hij : i = j
  · subst hij
    rw [if_pos rfl]
    unfold qm_vl
    rw [if_neg (by rw [hft]; exact Bool.noConfusion), qm_u_self]
    unfold upd
    rw [if_pos rfl]
    rfl
  · rw [if_neg hij]
    show (qm_fs (qx_G X) ci a σ).getD i Value.null = _
    rw [List.getD_eq_getElem?_getD, qm_fs_at hi8]
    show qm_vl (qx_G X) ci a σ i = qm_vl (qx_G X) ci a (qm_u σ a j x) i
    unfold qm_vl
    rw [qm_u_self]
    unfold upd
    rw [if_neg hij]
theorem qb_put (hX : qm_ok X own cc nL f lo il) (k : Nat) {idx ci j a : Nat} {x : Int32} {g : Unit → qm_M α} (hd : qm_nth il k = some (pc, .putfield idx, 3, pc')) (hf : qm_FP own idx ci j .int) (ha : (qm_kd a).1 = 10 + ci) (h : qm_B X (g ()) pc' ρ st κ) : qm_B X (mB (mPt a j x) g) pc ρ (.int x :: .ref (qx_ad X a) :: st) κ := by
  intro σ r σ' h1 h2
  exact qj_put hX hd hf ha rfl rfl (h _ r σ' h1 h2)
theorem qb_putZ (hX : qm_ok X own cc nL f lo il) (k : Nat) {idx ci j a : Nat} {x : Int32} {g : Unit → qm_M α} (hd : qm_nth il k = some (pc, .putfield idx, 3, pc')) (hf : qm_FP own idx ci j .boolean) (ha : (qm_kd a).1 = 10 + ci) (h : qm_B X (g ()) pc' ρ st κ) : qm_B X (mB (mPz a j x) g) pc ρ (.int x :: .ref (qx_ad X a) :: st) κ := by
  intro σ r σ' h1 h2
  obtain ⟨u, σ1, e1, e2⟩ := mB_some h1
  unfold mPz at e1
  split at e1
  · rename_i hz
    cases e1
    refine qj_put hX hd hf ha ?_ ?_ (h _ r σ' e2 h2)
    · rcases hz with q | q
      · rw [q]; rfl
      · rw [q]; rfl
    · rcases hz with q | q
      · rw [q]; rfl
      · rw [q]; rfl
  · cases e1
theorem qb_alen (hX : qm_ok X own cc nL f lo il) (k : Nat) {a : Nat} (v : Int32) (hd : qm_nth il k = some (pc, .arraylength, 1, pc')) (ha : (qm_kd a).1 = 1 ∨ (qm_kd a).1 = 2 ∨ (qm_kd a).1 = 3) (hv : Int32.ofNat (qm_kd a).2 = v) (h : qm_B X m pc' ρ (.int v :: st) κ) : qm_B X m pc ρ (.ref (qx_ad X a) :: st) κ := by
  cases qk_n hX hd
  intro σ r σ' h1 h2 H locs ls hH hS hL
  have kk := h σ r σ' h1 h2 H locs ls hH hS hL
  by_cases hN : a < qm_N
  · have hc := hH.arr ha hN
    have hP : va_P (qx_G X).2.1 qm_cl [(qx_ad X a, .inl ((qx_G X).2.2 (qm_kd a).1, (qm_kd a).2, .inl (σ a)))] H := (fun k q hk => by
        cases k with
        | succ k => simp at hk
        | zero => cases hk; exact hc)
    rcases ha with e | e | e
    · rw [e] at hP; exact va_alen (tys := qm_tys (qx_G X)) (qk_ex hX) (qk_by hX) (qk_K hX) hP 0 0 rfl rfl hv (qk_d hX hd) kk
    · rw [e] at hP; exact va_alen (tys := qm_tys (qx_G X)) (qk_ex hX) (qk_by hX) (qk_K hX) hP 0 1 rfl rfl hv (qk_d hX hd) kk
    · rw [e] at hP; exact va_alen (tys := qm_tys (qx_G X)) (qk_ex hX) (qk_by hX) (qk_K hX) hP 0 2 rfl rfl hv (qk_d hX hd) kk
  · rcases ha with e | e
    · obtain ⟨s1, s2, s3⟩ := qm_sta e hN
      rw [s3] at hv
      exact va_tlen (qk_ex hX) (qk_by hX) ((qk_Z hX).2.2.2.2.2 a s1 s2) hS hv (qk_d hX hd) kk
    · exact absurd (qm_low e) hN
theorem qb_alenR (hX : qm_ok X own cc nL f lo il) (k : Nat) {a : Nat} (v : Int32) (hd : qm_nth il k = some (pc, .arraylength, 1, pc')) (ha : (qm_kd a).1 = 4 ∨ (qm_kd a).1 = 5) (hv : Int32.ofNat (qm_kd a).2 = v) (h : qm_B X m pc' ρ (.int v :: st) κ) : qm_B X m pc ρ (.ref (qx_ad X a) :: st) κ := by
  cases qk_n hX hd
  intro σ r σ' h1 h2 H locs ls hH hS hL
  have hc := hH.arrR ha
  have kk := h σ r σ' h1 h2 H locs ls hH hS hL
  have hP : va_P (qx_G X).2.1 qm_cl [(qx_ad X a, .inl ((qx_G X).2.2 (qm_kd a).1, (qm_kd a).2, .inr (.inr (.inr (.inr (fun j => some ((qx_G X).1 (qm_rf a j))))))))] H := (fun k q hk => by
      cases k with
      | succ k => simp at hk
      | zero => cases hk; exact hc)
  rcases ha with e | e
  · rw [e] at hP; exact va_alen (tys := qm_tys (qx_G X)) (qk_ex hX) (qk_by hX) (qk_K hX) hP 0 3 rfl rfl hv (qk_d hX hd) kk
  · rw [e] at hP; exact va_alen (tys := qm_tys (qx_G X)) (qk_ex hX) (qk_by hX) (qk_K hX) hP 0 4 rfl rfl hv (qk_d hX hd) kk
theorem qb_gets (hX : qm_ok X own cc nL f lo il) (k : Nat) {idx : Nat} {n : String} (i : Nat) (hd : qm_nth il k = some (pc, .getstatic idx, 3, pc')) (hq : ("ColumnsLevelled", n, "[I", i) ∈ qm_sts) (hw : Cond.fieldLink own idx "ColumnsLevelled" n "[I" ∈ qm_tb) (h : qm_B X m pc' ρ (.ref (qx_ad X i) :: st) κ) : qm_B X m pc ρ st κ := by
  cases qk_n hX hd
  intro σ r σ' h1 h2 H locs ls hH hS hL
  exact va_gets (qk_ex hX) (qk_by hX) ((qk_Z hX).1 _ hq) hS (qk_ow hX) (qk_ts hX _ hw) (fun x h => h) (qk_d hX hd) (h σ r σ' h1 h2 H locs ls hH hS hL)
theorem qb_getsN (hX : qm_ok X own cc nL f lo il) (k : Nat) {idx : Nat} {n : String} (i : Nat) (hd : qm_nth il k = some (pc, .getstatic idx, 3, pc')) (hq : ("ColumnsLevelled", n, "[I", i) ∈ qm_sts) (hw : Cond.fieldLinkNest own idx "ColumnsLevelled" n "[I" "ColumnsLevelled" ∈ qm_nw) (h : qm_B X m pc' ρ (.ref (qx_ad X i) :: st) κ) : qm_B X m pc ρ st κ := by
  cases qk_n hX hd
  intro σ r σ' h1 h2 H locs ls hH hS hL
  exact va_getsN (qk_ex hX) (qk_by hX) ((qk_Z hX).1 _ hq) hS (qk_ow hX) (va_Nw.use rfl (qk_nw hX _ hw)) (fun x h => h) (qk_d hX hd) (h σ r σ' h1 h2 H locs ls hH hS hL)
end QC
