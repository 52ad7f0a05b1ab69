theorem qm_far : ∀ a : Nat, 500 ≤ a → qm_kd a = (0, 0) := by
  have hf : ∀ (l : List (Nat × Nat × Nat)) (z : Nat), l.foldl (fun s r => s + r.1) z = z + l.foldl (fun s r => s + r.1) 0 := by
    intro l
    induction l with
    | nil => intro z; rfl
    | cons q l ih => intro z; rw [List.foldl_cons, List.foldl_cons, ih, ih (0 + q.1)]; omega
  have hz : ∀ (l : List (Nat × Nat × Nat)) (n a : Nat), l.foldl (fun s r => s + r.1) 0 ≤ n → n ≤ a → qm_kl l a = (0, 0) := by
    intro l
    induction l with
    | nil => intro n a _ _; rfl
    | cons r l ih =>
      intro n a h1 h2
      rw [List.foldl_cons, hf] at h1
      obtain ⟨c, t, n2⟩ := r
      unfold qm_kl
      rw [if_neg (by simp at h1; omega)]
      exact ih (n - c) (a - c) (by simp at h1; omega) (by simp at h1; omega)
  exact fun a h => hz qm_runs 500 a (by decide +kernel) h
theorem qm_near {a t : Nat} (ht : t ≠ 0) (h : (qm_kd a).1 = t) : a < 500 := by
  rcases Nat.lt_or_ge a 500 with q | q
  · exact q
  · rw [qm_far a q] at h
    exact absurd h.symm ht
theorem qm_low {a : Nat} (h : (qm_kd a).1 = 2 ∨ (qm_kd a).1 = 3) : a < qm_N := by
  have h1 : ∀ a, a < 500 → ((qm_kd a).1 = 2 ∨ (qm_kd a).1 = 3) → a < qm_N := by decide +kernel
  refine h1 a ?_ h
  rcases h with h | h
  · exact qm_near (by decide) h
  · exact qm_near (by decide) h
theorem qm_sta {a : Nat} (h : (qm_kd a).1 = 1) (hn : ¬ a < qm_N) : 405 ≤ a ∧ a < 408 ∧ (qm_kd a).2 = 8 := by
  have h1 : ∀ a, a < 500 → (qm_kd a).1 = 1 → ¬ a < qm_N → 405 ≤ a ∧ a < 408 ∧ (qm_kd a).2 = 8 := by decide +kernel
  exact h1 a (qm_near (by decide) h) h hn
section QC
variable {X : qm_X} {own : String} {cc : ByteArray} {nL f lo : Nat} {il : List qm_I}
variable {α : Type} {m : qm_M α} {pc pc' : Nat} {ρ : List (Option Value)} {st : List Value} {κ : α → qm_Mem → Prop}
theorem qk_K (hX : qm_ok X own cc nL f lo il) : va_K (qx_G X).2.1 qm_cl (qm_tys (qx_G X)) (qx_s X) := hX.2.2.2.1.1
theorem qk_nw (hX : qm_ok X own cc nL f lo il) : ∀ w ∈ qm_nw, va_Nw w (qx_s X) := hX.2.2.2.1.2
theorem qk_Z (hX : qm_ok X own cc nL f lo il) : qm_Z (qx_G X) (qx_A X) (qx_s X) (qx_s X).heap := hX.2.2.2.2.1
theorem qk_GI (hX : qm_ok X own cc nL f lo il) : qm_GI (qx_G X) := hX.2.2.2.2.2.1
theorem qk_A (hX : qm_ok X own cc nL f lo il) : (∀ i, i < qm_N → qx_A X (qx_ad X i)) ∧ ∀ q, (qx_s X).heap.size ≤ q → qx_A X q := hX.2.2.2.2.2.2.1
theorem qk_R (hX : qm_ok X own cc nL f lo il) : (qx_R X).frames = f ∧ (qx_R X).locals = lo ∧ qx_cells X ≤ (qx_R X).cells ∧ qx_slots X ≤ (qx_R X).slots := hX.2.2.2.2.2.2.2
/-- a row of ints, booleans, bytes -/
theorem qm_H.arr {G : qm_G} {σ : qm_Mem} {H : Heap} (h : qm_H G σ H) {a : Nat} (ha : (qm_kd a).1 = 1 ∨ (qm_kd a).1 = 2 ∨ (qm_kd a).1 = 3) (hN : a < qm_N) : H[G.1 a]? = some (vp_cell (G.2.2 (qm_kd a).1) ((qm_kd a).2, .inl (σ a))) :=
  h.1 a (.inl (G.2.2 (qm_kd a).1, (qm_kd a).2, .inl (σ a))) (by unfold qm_E; rw [if_pos ⟨ha, hN⟩])
theorem qm_H.arrR {G : qm_G} {σ : qm_Mem} {H : Heap} (h : qm_H G σ H) {a : Nat} (ha : (qm_kd a).1 = 4 ∨ (qm_kd a).1 = 5) : H[G.1 a]? = some (vp_cell (G.2.2 (qm_kd a).1) ((qm_kd a).2, .inr (.inr (.inr (.inr (fun j => some (G.1 (qm_rf a j)))))))) :=
  h.1 a (.inl (G.2.2 (qm_kd a).1, (qm_kd a).2, .inr (.inr (.inr (.inr (fun j => some (G.1 (qm_rf a j)))))))) (by unfold qm_E; rw [if_neg (by omega), if_pos ha])
theorem qm_H.obj {G : qm_G} {σ : qm_Mem} {H : Heap} (h : qm_H G σ H) {a t : Nat} (ha : (qm_kd a).1 = 10 + t) : va_P G.2.1 qm_cl [(G.1 a, .inr (t, qm_fs G t a σ))] H := by
  intro k q hk
  cases k with
  | succ k => simp at hk
  | zero =>
    cases hk
    refine h.1 a (.inr (t, qm_fs G t a σ)) ?_
    unfold qm_E
    rw [if_neg (by omega), if_neg (by omega), if_pos (by omega), ha, Nat.add_sub_cancel_left]
theorem qm_u_other {σ : qm_Mem} {a k : Nat} {x : Int32} {i : Nat} (h : i ≠ a) : qm_u σ a k x i = σ i := by
  funext j
  unfold qm_u
  rw [if_neg (fun q => h q.1)]
theorem qm_u_self {σ : qm_Mem} {a k : Nat} {x : Int32} : qm_u σ a k x a = upd (σ a) k x := by
  funext j
  unfold qm_u upd
  by_cases h : j = k
  · rw [if_pos ⟨rfl, h⟩, if_pos h]
  · rw [if_neg (fun q => h q.2), if_neg h]
theorem qm_fs_other {G : qm_G} {t i a k : Nat} {x : Int32} {σ : qm_Mem} (h : i ≠ a) : qm_fs G t i (qm_u σ a k x) = qm_fs G t i σ := by
  unfold qm_fs
  congr 1
  funext j
  unfold qm_vl
  rw [qm_u_other h]
theorem qm_E_other {G : qm_G} {σ : qm_Mem} {i a k : Nat} {x : Int32} (h : i ≠ a) : qm_E G (qm_u σ a k x) i = qm_E G σ i := by
  unfold qm_E
  rw [qm_u_other h, qm_fs_other h]
theorem qm_live {G : qm_G} {σ : qm_Mem} {i : Nat} {e : va_E} (h : qm_E G σ i = some e) : (qm_kd i).1 ≠ 0 := by
  intro h0
  unfold qm_E at h
  rw [if_neg (by omega), if_neg (by omega), if_neg (by omega)] at h
  cases h
/-- a cell is written: the others stay -/
theorem qm_H.put {G : qm_G} {σ : qm_Mem} {H H1 : Heap} {a k : Nat} {x : Int32} (hG : qm_GI G) (h : qm_H G σ H) (ha : a < qm_N) (hs : ∀ e, qm_E G (qm_u σ a k x) a = some e → va_at G.2.1 qm_cl (G.1 a, e) H1) (ho : ∀ q : Nat, q ≠ G.1 a → H1[q]? = H[q]?) : qm_H G (qm_u σ a k x) H1 := by
  have hst : ∀ i, 405 ≤ i → i < 408 → ∀ j, j < 8 → qm_u σ a k x i j = qm_sv i j := fun i h1 h2 j hj => by
    have hN : qm_N = 367 := rfl
    rw [qm_u_other (by omega)]
    exact h.2 i h1 h2 j hj
  refine ⟨fun i e he => ?_, hst⟩
  by_cases hi : i = a
  · subst hi
    exact hs e he
  · have he2 := he
    rw [qm_E_other hi] at he
    refine (h.1 i e he).kept (ho _ (fun q => hi (hG i a (qm_live he) ha q)))
theorem qm_in_iff {a : Nat} {i : Int32} (h : qm_in a i = true) : vp_in i (qm_kd a).2 := by
  unfold qm_in at h
  rw [Bool.and_eq_true, decide_eq_true_iff, decide_eq_true_iff] at h
  intro q
  rcases q with q | q
  · exact absurd h.1 (by simpa using q)
  · omega
theorem qm_ow_iff {a : Nat} (h : qm_ow a = true) : a < qm_N := of_decide_eq_true h
theorem qb_iald (hX : qm_ok X own cc nL f lo il) (k : Nat) {a : Nat} {i : Int32} {g : Int32 → qm_M α} (hd : qm_nth il k = some (pc, .iaload, 1, pc')) (ha : (qm_kd a).1 = 1) (h : ∀ x, qm_B X (g x) pc' ρ (.int x :: st) κ) : qm_B X (mB (mLd a i) g) pc ρ (.int i :: .ref (qx_ad X a) :: st) κ := by
  cases qk_n hX hd
  intro σ r σ' h1 h2 H locs ls hH hS hL
  obtain ⟨x, σ1, e1, e2⟩ := mB_some h1
  unfold mLd at e1
  split at e1
  · rename_i hi
    cases e1
    by_cases hN : a < qm_N
    · have hc := hH.arr (Or.inl ha) hN
      rw [ha] at hc
      exact va_iald (tys := qm_tys (qx_G X)) (D := (qx_G X).2.1) (cl := qm_cl) (ws := [(qx_ad X a, .inl ((qx_G X).2.2 1, (qm_kd a).2, .inl (σ a)))]) (qk_ex hX) (qk_by hX) (qk_K hX) (fun k q hk => by
        cases k with
        | succ k => simp at hk
        | zero => cases hk; exact hc) 0 0 rfl rfl (qm_in_iff hi) (qk_d hX hd) (h _ σ r σ' e2 h2 H locs ls hH hS hL)
    · obtain ⟨s1, s2, s3⟩ := qm_sta ha hN
      have hv := qm_in_iff hi
      rw [s3] at hv
      have hlt : i.toNatClampNeg < 8 := Nat.not_le.mp fun q => hv (Or.inr q)
      have kk := h _ σ r σ' e2 h2 H locs ls hH hS hL
      rw [hH.2 a s1 s2 _ hlt] at kk
      exact va_ti (qk_ex hX) (qk_by hX) ((qk_Z hX).2.2.2.2.2 a s1 s2) hS hv rfl (qk_d hX hd) kk
  · cases e1
theorem qb_zald (hX : qm_ok X own cc nL f lo il) (k : Nat) {a : Nat} {i : Int32} {g : Int32 → qm_M α} (hd : qm_nth il k = some (pc, .baload, 1, pc')) (ha : (qm_kd a).1 = 2) (h : ∀ x, qm_B X (g x) pc' ρ (.int x :: st) κ) : qm_B X (mB (mLd a i) g) pc ρ (.int i :: .ref (qx_ad X a) :: st) κ := by
  cases qk_n hX hd
  intro σ r σ' h1 h2 H locs ls hH hS hL
  obtain ⟨x, σ1, e1, e2⟩ := mB_some h1
  unfold mLd at e1
  split at e1
  · rename_i hi
    cases e1
    have hc := hH.arr (Or.inr (Or.inl ha)) (qm_low (Or.inl ha))
    rw [ha] at hc
    exact va_zald (tys := qm_tys (qx_G X)) (D := (qx_G X).2.1) (cl := qm_cl) (ws := [(qx_ad X a, .inl ((qx_G X).2.2 2, (qm_kd a).2, .inl (σ a)))]) (qk_ex hX) (qk_by hX) (qk_K hX) (fun k q hk => by
      cases k with
      | succ k => simp at hk
      | zero => cases hk; exact hc) 0 1 rfl rfl (qm_in_iff hi) (qk_d hX hd) (h _ σ r σ' e2 h2 H locs ls hH hS hL)
  · cases e1
theorem qb_bald (hX : qm_ok X own cc nL f lo il) (k : Nat) {a : Nat} {i : Int32} {g : Int32 → qm_M α} (hd : qm_nth il k = some (pc, .baload, 1, pc')) (ha : (qm_kd a).1 = 3) (h : ∀ x, qm_B X (g x) pc' ρ (.int x :: st) κ) : qm_B X (mB (mLd a i) g) pc ρ (.int i :: .ref (qx_ad X a) :: st) κ := by
  cases qk_n hX hd
  intro σ r σ' h1 h2 H locs ls hH hS hL
  obtain ⟨x, σ1, e1, e2⟩ := mB_some h1
  unfold mLd at e1
  split at e1
  · rename_i hi
    cases e1
    have hc := hH.arr (Or.inr (Or.inr ha)) (qm_low (Or.inr ha))
    rw [ha] at hc
    exact va_bald (tys := qm_tys (qx_G X)) (D := (qx_G X).2.1) (cl := qm_cl) (ws := [(qx_ad X a, .inl ((qx_G X).2.2 3, (qm_kd a).2, .inl (σ a)))]) (qk_ex hX) (qk_by hX) (qk_K hX) (fun k q hk => by
      cases k with
      | succ k => simp at hk
      | zero => cases hk; exact hc) 0 2 rfl rfl (qm_in_iff hi) (qk_d hX hd) (h _ σ r σ' e2 h2 H locs ls hH hS hL)
  · cases e1
theorem qb_aald (hX : qm_ok X own cc nL f lo il) (k : Nat) {a t : Nat} {i : Int32} {g : Nat → qm_M α} (hd : qm_nth il k = some (pc, .aaload, 1, pc')) (ha : (qm_kd a).1 = 4 ∨ (qm_kd a).1 = 5) (ht : ∀ j, j < (qm_kd a).2 → (qm_kd (qm_rf a j)).1 = t) (h : ∀ x, (qm_kd x).1 = t → qm_B X (g x) pc' ρ (.ref (qx_ad X x) :: st) κ) : qm_B X (mB (mLr a i) g) pc ρ (.int i :: .ref (qx_ad X a) :: st) κ := by
  cases qk_n hX hd
  intro σ r σ' h1 h2 H locs ls hH hS hL
  obtain ⟨x, σ1, e1, e2⟩ := mB_some h1
  unfold mLr at e1
  split at e1
  · rename_i hi
    cases e1
    have hc := hH.arrR ha
    have hin := qm_in_iff hi
    have hlt : i.toNatClampNeg < (qm_kd a).2 := Nat.not_le.mp fun q => hin (Or.inr q)
    have kk := h _ (ht _ hlt) σ r σ' e2 h2 H locs ls hH hS hL
    have hK := qk_K hX
    rcases ha with ha | ha
    · rw [ha] at hc
      exact W.aald (v := va_rf (some (qx_ad X (qm_rf a i.toNatClampNeg)))) (ty := .array .int) (qk_ex hX) (qk_by hX) hc ((hK.2 3 _ rfl).1 _ (fun j => va_rf (some ((qx_G X).1 (qm_rf a j))))) rfl (fun q => by cases q) (by show ¬ (i < 0 ∨ (arrV _ _ _).slots.size ≤ _); rw [arrV_size]; exact hin) (by show (arrV _ _ _).slots[_]? = _; rw [arrV_read _ _ hlt]) rfl rfl (qk_d hX hd) kk
    · rw [ha] at hc
      exact W.aald (v := va_rf (some (qx_ad X (qm_rf a i.toNatClampNeg)))) (ty := .object "ColumnsLevelled$Run") (qk_ex hX) (qk_by hX) hc ((hK.2 4 _ rfl).1 _ (fun j => va_rf (some ((qx_G X).1 (qm_rf a j))))) rfl (fun q => by cases q) (by show ¬ (i < 0 ∨ (arrV _ _ _).slots.size ≤ _); rw [arrV_size]; exact hin) (by show (arrV _ _ _).slots[_]? = _; rw [arrV_read _ _ hlt]) rfl rfl (qk_d hX hd) kk
  · cases e1
theorem qm_H.putA {G : qm_G} {σ : qm_Mem} {H H1 : Heap} {a k t : Nat} {x : Int32} (hG : qm_GI G) (h : qm_H G σ H) (ha : a < qm_N) (hk : (qm_kd a).1 = t) (ht : t = 1 ∨ t = 2 ∨ t = 3) (e : H1[G.1 a]? = some ((arrV (G.2.2 t) (qm_kd a).2 (fun j => .int (σ a j))).setSlot k (.int x))) (ho : ∀ q : Nat, q ≠ G.1 a → H1[q]? = H[q]?) : qm_H G (qm_u σ a k x) H1 := by
  refine h.put hG ha (fun e1 h1 => ?_) ho
  unfold qm_E at h1
  rw [if_pos ⟨by rw [hk]; exact ht, ha⟩] at h1
  cases h1
  show H1[G.1 a]? = some (vp_cell _ _)
  rw [e, hk, vp_cell_i, arrV_store, qm_u_self]
  congr 2
  funext q
  by_cases hq : q = k
  · subst hq
    simp [updV, upd]
  · simp [updV, upd, hq]
theorem qb_iast (hX : qm_ok X own cc nL f lo il) (k : Nat) {a : Nat} {i x : Int32} {g : Unit → qm_M α} (hd : qm_nth il k = some (pc, .iastore, 1, pc')) (ha : (qm_kd a).1 = 1) (h : qm_B X (g ()) pc' ρ st κ) : qm_B X (mB (mSt a i x) g) pc ρ (.int x :: .int i :: .ref (qx_ad X a) :: st) κ := by
  cases qk_n hX hd
  intro σ r σ' h1 h2 H locs ls hH hS hL
  obtain ⟨u, σ1, e1, e2⟩ := mB_some h1
  unfold mSt at e1
  split at e1
  · rename_i hi
    cases e1
    have hw := qm_ow_iff hi.2
    have hc := hH.arr (Or.inl ha) hw
    rw [ha] at hc
    refine W.iast (qk_ex hX) (qk_by hX) hc ((((qk_K hX).2 0 _ rfl).1 (qm_kd a).2 (fun j => .int (σ a j)))) (fun q => by cases q) (by show ¬ (i < 0 ∨ (arrV _ _ _).slots.size ≤ _); rw [arrV_size]; exact qm_in_iff hi.1) rfl rfl (qk_d hX hd) fun H1 e z oq => ?_
    exact h _ r σ' e2 h2 H1 _ ls (hH.putA (qk_GI hX) hw ha (Or.inl rfl) e oq) (hS.put z oq ((qk_A hX).1 a hw)) hL
  · cases e1
theorem qb_zast (hX : qm_ok X own cc nL f lo il) (k : Nat) {a : Nat} {i x : Int32} {g : Unit → qm_M α} (hd : qm_nth il k = some (pc, .bastore, 1, pc')) (ha : (qm_kd a).1 = 2) (h : qm_B X (g ()) pc' ρ st κ) : qm_B X (mB (mSz a i x) g) pc ρ (.int x :: .int i :: .ref (qx_ad X a) :: st) κ := by
  cases qk_n hX hd
  intro σ r σ' h1 h2 H locs ls hH hS hL
  obtain ⟨u, σ1, e1, e2⟩ := mB_some h1
  unfold mSz at e1
  split at e1
  · rename_i hi
    cases e1
    have hc := hH.arr (Or.inr (Or.inl ha)) (qm_low (Or.inl ha))
    rw [ha] at hc
    have hw := qm_ow_iff hi.1.2
    refine W.zast (qk_ex hX) (qk_by hX) hc ((((qk_K hX).2 1 _ rfl).1 (qm_kd a).2 (fun j => .int (σ a j)))) (fun q => by cases q) (by show ¬ (i < 0 ∨ (arrV _ _ _).slots.size ≤ _); rw [arrV_size]; exact qm_in_iff hi.1.1) rfl rfl (qk_d hX hd) fun H1 e z oq => ?_
    have hn : narrow .boolean (.int x) = .int x := by
      rcases hi.2 with q | q
      · rw [q]; rfl
      · rw [q]; rfl
    rw [hn] at e
    exact h _ r σ' e2 h2 H1 _ ls (hH.putA (qk_GI hX) hw ha (Or.inr (Or.inl rfl)) e oq) (hS.put z oq ((qk_A hX).1 a hw)) hL
  · cases e1
theorem qb_bast (hX : qm_ok X own cc nL f lo il) (k : Nat) {a : Nat} {i x : Int32} {g : Unit → qm_M α} (hd : qm_nth il k = some (pc, .bastore, 1, pc')) (ha : (qm_kd a).1 = 3) (h : qm_B X (g ()) pc' ρ st κ) : qm_B X (mB (mSb a i x) g) pc ρ (.int x :: .int i :: .ref (qx_ad X a) :: st) κ := by
  cases qk_n hX hd
  intro σ r σ' h1 h2 H locs ls hH hS hL
  obtain ⟨u, σ1, e1, e2⟩ := mB_some h1
  unfold mSb at e1
  split at e1
  · rename_i hi
    cases e1
    have hc := hH.arr (Or.inr (Or.inr ha)) (qm_low (Or.inr ha))
    rw [ha] at hc
    have hw := qm_ow_iff hi.2
    refine W.bast (qk_ex hX) (qk_by hX) hc ((((qk_K hX).2 2 _ rfl).1 (qm_kd a).2 (fun j => .int (σ a j)))) (fun q => by cases q) (by show ¬ (i < 0 ∨ (arrV _ _ _).slots.size ≤ _); rw [arrV_size]; exact qm_in_iff hi.1) rfl rfl (qk_d hX hd) fun H1 e z oq => ?_
    have hn : narrow .byte (.int x) = .int x.toInt8.toInt32 := rfl
    rw [hn] at e
    exact h _ r σ' e2 h2 H1 _ ls (hH.putA (qk_GI hX) hw ha (Or.inr (Or.inr rfl)) e oq) (hS.put z oq ((qk_A hX).1 a hw)) hL
  · cases e1
end QC
