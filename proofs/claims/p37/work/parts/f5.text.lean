/-! ===== texts: built, read ===== -/
theorem ybShr_0 {x : Int} (h : iR x) : ybShr x 0 = x := by
  unfold ybShr
  rw [show (Int32.ofInt 0 &&& 31) = 0 by decide, Int32.shiftRight_zero]
  exact yi_toInt h
theorem ybShl_0 {x : Int} (h : iR x) : ybShl x 0 = x := by
  unfold ybShl
  rw [show (Int32.ofInt 0 &&& 31) = 0 by decide, Int32.shiftLeft_zero]
  exact yi_toInt h
theorem i8_small {x : Int} (h : 0 ≤ x ∧ x ≤ 127) : i8 x = x := by
  have : ∀ n : Nat, n ≤ 127 → i8 (n : Int) = n := by decide +kernel
  obtain ⟨n, rfl⟩ := Int.eq_ofNat_of_zero_le h.1
  exact this n (by omega)
theorem ybB_small {x : Int} (h : 0 ≤ x ∧ x ≤ 127) : ybB x = x := by
  have : ∀ n : Nat, n ≤ 127 → ybB (n : Int) = n := by decide +kernel
  obtain ⟨n, rfl⟩ := Int.eq_ofNat_of_zero_le h.1
  exact this n (by omega)
theorem ybC_small {x : Int} (h : 0 ≤ x ∧ x ≤ 127) : ybC (ybAnd x 255) = x := by
  have : ∀ n : Nat, n ≤ 127 → ybC (ybAnd (n : Int) 255) = n := by decide +kernel
  obtain ⟨n, rfl⟩ := Int.eq_ofNat_of_zero_le h.1
  exact this n (by omega)
def yLe (l : List Int) : Prop := ∀ x ∈ l, 0 ≤ x ∧ x ≤ 127
/-- the letters of a row -/
def yRo (w : yW) (v : Nat) (l : List Int) : Prop := ∀ i : Nat, i < l.length → w_iv w v (i : Int) = l.getD i 0
/-- a text at q: its letters in the row at v -/
def yTx (w : yW) (q v : Nat) (l : List Int) : Prop := ((w_kd w q).1 = 22 ∨ (w_kd w q).1 = 36) ∧ w_iv w q 1 = 0 ∧ w_rv w q 0 = some v ∧ (w_kd w v = (3, l.length) ∨ w_kd w v = (33, l.length)) ∧ l.length ≤ 100000 ∧ yRo w v l ∧ yLe l
/-- a text under way -/
def yBu (w : yW) (p v : Nat) (l : List Int) : Prop := w_kd w p = (21, 0) ∧ w_rv w p 0 = some v ∧ w_kd w v = (3, 400) ∧ w_iv w p 1 = 0 ∧ w_iv w p 3 = (l.length : Int) ∧ l.length ≤ 400 ∧ yRo w v l ∧ yLe l
theorem yLe_at {l : List Int} (h : yLe l) (i : Nat) : 0 ≤ l.getD i 0 ∧ l.getD i 0 ≤ 127 := by
  rw [List.getD_eq_getElem?_getD]
  cases e : l[i]? with
  | none => exact ⟨by decide, by decide⟩
  | some x => exact h x (List.mem_of_getElem? e)
theorem yLe_app {l l' : List Int} (h : yLe l) (h' : yLe l') : yLe (l ++ l') := fun x hx => (List.mem_append.mp hx).elim (h x) (h' x)
section
variable {Y : yY} {w : yW} {p q v v' : Nat} {l l' : List Int}
theorem tx_coder {Q : Int → yW → Prop} (h : yTx w q v l) (k : Q 0 w) : yp (kf_String_coder Y (some q)) Q w := by
  unfold kf_String_coder
  exact yb_R (by decide) (yp_ifF (by decide) (yb_gtS h.1 h.2.1 (yb_Nw ⟨by decide, by decide⟩ (yp_P k))))
theorem tx_isLatin1 {Q : Int → yW → Prop} (h : yTx w q v l) (k : Q 1 w) : yp (kf_String_isLatin1 Y (some q)) Q w := by
  unfold kf_String_isLatin1
  exact yb_R (by decide) (yp_ifF (by decide) (yb_gtS h.1 h.2.1 (yb_R (by decide) (yp_ifF (fun z => z rfl) (yb_Nw ⟨by decide, by decide⟩ (yp_P k))))))
theorem tx_ln {β : Type} {Q : β → yW → Prop} {f : Int → yM β} (h : yTx w q v l) (k : yp (f (l.length : Int)) Q w) : yp (yB (yLn (some v)) f) Q w := by
  rcases h.2.2.2.1 with e | e
  · exact yb_ln e (Or.inr (Or.inl rfl)) k
  · exact yb_ln e (by simp) k
theorem tx_length {Q : Int → yW → Prop} (h : yTx w q v l) (k : Q (l.length : Int) w) : yp (kf_String_length Y (some q)) Q w := by
  unfold kf_String_length
  refine yb_grS h.1 h.2.2.1 (tx_ln h (yb_Kr (h.1.imp id (fun e => ⟨rfl, e⟩)) (tx_coder h ⟨⟨Nat.le_refl _, Nat.le_refl _⟩, yp_P ?_⟩)))
  rw [ybShr_0 (iR_small ⟨by omega, by have := h.2.2.2.2.1; omega⟩)]
  exact k
theorem tx_charAt {Q : Int → yW → Prop} {i : Int} (h : yTx w q v l) (hi : 0 ≤ i ∧ i < (l.length : Int)) (k : Q (l.getD i.toNat 0) w) : yp (kf_String_charAt Y (some q) i) Q w := by
  have hl := h.2.2.2.2.1
  have hv := yLe_at h.2.2.2.2.2.2 i.toNat
  have hr : w_iv w v i = l.getD i.toNat 0 := by
    have := h.2.2.2.2.2.1 i.toNat (by omega)
    rwa [show ((i.toNat : Nat) : Int) = i by omega] at this
  unfold kf_String_charAt
  refine yb_Kr (h.1.imp id (fun e => ⟨rfl, e⟩)) (tx_isLatin1 h ⟨⟨Nat.le_refl _, Nat.le_refl _⟩, yb_R (by decide) (yp_ifF (by decide) (yb_grS h.1 h.2.2.1 (yb_K ?_)))⟩)
  unfold kf_Latin1_charAt
  refine tx_ln h (yb_C (fun z hz => ?_) ?_)
  · simp only [List.mem_cons, List.not_mem_nil, or_false] at hz
    rcases hz with rfl | rfl
    · exact iR_small ⟨by omega, by omega⟩
    · exact iR_small ⟨by omega, by omega⟩
  · unfold iz_String_checkIndex
    refine (ip_ifF (by omega)).mpr ((ip_ifT (by omega)).mpr (ip_P.mpr ?_))
    have fin : yp (yB (yNw 255 (ybC (ybAnd (l.getD i.toNat 0) (255 : Int)))) fun _ => yP (ybC (ybAnd (l.getD i.toNat 0) (255 : Int)))) (fun a w1 => (w_sz w ≤ w_sz w1 ∧ w_sl w ≤ w_sl w1) ∧ yp (yB (yNw 255 a) fun _ => yP a) Q w1) w := by
      rw [ybC_small hv]
      exact yb_Nw ⟨hv.1, by omega⟩ (yp_P ⟨⟨Nat.le_refl _, Nat.le_refl _⟩, yb_Nw ⟨hv.1, by omega⟩ (yp_P k)⟩)
    rcases h.2.2.2.1 with e | e
    · exact yb_ld e hi hl hr fin
    · exact yb_ldR e hi hl hr fin
theorem bu_latin {Q : Int → yW → Prop} (h : yBu w p v l) (k : Q 1 w) : yp (kf_ASB_isLatin1 Y (some p)) Q w := by
  unfold kf_ASB_isLatin1
  exact yb_R (by decide) (yp_ifF (by decide) (yb_gt h.1 h.2.2.2.1 (yb_R (by decide) (yp_ifF (fun z => z rfl) (yb_Nw ⟨by decide, by decide⟩ (yp_P k))))))
theorem bu_cap {Q : Unit → yW → Prop} {n : Int} (h : yBu w p v l) (hn : 0 ≤ n ∧ n ≤ 400) (k : Q () w) : yp (kf_ASB_ensureCapacityInternal Y (some p) n) Q w := by
  unfold kf_ASB_ensureCapacityInternal
  refine yb_gr h.1 h.2.1 (yb_ln h.2.2.1 (Or.inr (Or.inl rfl)) (yb_gt h.1 h.2.2.2.1 (yb_P ?_)))
  rw [show ybShr ((400 : Nat) : Int) 0 = 400 from ybShr_0 (by decide)]
  exact yb_R (iR_small ⟨by omega, by omega⟩) (yp_ifT (by omega) (yp_P k))
/-- letters put behind the letters -/
theorem yRo_app {iv : Nat → Int → Int} {n : Nat} (h1 : ∀ i : Nat, i < l.length → iv n (i : Int) = l.getD i 0) (h2 : ∀ i : Nat, i < l'.length → iv n ((l.length : Int) + (i : Int)) = l'.getD i 0) : ∀ i : Nat, i < (l ++ l').length → iv n (i : Int) = (l ++ l').getD i 0 := by
  intro i hi
  rw [List.length_append] at hi
  by_cases c : i < l.length
  · rw [h1 i c, List.getD_eq_getElem?_getD, List.getD_eq_getElem?_getD, List.getElem?_append_left c]
  · have := h2 (i - l.length) (by omega)
    rw [show (l.length : Int) + ((i - l.length : Nat) : Int) = (i : Int) by omega] at this
    rw [this, List.getD_eq_getElem?_getD, List.getD_eq_getElem?_getD, List.getElem?_append_right (by omega)]
theorem bu_str {Q : Option Nat → yW → Prop} (h : yBu w p v l) (hq : yTx w q v' l') (h33 : w_kd w v' = (33, l'.length)) (hn : l.length + l'.length ≤ 400) (k : ∀ w1, yG (fun x => x = p ∨ x = v) 0 0 w w1 → yBu w1 p v (l ++ l') → Q (some p) w1) : yp (kf_SB_append_15ec4 Y (some p) (some q)) Q w := by
  have rf : w_sz w ≤ w_sz w ∧ w_sl w ≤ w_sl w := ⟨Nat.le_refl _, Nat.le_refl _⟩
  obtain ⟨h1, h2, h3, h4, h5, h6, h7, h8⟩ := h
  have hb : yBu w p v l := ⟨h1, h2, h3, h4, h5, h6, h7, h8⟩
  have nv : v' ≠ v := fun e => by rw [e, h3] at h33; cases h33
  have np : p ≠ v := fun e => by rw [e, h3] at h1; cases h1
  unfold kf_SB_append_15ec4
  refine yb_Kr (Or.inl (by rw [h1])) ?_
  unfold kf_ASB_append_cf1ce
  refine yp_ifT (fun e => by cases e) (yb_Kr (hq.1.imp id (fun e => ⟨rfl, e⟩)) (tx_length hq ⟨rf, yb_P (yb_gt h1 h5 (yb_Kr (Or.inl (by rw [h1])) (bu_cap hb ⟨by omega, by omega⟩ ⟨rf, yb_gt h1 h5 (yb_Kr (Or.inl (by rw [h1])) ?_)⟩)))⟩))
  unfold kf_ASB_putStringAt
  refine yb_Kr (Or.inl (by rw [h1])) ?_
  unfold kf_ASB_inflateIfNeededFor
  refine yb_R (by decide) (yp_ifF (by decide) (yb_gt h1 h4 (yb_Kr (hq.1.imp id (fun e => ⟨rfl, e⟩)) (tx_coder hq ⟨rf, yb_R2 ⟨by decide, by decide⟩ (yp_ifT rfl (yp_P ⟨rf, yb_gr h1 h2 (yb_gt h1 h4 (yb_Kr (hq.1.imp id (fun e => ⟨rfl, e⟩)) ?_))⟩))⟩))))
  unfold kf_String_getBytes
  refine yb_Kr (hq.1.imp id (fun e => ⟨rfl, e⟩)) (tx_coder hq ⟨rf, yb_R2 ⟨by decide, by decide⟩ (yp_ifF (fun z => z rfl) (yb_grS hq.1 hq.2.2.1 (yb_grS hq.1 hq.2.2.1 (tx_ln hq ?_))))⟩)
  rw [ybShl_0 (iR_small ⟨by omega, by omega⟩)]
  refine yb_cp (Or.inr h33) h3 nv ⟨by decide, by omega, by omega⟩ ⟨by omega, by omega⟩ ⟨by omega, by decide⟩ (fun _ i i0 i1 => ?_) (yp_P ⟨rf, yp_P ⟨rf, ?_⟩⟩)
  · have e := hq.2.2.2.2.2.1 i.toNat (by omega)
    rw [show ((i.toNat : Nat) : Int) = i by omega] at e
    rw [Int.zero_add, e]
    have := yLe_at hq.2.2.2.2.2.2 i.toNat
    omega
  · have cp : ∀ x, x ≠ v → ycpy (w_iv w) v' v 0 (l.length : Int) (l'.length : Int) x = w_iv w x := fun x hx => funext fun _ => if_neg (fun e => hx e.1)
    refine yb_gt h1 (v := (l.length : Int)) ?_ (yb_pt h1 (yb_Nn (yp_P ⟨rf, yb_Nn (yp_P (k _ ?_ ⟨h1, h2, h3, ?_, ?_, ?_, ?_, yLe_app h8 hq.2.2.2.2.2.2⟩))⟩)))
    · show ycpy _ _ _ _ _ _ p 3 = _
      rw [cp p np]; exact h5
    · refine (yG.refl.iv (fun x _ h2 => cp x (fun e => h2.elim (fun z => z (Or.inr e)) (fun z => by rw [e, h3] at z; unfold ym at z; simp at z)))).st (Or.inr ⟨Or.inl rfl, by rw [h1]; unfold ym; simp⟩)
    · show iu (ycpy _ _ _ _ _ _) p 3 _ p 1 = 0
      rw [yu_n (by decide), cp p np]; exact h4
    · show iu (ycpy _ _ _ _ _ _) p 3 _ p 3 = _
      rw [yu_s, List.length_append]; omega
    · rw [List.length_append]; exact hn
    · refine yRo_app (fun i hi => ?_) (fun i hi => ?_)
      · show iu (ycpy _ _ _ _ _ _) p 3 _ v i = _
        rw [yu_at (Ne.symm np)]
        show (if v = v ∧ (l.length : Int) ≤ (i : Int) ∧ (i : Int) < (l.length : Int) + (l'.length : Int) then _ else w_iv w v i) = _
        rw [if_neg (by omega)]; exact h7 i hi
      · show iu (ycpy _ _ _ _ _ _) p 3 _ v _ = _
        rw [yu_at (Ne.symm np)]
        show (if v = v ∧ (l.length : Int) ≤ (l.length : Int) + (i : Int) ∧ (l.length : Int) + (i : Int) < (l.length : Int) + (l'.length : Int) then w_iv w v' (0 + ((l.length : Int) + (i : Int) - (l.length : Int))) else _) = _
        rw [if_pos ⟨rfl, by omega, by omega⟩, show (0 : Int) + ((l.length : Int) + (i : Int) - (l.length : Int)) = (i : Int) by omega]
        exact hq.2.2.2.2.2.1 i hi
theorem bu_chr {Q : Option Nat → yW → Prop} {x : Int} (h : yBu w p v l) (hx : 0 ≤ x ∧ x ≤ 127) (hn : l.length + 1 ≤ 400) (k : ∀ w1, yG (fun x => x = p ∨ x = v) 0 0 w w1 → yBu w1 p v (l ++ [x]) → Q (some p) w1) : yp (kf_SB_append_cf468 Y (some p) x) Q w := by
  have rf : w_sz w ≤ w_sz w ∧ w_sl w ≤ w_sl w := ⟨Nat.le_refl _, Nat.le_refl _⟩
  obtain ⟨h1, h2, h3, h4, h5, h6, h7, h8⟩ := h
  have hb : yBu w p v l := ⟨h1, h2, h3, h4, h5, h6, h7, h8⟩
  have np : p ≠ v := fun e => by rw [e, h3] at h1; cases h1
  unfold kf_SB_append_cf468
  refine yb_Kr (Or.inl (by rw [h1])) ?_
  unfold kf_ASB_append_3fe6f
  refine yb_gt h1 h5 (yb_Kr (Or.inl (by rw [h1])) (bu_cap hb ⟨by omega, by omega⟩ ⟨rf, yb_Kr (Or.inl (by rw [h1])) (bu_latin hb ⟨rf, ?_⟩)⟩))
  refine yp_bind (R := fun r w1 => r = Sum.inr (some p) ∧ yG (fun x => x = p ∨ x = v) 0 0 w w1 ∧ yBu w1 p v (l ++ [x])) ?_ (fun r w1 hr => ?_)
  · refine yb_R (by decide) (yp_ifF (by decide) (yb_K ?_))
    unfold kf_Latin1_canEncode
    refine yb_R2 ⟨iR_small ⟨by omega, by omega⟩, by decide⟩ (yp_ifF (by omega) (yb_Nw ⟨by decide, by decide⟩ (yp_P ⟨rf, yb_R (by decide) (yp_ifF (by decide) (yb_gr h1 h2 (yb_gt h1 h5 (yb_pt h1 (yb_sb h3 ⟨by omega, by omega⟩ (by decide) (yb_Nn (yp_P ⟨rfl, ?_, h1, h2, h3, ?_, ?_, ?_, ?_, ?_⟩)))))))⟩)))
    · exact (yG.refl.st (Or.inr ⟨Or.inl rfl, by rw [h1]; unfold ym; simp⟩)).st (Or.inr ⟨Or.inr rfl, by rw [h3]; unfold ym; simp⟩)
    · show iu (iu _ _ _ _) v _ _ p 1 = 0
      rw [yu_at np, yu_n (by decide)]; exact h4
    · show iu (iu _ _ _ _) v _ _ p 3 = _
      rw [yu_at np, yu_s, List.length_append]; simp
    · rw [List.length_append]; simpa using hn
    · refine yRo_app (fun i hi => ?_) (fun i hi => ?_)
      · show iu (iu _ _ _ _) v _ _ v i = _
        rw [yu_n (by omega), yu_at (Ne.symm np)]; exact h7 i hi
      · have : i = 0 := by simpa using hi
        subst this
        show iu (iu _ _ _ _) v _ _ v _ = _
        rw [show (l.length : Int) + ((0 : Nat) : Int) = (l.length : Int) by omega, yu_s, ybB_small hx, i8_small hx]
        rfl
    · exact yLe_app h8 (fun z hz => by simp only [List.mem_cons, List.not_mem_nil, or_false] at hz; rw [hz]; exact hx)
  · obtain ⟨rfl, h9, h10⟩ := hr
    exact yp_P ⟨⟨h9.2.1.1, h9.2.2.1.1⟩, yb_Nn (yp_P (k _ h9 h10))⟩
end
