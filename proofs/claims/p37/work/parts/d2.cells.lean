/-! ===== the law's cells: read, written, made ===== -/
theorem y_fs_at {w : yW} {t p k : Nat} (h : k < qm_nf t) : (y_fs w t p)[k]? = some (if qm_ft t k = true then va_rf (w_rv w p (k : Int)) else yi (w_iv w p (k : Int))) := by
  unfold y_fs
  rw [List.getElem?_map, List.getElem?_range h]
  rfl
theorem y_fs_len {w : yW} {t p : Nat} : (y_fs w t p).length = qm_nf t := by
  unfold y_fs
  rw [List.length_map, List.length_range]
theorem y_fs_V {w : yW} {t p k : Nat} (h : k < qm_nf t) : vp_V (y_fs w t p) k = if qm_ft t k = true then va_rf (w_rv w p (k : Int)) else yi (w_iv w p (k : Int)) := by
  unfold vp_V
  rw [List.getD_eq_getElem?_getD, y_fs_at h]
  rfl
theorem yH.arr {G : qm_G} {w : yW} {H : Heap} (h : yH G w H) {p : Nat} (ht : (w_kd w p).1 = 1 ∨ (w_kd w p).1 = 3) : H[p]? = some (vp_cell (G.2.2 (w_kd w p).1) ((w_kd w p).2, .inl (fun j => Int32.ofInt (w_iv w p (j : Int))))) :=
  h.2 p (.inl (G.2.2 (w_kd w p).1, (w_kd w p).2, .inl (fun j => Int32.ofInt (w_iv w p (j : Int))))) (by unfold yE; rw [if_pos ht])
theorem yH.arrR {G : qm_G} {w : yW} {H : Heap} (h : yH G w H) {p : Nat} (ht : (w_kd w p).1 = 4 ∨ (w_kd w p).1 = 7) : H[p]? = some (vp_cell (G.2.2 (w_kd w p).1) ((w_kd w p).2, .inr (.inr (.inr (.inr (fun j => w_rv w p (j : Int))))))) :=
  h.2 p (.inl (G.2.2 (w_kd w p).1, (w_kd w p).2, .inr (.inr (.inr (.inr (fun j => w_rv w p (j : Int))))))) (by unfold yE; rw [if_neg (by omega), if_pos ht])
theorem yH.obj {G : qm_G} {w : yW} {H : Heap} (h : yH G w H) {p t : Nat} (ht : (w_kd w p).1 = 10 + t) (h9 : 9 ≤ t ∧ t ≤ 12) : va_at G.2.1 qm_cl (p, .inr (t, y_fs w t p)) H := by
  refine h.2 p (.inr (t, y_fs w t p)) ?_
  unfold yE
  rw [if_neg (by omega), if_neg (by omega), if_pos (by omega), ht, Nat.add_sub_cancel_left]
theorem va_one {D : va_G} {cl : List vw_C} {q : Nat × va_E} {H : Heap} (h : va_at D cl q H) : va_P D cl [q] H := by
  intro k x hk
  cases k with
  | succ k => simp at hk
  | zero => cases hk; exact h
theorem yE_own {G : qm_G} {w : yW} {p : Nat} {e : va_E} (h : yE G w p = some e) : (w_kd w p).1 = 1 ∨ (w_kd w p).1 = 3 ∨ (w_kd w p).1 = 4 ∨ (w_kd w p).1 = 7 ∨ (19 ≤ (w_kd w p).1 ∧ (w_kd w p).1 ≤ 22) := by
  unfold yE at h
  by_cases h1 : (w_kd w p).1 = 1 ∨ (w_kd w p).1 = 3
  · omega
  · by_cases h2 : (w_kd w p).1 = 4 ∨ (w_kd w p).1 = 7
    · omega
    · by_cases h3 : 19 ≤ (w_kd w p).1 ∧ (w_kd w p).1 ≤ 22
      · omega
      · rw [if_neg h1, if_neg h2, if_neg h3] at h; cases h
theorem qm_E_lt {G : qm_G} {σ : qm_Mem} {i : Nat} {e : va_E} (h : qm_E G σ i = some e) : i < qm_N := by
  have hk : ∀ a, a < 500 → ((qm_kd a).1 = 4 ∨ (qm_kd a).1 = 5) → a < qm_N := by decide +kernel
  unfold qm_E at h
  by_cases h1 : ((qm_kd i).1 = 1 ∨ (qm_kd i).1 = 2 ∨ (qm_kd i).1 = 3) ∧ i < qm_N
  · exact h1.2
  · by_cases h2 : (qm_kd i).1 = 4 ∨ (qm_kd i).1 = 5
    · refine hk i ?_ h2
      rcases h2 with q | q
      · exact qm_near (by decide) q
      · exact qm_near (by decide) q
    · by_cases h3 : 10 ≤ (qm_kd i).1
      · exact qm_own i h3
      · rw [if_neg h1, if_neg h2, if_neg h3] at h; cases h
/-- the object's cells stand where the law writes -/
theorem yQ.kept {G : qm_G} {κ : iMem} {H H1 : Heap} (h : yQ G κ H) (ho : ∀ i, i < qm_N → H1[G.1 i]? = H[G.1 i]?) : yQ G κ H1 := by
  obtain ⟨σ, h1, h2, h3⟩ := h
  exact ⟨σ, h1, fun i e he => (h2 i e he).kept (ho i (qm_E_lt he)), h3⟩
section YC
variable {X : qm_X} {Y : yY} {Fn : yFn} {own : String} {cc : ByteArray} {nL f lo : Nat} {il : List qm_I} {w : yW} {H : Heap} {locs : List Loc}
/-- what is not read alone stands behind the object -/
theorem yV.up (hX : y_ok X Y Fn own cc nL f lo il) (hV : yV X Y Fn w H locs) {p : Nat} (h1 : (w_kd w p).1 ≠ 0) (h2 : (w_kd w p).1 < 30) : Y.1 + 367 ≤ p := by
  rcases Nat.lt_or_ge p Y.1 with q | q
  · have e := (hV.1.1.2.1 p q).1
    have := (yk_Z hX).1 p
    rw [← e] at this
    omega
  · exact hV.1.1.2.2.2.1 p q h1
theorem yV.ro (hV : yV X Y Fn w H locs) {p : Nat} (h2 : 30 ≤ (w_kd w p).1) : w_kd w p = Y.2.1 p ∧ w_iv w p = Y.2.2.1 p ∧ w_rv w p = Y.2.2.2.1 p := by
  rcases Nat.lt_or_ge p Y.1 with q | q
  · exact hV.1.1.2.1 p q
  · have := hV.1.1.2.2.1 p q
    omega
theorem y_cl (hX : y_ok X Y Fn own cc nL f lo il) {p i : Nat} (hp : Y.1 + 367 ≤ p) (hi : i < qm_N) : (qx_G X).1 i ≠ p := by
  have := (yk_G hX).2 i hi
  omega
/-- how large the heap is -/
theorem yq_sz (hV : yV X Y Fn w H locs) {sl : Nat} {g : JFrame} (h : H.size = w_sz w → yq X H locs (w_sz w - (qx_s X).heap.size) sl g) : yq X H locs (w_sz w - (qx_s X).heap.size) sl g := by
  intro T hT Z
  have hz := Z.heapSize
  have h1 := hV.2.2.1.1
  have h2 := hV.1.2.1
  exact h (by rw [← hT] at h1 ⊢; omega) T hT Z
/-- a cell is written -/
theorem yV.put (hX : y_ok X Y Fn own cc nL f lo il) (hV : yV X Y Fn w H locs) {w' : yW} {H1 : Heap} {p k : Nat} (hk0 : (w_kd w p).1 ≠ 0) (hk1 : (w_kd w p).1 < 30)
    (hw : w'.1 = w.1 ∧ w_sz w' = w_sz w ∧ w_sl w' = w_sl w ∧ w_kd w' = w_kd w) (hi : ∀ q, q ≠ p → w_iv w' q = w_iv w q) (hr : ∀ q, q ≠ p → w_rv w' q = w_rv w q)
    (hs : ∀ e, yE (qx_G X) w' p = some e → va_at (qx_G X).2.1 qm_cl (p, e) H1) (z : H1.size = H.size) (oq : ∀ q : Nat, q ≠ p → H1[q]? = H[q]?) : yV X Y Fn w' H1 (locs ++ [⟨p, k⟩]) := by
  have hp := hV.up hX hk0 hk1
  obtain ⟨⟨⟨i1, i2, i3, i4, i5⟩, b1, b2⟩, hQ, ⟨s1, s2⟩, hS⟩ := hV
  obtain ⟨e1, e2, e3, e4⟩ := hw
  refine ⟨⟨⟨fun q hq => by rw [e2]; exact i1 q (by rw [← e4]; exact hq), fun q hq => ?_, fun q hq => by rw [e4]; exact i3 q hq, fun q hq hn => i4 q hq (by rw [← e4]; exact hn), by rw [e2]; exact i5⟩, by rw [e2]; exact b1, by rw [e3]; exact b2⟩, ?_, ⟨by rw [e2, z]; exact s1, fun q e he => ?_⟩, hS.put z oq (by show Y.1 ≤ p; omega)⟩
  · have hne : q ≠ p := by omega
    rw [e4, hi q hne, hr q hne]
    exact i2 q hq
  · rw [e1]
    exact hQ.kept (fun i hi => oq _ (y_cl hX hp hi))
  · by_cases hqp : q = p
    · subst hqp; exact hs e he
    · have he' : yE (qx_G X) w q = some e := by
        rw [← he]
        unfold yE y_fs
        rw [e4, hi q hqp, hr q hqp]
      exact (s2 q e he').kept (oq q hqp)
/-- a cell is made -/
theorem yV.new (hX : y_ok X Y Fn own cc nL f lo il) (hV : yV X Y Fn w H locs) {H1 : Heap} {kd : Nat × Nat} {n : Nat} {row : Int → Int} (h0 : kd.1 ≠ 0) (h30 : kd.1 < 30) (hz : H.size = w_sz w)
    (hs : ∀ e, yE (qx_G X) (ynew w kd n row) (w_sz w) = some e → va_at (qx_G X).2.1 qm_cl (w_sz w, e) H1) (z : H1.size = w_sz w + 1) (oq : ∀ q : Nat, q < w_sz w → H1[q]? = H[q]?) : yV X Y Fn (ynew w kd n row) H1 locs := by
  obtain ⟨⟨⟨i1, i2, i3, i4, i5⟩, b1, b2⟩, hQ, ⟨s1, s2⟩, hS⟩ := hV
  have kde : ∀ q, w_kd (ynew w kd n row) q = if q = w_sz w then kd else w_kd w q := fun q => rfl
  have ive : ∀ q, q ≠ w_sz w → w_iv (ynew w kd n row) q = w_iv w q := fun q hq => by
    funext j
    show (if q = w_sz w then row j else w_iv w q j) = _
    rw [if_neg hq]
  have rve : ∀ q, q ≠ w_sz w → w_rv (ynew w kd n row) q = w_rv w q := fun q hq => by
    funext j
    show (if q = w_sz w then none else w_rv w q j) = _
    rw [if_neg hq]
  refine ⟨⟨⟨fun q hq => ?_, fun q hq => ?_, fun q hq => ?_, fun q hq hn => ?_, ?_⟩, ?_, ?_⟩, ?_, ⟨?_, fun q e he => ?_⟩, ?_⟩
  · show q < w_sz w + 1
    rw [kde] at hq
    by_cases e : q = w_sz w
    · omega
    · rw [if_neg e] at hq
      have := i1 q hq
      omega
  · have hne : q ≠ w_sz w := by omega
    rw [kde, if_neg hne, ive q hne, rve q hne]
    exact i2 q hq
  · rw [kde]
    by_cases e : q = w_sz w
    · rw [if_pos e]; exact h30
    · rw [if_neg e]; exact i3 q hq
  · rw [kde] at hn
    by_cases e : q = w_sz w
    · omega
    · rw [if_neg e] at hn; exact i4 q hq hn
  · show Y.1 + 367 ≤ w_sz w + 1
    omega
  · show _ ≤ w_sz w + 1
    omega
  · show _ ≤ w_sl w + n
    omega
  · exact hQ.kept (fun i hi => oq _ (by have := (yk_G hX).2 i hi; omega))
  · show w_sz w + 1 ≤ _
    omega
  · by_cases hqp : q = w_sz w
    · subst hqp; exact hs e he
    · have he' : yE (qx_G X) w q = some e := by
        rw [← he]
        unfold yE y_fs
        rw [kde, if_neg hqp, ive q hqp, rve q hqp]
      have hq : q < w_sz w := i1 q (by have := yE_own he'; omega)
      exact (s2 q e he').kept (oq q hq)
  · have hsz : (qx_s X).heap.size ≤ w_sz w := b1
    exact ⟨by omega, fun q h1 h2 => (oq q (by omega)).trans (hS.2.1 q h1 h2), hS.2.2⟩
end YC
theorem y_in {i : Int} {n : Nat} (h : 0 ≤ i ∧ i < (n : Int) ∧ n ≤ 100000) : vp_in (Int32.ofInt i) n ∧ ((Int32.ofInt i).toNatClampNeg : Int) = i := by
  have e : (Int32.ofInt i).toInt = i := yi_toInt ⟨by omega, by omega⟩
  have e2 : (Int32.ofInt i).toNatClampNeg = i.toNat := by show (Int32.ofInt i).toInt.toNat = _; rw [e]
  refine ⟨fun q => ?_, by rw [e2]; omega⟩
  rcases q with q | q
  · have := Int32.lt_iff_toInt_lt.mp q
    rw [e] at this
    have z : (0 : Int32).toInt = 0 := by decide
    omega
  · rw [e2] at q; omega
section YB
variable {X : qm_X} {Y : yY} {Fn : yFn} {own : String} {cc : ByteArray} {nL f lo : Nat} {il : List qm_I}
variable {α : Type} {m : yM α} {pc pc' : Nat} {ρ : List (Option Value)} {st : List Value} {κ : α → yW → Prop}
theorem yk_K (hX : y_ok X Y Fn own cc nL f lo il) : va_K (qx_G X).2.1 qm_cl (qm_tys (qx_G X)) (qx_s X) := qk_K hX.1
theorem y_iald (hX : y_ok X Y Fn own cc nL f lo il) (k : Nat) {a : Option Nat} {i : Int} {g : Int → yM α} (hd : qm_nth il k = some (pc, .iaload, 1, pc')) (h : ∀ x, yb X Y Fn (g x) pc' ρ (yi x :: st) κ) : yb X Y Fn (yB (yLd 1 a i) g) pc ρ (yi i :: va_rf a :: st) κ := by
  cases yk_n hX hd
  intro w r w' h1 h2
  obtain ⟨x, w1, e1, e2⟩ := yB_some h1
  cases a with
  | none => cases e1
  | some p =>
    unfold yLd at e1
    dsimp only at e1
    split at e1
    · rename_i hc
      cases e1
      have J := h _ _ r w' e2 h2
      obtain ⟨hin, hnat⟩ := y_in hc.2
      refine ⟨J.1, fun H locs ls hV hL => ?_⟩
      have J2 := J.2 H locs ls hV hL
      rw [← hnat] at J2
      rcases hc.1 with ht | ht
      · have hcell := hV.2.2.1.arr (Or.inl ht)
        rw [ht] at hcell
        exact va_iald (tys := qm_tys (qx_G X)) (D := (qx_G X).2.1) (cl := qm_cl) (ws := [(p, .inl ((qx_G X).2.2 1, (w_kd w p).2, .inl (fun j => Int32.ofInt (w_iv w p (j : Int)))))]) (yk_ex hX) (yk_by hX) (yk_K hX) (va_one hcell) 0 0 rfl rfl hin (yk_d hX hd) J2
      · obtain ⟨k1, k2, -⟩ := hV.ro (p := p) (by omega)
        have hT := (yk_Z hX).2.1 p (by rw [← k1]; exact ht)
        rw [← k1] at hT
        rw [k2] at J2
        exact va_ti (yk_ex hX) (yk_by hX) hT hV.2.2.2 hin rfl (yk_d hX hd) J2
    · cases e1
theorem y_bald (hX : y_ok X Y Fn own cc nL f lo il) (k : Nat) {a : Option Nat} {i : Int} {g : Int → yM α} (hd : qm_nth il k = some (pc, .baload, 1, pc')) (h : ∀ x, yb X Y Fn (g x) pc' ρ (yi x :: st) κ) : yb X Y Fn (yB (yLd 3 a i) g) pc ρ (yi i :: va_rf a :: st) κ := by
  cases yk_n hX hd
  intro w r w' h1 h2
  obtain ⟨x, w1, e1, e2⟩ := yB_some h1
  cases a with
  | none => cases e1
  | some p =>
    unfold yLd at e1
    dsimp only at e1
    split at e1
    · rename_i hc
      cases e1
      have J := h _ _ r w' e2 h2
      obtain ⟨hin, hnat⟩ := y_in hc.2
      refine ⟨J.1, fun H locs ls hV hL => ?_⟩
      have J2 := J.2 H locs ls hV hL
      rw [← hnat] at J2
      rcases hc.1 with ht | ht
      · have hcell := hV.2.2.1.arr (Or.inr ht)
        rw [ht] at hcell
        exact va_bald (tys := qm_tys (qx_G X)) (D := (qx_G X).2.1) (cl := qm_cl) (ws := [(p, .inl ((qx_G X).2.2 3, (w_kd w p).2, .inl (fun j => Int32.ofInt (w_iv w p (j : Int)))))]) (yk_ex hX) (yk_by hX) (yk_K hX) (va_one hcell) 0 2 rfl rfl hin (yk_d hX hd) J2
      · obtain ⟨k1, k2, -⟩ := hV.ro (p := p) (by omega)
        have hT := (yk_Z hX).2.2.1 p (by rw [← k1]; exact ht)
        rw [← k1] at hT
        rw [k2] at J2
        exact va_tb (yk_ex hX) (yk_by hX) hT hV.2.2.2 hin rfl (yk_d hX hd) J2
    · cases e1
theorem y_alen (hX : y_ok X Y Fn own cc nL f lo il) (k : Nat) {a : Option Nat} {g : Int → yM α} (hd : qm_nth il k = some (pc, .arraylength, 1, pc')) (h : ∀ x, yb X Y Fn (g x) pc' ρ (yi x :: st) κ) : yb X Y Fn (yB (yLn a) g) pc ρ (va_rf a :: st) κ := by
  cases yk_n hX hd
  intro w r w' h1 h2
  obtain ⟨x, w1, e1, e2⟩ := yB_some h1
  cases a with
  | none => cases e1
  | some p =>
    unfold yLn at e1
    dsimp only at e1
    split at e1
    · rename_i hc
      cases e1
      have J := h _ _ r w' e2 h2
      refine ⟨J.1, fun H locs ls hV hL => ?_⟩
      have J2 := J.2 H locs ls hV hL
      have hv : Int32.ofNat (w_kd w p).2 = Int32.ofInt ((w_kd w p).2 : Int) := rfl
      rcases hc with ht | ht | ht | ht | ht | ht
      · have hcell := hV.2.2.1.arr (Or.inl ht)
        rw [ht] at hcell
        exact va_alen (tys := qm_tys (qx_G X)) (D := (qx_G X).2.1) (cl := qm_cl) (ws := [(p, .inl ((qx_G X).2.2 1, (w_kd w p).2, .inl (fun j => Int32.ofInt (w_iv w p (j : Int)))))]) (yk_ex hX) (yk_by hX) (yk_K hX) (va_one hcell) 0 0 rfl rfl hv (yk_d hX hd) J2
      · have hcell := hV.2.2.1.arr (Or.inr ht)
        rw [ht] at hcell
        exact va_alen (tys := qm_tys (qx_G X)) (D := (qx_G X).2.1) (cl := qm_cl) (ws := [(p, .inl ((qx_G X).2.2 3, (w_kd w p).2, .inl (fun j => Int32.ofInt (w_iv w p (j : Int)))))]) (yk_ex hX) (yk_by hX) (yk_K hX) (va_one hcell) 0 2 rfl rfl hv (yk_d hX hd) J2
      · have hcell := hV.2.2.1.arrR (Or.inl ht)
        rw [ht] at hcell
        exact va_alen (tys := qm_tys (qx_G X)) (D := (qx_G X).2.1) (cl := qm_cl) (ws := [(p, .inl ((qx_G X).2.2 4, (w_kd w p).2, .inr (.inr (.inr (.inr (fun j => w_rv w p (j : Int)))))))]) (yk_ex hX) (yk_by hX) (yk_K hX) (va_one hcell) 0 3 rfl rfl hv (yk_d hX hd) J2
      · have hcell := hV.2.2.1.arrR (Or.inr ht)
        rw [ht] at hcell
        exact va_alen (tys := qm_tys (qx_G X)) (D := (qx_G X).2.1) (cl := qm_cl) (ws := [(p, .inl ((qx_G X).2.2 7, (w_kd w p).2, .inr (.inr (.inr (.inr (fun j => w_rv w p (j : Int)))))))]) (yk_ex hX) (yk_by hX) (yk_K hX) (va_one hcell) 0 5 rfl rfl hv (yk_d hX hd) J2
      · obtain ⟨k1, k2, -⟩ := hV.ro (p := p) (by omega)
        have hT := (yk_Z hX).2.1 p (by rw [← k1]; exact ht)
        rw [← k1] at hT
        exact va_tlen (yk_ex hX) (yk_by hX) hT hV.2.2.2 hv (yk_d hX hd) J2
      · obtain ⟨k1, k2, -⟩ := hV.ro (p := p) (by omega)
        have hT := (yk_Z hX).2.2.1 p (by rw [← k1]; exact ht)
        rw [← k1] at hT
        exact va_tlen (yk_ex hX) (yk_by hX) hT hV.2.2.2 hv (yk_d hX hd) J2
    · cases e1
theorem y_aald (hX : y_ok X Y Fn own cc nL f lo il) (k : Nat) {a : Option Nat} {i : Int} {t : Nat} (ht47 : t = 4 ∨ t = 7) {g : Option Nat → yM α} (hd : qm_nth il k = some (pc, .aaload, 1, pc')) (h : ∀ x, yb X Y Fn (g x) pc' ρ (va_rf x :: st) κ) : yb X Y Fn (yB (yLr t a i) g) pc ρ (yi i :: va_rf a :: st) κ := by
  cases yk_n hX hd
  intro w r w' h1 h2
  obtain ⟨x, w1, e1, e2⟩ := yB_some h1
  cases a with
  | none => cases e1
  | some p =>
    unfold yLr at e1
    dsimp only at e1
    split at e1
    · rename_i hc
      cases e1
      have J := h _ _ r w' e2 h2
      obtain ⟨hin, hnat⟩ := y_in hc.2
      refine ⟨J.1, fun H locs ls hV hL => ?_⟩
      have J2 := J.2 H locs ls hV hL
      rw [← hnat] at J2
      have ht := hc.1
      have hlt : (Int32.ofInt i).toNatClampNeg < (w_kd w p).2 := Nat.not_le.mp fun q => hin (Or.inr q)
      rcases ht47 with e | e
      · rw [e] at ht
        have hcell := hV.2.2.1.arrR (Or.inl ht)
        rw [ht] at hcell
        exact W.aald (v := va_rf (w_rv w p ((Int32.ofInt i).toNatClampNeg : Int))) (ty := .array .int) (yk_ex hX) (yk_by hX) hcell (((yk_K hX).2 3 _ rfl).1 _ (fun j => va_rf (w_rv w p (j : Int)))) rfl (fun q => by cases q) (by show ¬ (_ ∨ (arrV _ _ _).slots.size ≤ _); rw [arrV_size]; exact hin) (by show (arrV _ _ _).slots[_]? = _; rw [arrV_read _ _ hlt]) rfl rfl (yk_d hX hd) J2
      · rw [e] at ht
        have hcell := hV.2.2.1.arrR (Or.inr ht)
        rw [ht] at hcell
        exact W.aald (v := va_rf (w_rv w p ((Int32.ofInt i).toNatClampNeg : Int))) (ty := .object "java/lang/String") (yk_ex hX) (yk_by hX) hcell (((yk_K hX).2 5 _ rfl).1 _ (fun j => va_rf (w_rv w p (j : Int)))) rfl (fun q => by cases q) (by show ¬ (_ ∨ (arrV _ _ _).slots.size ≤ _); rw [arrV_size]; exact hin) (by show (arrV _ _ _).slots[_]? = _; rw [arrV_read _ _ hlt]) rfl rfl (yk_d hX hd) J2
    · cases e1
/-- a row of numbers after a write -/
theorem y_rowS {G : qm_G} {w w' : yW} {H1 : Heap} {p t k : Nat} {x : Int} (ht : t = 1 ∨ t = 3) (hk : (w_kd w p).1 = t) (hw : w_kd w' = w_kd w) (hi : w_iv w' = iu (w_iv w) p (k : Int) x) (e : H1[p]? = some ((arrV (G.2.2 t) (w_kd w p).2 (fun j => .int (Int32.ofInt (w_iv w p (j : Int))))).setSlot k (.int (Int32.ofInt x)))) : ∀ e, yE G w' p = some e → va_at G.2.1 qm_cl (p, e) H1 := by
  intro e1 h1
  unfold yE at h1
  rw [hw, if_pos (by rw [hk]; exact ht)] at h1
  cases h1
  show H1[p]? = some (vp_cell _ _)
  rw [e, hk, vp_cell_i, arrV_store]
  congr 2
  funext q
  rw [hi]
  unfold iu
  by_cases hq : q = k
  · subst hq
    simp [updV]
  · have hq' : ¬ ((q : Int) = (k : Int)) := fun z => hq (by omega)
    simp [updV, hq, hq']
theorem y_iast (hX : y_ok X Y Fn own cc nL f lo il) (k : Nat) {a : Option Nat} {i x : Int} {g : Unit → yM α} (hd : qm_nth il k = some (pc, .iastore, 1, pc')) (h : yb X Y Fn (g ()) pc' ρ st κ) : yb X Y Fn (yB (ySt a i x) g) pc ρ (yi x :: yi i :: va_rf a :: st) κ := by
  cases yk_n hX hd
  intro w r w' h1 h2
  obtain ⟨u, w1, e1, e2⟩ := yB_some h1
  cases a with
  | none => cases e1
  | some p =>
    unfold ySt at e1
    dsimp only at e1
    split at e1
    · rename_i hc
      cases e1
      have J := h _ r w' e2 h2
      obtain ⟨hin, hnat⟩ := y_in hc.2
      refine ⟨J.1, fun H locs ls hV hL => ?_⟩
      have ht := hc.1
      have hcell := hV.2.2.1.arr (Or.inl ht)
      rw [ht] at hcell
      refine W.iast (yk_ex hX) (yk_by hX) hcell (((yk_K hX).2 0 _ rfl).1 (w_kd w p).2 (fun j => .int (Int32.ofInt (w_iv w p (j : Int))))) (fun q => by cases q) (by show ¬ (_ ∨ (arrV _ _ _).slots.size ≤ _); rw [arrV_size]; exact hin) rfl rfl (yk_d hX hd) fun H1 e z oq => ?_
      exact J.2 H1 _ ls (hV.put hX (by omega) (by omega) ⟨rfl, rfl, rfl, rfl⟩ (fun q hq => by funext j; exact if_neg (fun z => hq z.1)) (fun _ _ => rfl) (y_rowS (x := x) (Or.inl rfl) ht rfl (by rw [hnat]; rfl) e) z oq) hL
    · cases e1
theorem ybB_eq (x : Int) : ((Int32.ofInt x).toInt8.toInt32) = Int32.ofInt (i8 x) := by
  have h : ((Int32.ofInt x).toInt8.toInt32).toInt = i8 (Int32.ofInt x).toInt := ti_8 rfl
  have h2 : i8 (Int32.ofInt x).toInt = i8 x := by
    unfold i8
    rw [Int32.toInt_ofInt]
    apply Int.bmod_bmod_of_dvd
    decide
  rw [h2] at h
  rw [← h, Int32.ofInt_toInt]
theorem y_bast (hX : y_ok X Y Fn own cc nL f lo il) (k : Nat) {a : Option Nat} {i x : Int} {g : Unit → yM α} (hd : qm_nth il k = some (pc, .bastore, 1, pc')) (h : yb X Y Fn (g ()) pc' ρ st κ) : yb X Y Fn (yB (ySb a i x) g) pc ρ (yi x :: yi i :: va_rf a :: st) κ := by
  cases yk_n hX hd
  intro w r w' h1 h2
  obtain ⟨u, w1, e1, e2⟩ := yB_some h1
  cases a with
  | none => cases e1
  | some p =>
    unfold ySb at e1
    dsimp only at e1
    split at e1
    · rename_i hc
      cases e1
      have J := h _ r w' e2 h2
      obtain ⟨hin, hnat⟩ := y_in hc.2
      refine ⟨J.1, fun H locs ls hV hL => ?_⟩
      have ht := hc.1
      have hcell := hV.2.2.1.arr (Or.inr ht)
      rw [ht] at hcell
      refine W.bast (yk_ex hX) (yk_by hX) hcell (((yk_K hX).2 2 _ rfl).1 (w_kd w p).2 (fun j => .int (Int32.ofInt (w_iv w p (j : Int))))) (fun q => by cases q) (by show ¬ (_ ∨ (arrV _ _ _).slots.size ≤ _); rw [arrV_size]; exact hin) rfl rfl (yk_d hX hd) fun H1 e z oq => ?_
      have hn : narrow .byte (yi x) = .int (Int32.ofInt (i8 x)) := by rw [← ybB_eq]; rfl
      rw [hn] at e
      exact J.2 H1 _ ls (hV.put hX (by omega) (by omega) ⟨rfl, rfl, rfl, rfl⟩ (fun q hq => by funext j; exact if_neg (fun z => hq z.1)) (fun _ _ => rfl) (y_rowS (x := i8 x) (Or.inr rfl) ht rfl (by rw [hnat]; rfl) e) z oq) hL
    · cases e1
end YB
