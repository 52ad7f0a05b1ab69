/-! ===== what is read alone, out of the first heap ===== -/
abbrev jA (s : State) : Nat → Prop := fun q => s.heap.size ≤ q
def jB (s : State) (p n : Nat) : Prop := n ≤ 100000 ∧ ∃ f : Nat → Int32, va_T .byte p n (fun j => .int (f j)) (jA s) s s.heap
def jS (adK : Nat → Nat) (p : Nat) : Prop := ∃ i, (1 ≤ i ∧ i ≤ 19) ∧ p = adK i
noncomputable def jK (s : State) (b L : Nat) (adK : Nat → Nat) (p : Nat) : Nat × Nat :=
  @ite _ (p = b) (Classical.propDecidable _) (31, L) (@dite _ (∃ n, jB s p n) (Classical.propDecidable _) (fun h => (33, Classical.choose h)) (fun _ => @ite _ (jS adK p) (Classical.propDecidable _) (36, 0) (0, 0)))
def jI (s : State) (p : Nat) (k : Int) : Int := match s.heap[p]? with
  | some c9 => (match c9.slots[k.toNat]? with
    | some (.int x) => x.toInt
    | _ => 0)
  | none => 0
noncomputable def jV (s : State) (b L : Nat) (adK : Nat → Nat) (p : Nat) (k : Int) : Int := if (jK s b L adK p).1 = 36 then 0 else jI s p k
noncomputable def jR (adK adV : Nat → Nat) (p : Nat) (_ : Int) : Option Nat := @dite _ (jS adK p) (Classical.propDecidable _) (fun h => some (adV (Classical.choose h))) (fun _ => none)
noncomputable def jY (s : State) (b L : Nat) (adK adV : Nat → Nat) (a1 a2 : Nat) : yY := (s.heap.size, jK s b L adK, jV s b L adK, jR adK adV, fun i => if i = 20 then a1 else if i = 21 then a2 else adK i)
noncomputable def jW (s : State) (b L : Nat) (adK adV : Nat → Nat) : yW := (qz_t0, s.heap.size + 367, 19817, jK s b L adK, jV s b L adK, jR adK adV)
/-- what the start gives -/
def jF (s : State) (args : Array Value) (b L : Nat) (xs : Nat → Int32) (adK adV : Nat → Nat) (a1 a2 : Nat) : Prop :=
  va_X b L xs s s.heap ∧ L ≤ 260 ∧ zx_Tx s args adK adV a1 a2 ∧ ∃ cS, ClassAt s "java/lang/String" cS
section
variable {s : State} {args : Array Value} {b L p n m j a1 a2 : Nat} {xs : Nat → Int32} {adK adV : Nat → Nat}
theorem jI_at {cell : Cell} {x : Int32} (h1 : s.heap[p]? = some cell) (h2 : cell.slots[j]? = some (.int x)) : jI s p (j : Int) = x.toInt := by
  simp only [jI, h1, Int.toNat_natCast, h2]
theorem jI_R {k : Int} : iR (jI s p k) := by
  unfold jI
  split
  · split
    · exact iR_toInt _
    · exact iR_0
  · exact iR_0
theorem jV_1 {k : Int} (h : (jK s b L adK p).1 ≠ 36) : jV s b L adK p k = jI s p k := by
  unfold jV
  exact if_neg h
theorem jV_36 {k : Int} (h : (jK s b L adK p).1 = 36) : jV s b L adK p k = 0 := by
  unfold jV
  exact if_pos h
theorem j_a20 : y_ad (jY s b L adK adV a1 a2) 20 = a1 := by
  show (if (20 : Nat) = 20 then a1 else if (20 : Nat) = 21 then a2 else adK 20) = a1
  rw [if_pos rfl]
theorem j_a21 : y_ad (jY s b L adK adV a1 a2) 21 = a2 := by
  show (if (21 : Nat) = 20 then a1 else if (21 : Nat) = 21 then a2 else adK 21) = a2
  rw [if_neg (by decide), if_pos rfl]
theorem jB_n (h1 : jB s p n) (h2 : jB s p m) : n = m := by
  obtain ⟨l1, f, c1, e1, -, -, -, b1, -, -⟩ := h1
  obtain ⟨l2, g, c2, e2, -, -, -, b2, -, -⟩ := h2
  cases e1.symm.trans e2
  have e := congrArg Int32.toInt (b1.symm.trans b2)
  rw [zi_n l1, zi_n l2] at e
  omega
theorem j_ty {c : Cell} {t1 t2 : FieldType} (h1 : s.isArrayOf c t1) (h2 : s.isArrayOf c t2) : t1 = t2 := by
  obtain ⟨-, k, hk, comp, e⟩ := h1
  obtain ⟨-, k', hk', comp', e'⟩ := h2
  cases hk.symm.trans hk'
  rw [e] at e'
  cases e'
  rfl
theorem j_b : jK s b L adK b = (31, L) := by
  unfold jK
  rw [if_pos rfl]
theorem j_33 (h : jB s p n) (hb : p ≠ b) : jK s b L adK p = (33, n) := by
  have hx : ∃ n, jB s p n := ⟨n, h⟩
  unfold jK
  rw [if_neg hb, dif_pos hx, jB_n (Classical.choose_spec hx) h]
theorem j_36 (hb : p ≠ b) (hn : ∀ n, ¬ jB s p n) (hs : jS adK p) : jK s b L adK p = (36, 0) := by
  unfold jK
  rw [if_neg hb, dif_neg (fun h => hn _ (Classical.choose_spec h)), if_pos hs]
theorem j_cases (p : Nat) : (p = b ∧ jK s b L adK p = (31, L)) ∨ (∃ n, jB s p n ∧ jK s b L adK p = (33, n)) ∨ (jS adK p ∧ jK s b L adK p = (36, 0)) ∨ jK s b L adK p = (0, 0) := by
  by_cases h1 : p = b
  · exact Or.inl ⟨h1, by rw [h1]; exact j_b⟩
  · refine Or.inr ?_
    by_cases h2 : ∃ n, jB s p n
    · obtain ⟨n, hn⟩ := h2
      exact Or.inl ⟨n, hn, j_33 hn h1⟩
    · refine Or.inr ?_
      have h2' : ∀ n, ¬ jB s p n := fun n h => h2 ⟨n, h⟩
      by_cases h3 : jS adK p
      · exact Or.inl ⟨h3, j_36 h1 h2' h3⟩
      · refine Or.inr ?_
        unfold jK
        rw [if_neg h1, dif_neg h2, if_neg h3]
theorem jB_b (hX : va_X b L xs s s.heap) (h : jB s p n) : p ≠ b := by
  intro e
  subst e
  obtain ⟨scr, e1, e2, -⟩ := hX
  obtain ⟨-, f, c, g1, g2, -⟩ := h
  cases e1.symm.trans g1
  cases j_ty e2 g2
theorem j_ord {c : Cell} {t : FieldType} {cS : ClassId} (hS : ClassAt s "java/lang/String" cS) (h1 : s.vm.findClass "java/lang/String" = some c.cls) (h2 : s.isArrayOf c t) : False := by
  obtain ⟨e1, kC, e2, e3⟩ := hS
  cases e1.symm.trans h1
  obtain ⟨-, k, hk, comp, e⟩ := h2
  cases e2.symm.trans hk
  rw [e3] at e
  cases e
theorem j_KS (hF : jF s args b L xs adK adV a1 a2) {i : Nat} (hi : 1 ≤ i ∧ i ≤ 19) : jK s b L adK (adK i) = (36, 0) := by
  obtain ⟨⟨scr, x1, x2, -⟩, -, ⟨hT, -⟩, cS, hS⟩ := hF
  obtain ⟨cell, g1, -, g3, -⟩ := (hT.1 i (by omega)).1
  refine j_36 (fun e => ?_) (fun n h => ?_) ⟨i, hi, rfl⟩
  · rw [e] at g1
    cases x1.symm.trans g1
    exact j_ord hS g3 x2
  · obtain ⟨-, f, c, h1, h2, -⟩ := h
    cases h1.symm.trans g1
    exact j_ord hS g3 h2
theorem jR_at (hF : jF s args b L xs adK adV a1 a2) {i : Nat} (hi : 1 ≤ i ∧ i ≤ 19) (k : Int) : jR adK adV (adK i) k = some (adV i) := by
  have hx : jS adK (adK i) := ⟨i, hi, rfl⟩
  obtain ⟨hc1, hc2⟩ := Classical.choose_spec hx
  have e : i = Classical.choose hx := hF.2.2.1.1.2 i _ (by omega) (by omega) hc2
  unfold jR
  rw [dif_pos hx, ← e]
theorem zx_yw : ∀ i, i < 20 → 1 ≤ i → zx_len.getD i 0 = (yWd i).length ∧ (yWd i).length ≤ 100000 ∧ ∀ j, j < (yWd i).length → ((zx_byt.getD i []).getD j 0).toInt = (yWd i).getD j 0 := by decide +kernel
theorem j_B (hF : jF s args b L xs adK adV a1 a2) {i : Nat} (hi : 1 ≤ i ∧ i ≤ 19) : jB s (adV i) (yWd i).length := by
  obtain ⟨e1, e2, -⟩ := zx_yw i (by omega) hi.1
  refine ⟨e2, fun j => (zx_byt.getD i []).getD j 0, ?_⟩
  rw [← e1]
  exact (hF.2.2.1.1.1 i (by omega)).2.2.2
theorem jV_T (hX : va_X b L xs s s.heap) {f : Nat → Int32} (hn : n ≤ 100000) (hT : va_T .byte p n (fun j => .int (f j)) (jA s) s s.heap) (hj : j < n) : jV s b L adK p (j : Int) = (f j).toInt := by
  have hB : jB s p n := ⟨hn, f, hT⟩
  rw [jV_1 (by rw [j_33 hB (jB_b hX hB)]; exact (by decide : (33 : Nat) ≠ 36))]
  obtain ⟨cell, h1, -, -, -, -, h6, -⟩ := hT
  exact jI_at h1 (h6 j hj)
theorem jZ (hF : jF s args b L xs adK adV a1 a2) (hts : ∀ w ∈ lw_tbl, w.before args s = true) : yZ (jY s b L adK adV a1 a2) (jA s) s s.heap := by
  have hA : ∀ a : Nat, a < s.heap.size → ¬ (s.heap.size ≤ a) := fun a h => by omega
  refine ⟨fun p => ?_, fun p hp => ?_, fun p hp => ?_, fun p hp => ?_, ⟨?_, ?_⟩, fun r hr => ?_, ⟨?_, ?_⟩, fun c hc => ?_, ?_, ?_⟩
  · show (jK s b L adK p).1 = 0 ∨ (jK s b L adK p).1 = 31 ∨ (jK s b L adK p).1 = 33 ∨ (jK s b L adK p).1 = 36
    rcases j_cases (s := s) (b := b) (L := L) (adK := adK) p with ⟨-, e⟩ | ⟨n, -, e⟩ | ⟨-, e⟩ | e
    · rw [e]; exact Or.inr (Or.inl rfl)
    · rw [e]; exact Or.inr (Or.inr (Or.inl rfl))
    · rw [e]; exact Or.inr (Or.inr (Or.inr rfl))
    · rw [e]; exact Or.inl rfl
  · have hp : (jK s b L adK p).1 = 31 := hp
    show va_T .int p (jK s b L adK p).2 (fun j => yi (jV s b L adK p (j : Int))) (jA s) s s.heap
    rcases j_cases (s := s) (b := b) (L := L) (adK := adK) p with ⟨e0, e⟩ | ⟨n, -, e⟩ | ⟨-, e⟩ | e
    · subst e0
      obtain ⟨scr, h1, h2, h3, h4, h5⟩ := hF.1
      refine ⟨scr, h1, h2, h3, by rw [e]; exact Nat.le_of_eq h4.symm, by rw [e]; exact congrArg Int32.ofNat h4, fun j hj => ?_, hA _ (Array.getElem?_eq_some_iff.mp h1).1⟩
      rw [e] at hj
      have e2 : jV s p L adK p (j : Int) = (xs j).toInt := by
        rw [jV_1 (by rw [e]; exact (by decide : (31 : Nat) ≠ 36))]
        exact jI_at h1 (h5 j hj)
      rw [h5 j hj]
      show _ = some (yi (jV s p L adK p (j : Int)))
      rw [e2]
      exact congrArg (fun z => some (Value.int z)) (yi_of (xs j)).symm
    all_goals (rw [e] at hp; simp at hp)
  · have hp : (jK s b L adK p).1 = 33 := hp
    show va_T .byte p (jK s b L adK p).2 (fun j => yi (jV s b L adK p (j : Int))) (jA s) s s.heap
    rcases j_cases (s := s) (b := b) (L := L) (adK := adK) p with ⟨e0, e⟩ | ⟨n, hB, e⟩ | ⟨-, e⟩ | e
    · rw [e] at hp; simp at hp
    · obtain ⟨hn, f, hT⟩ := id hB
      have hv : ∀ j, j < n → jV s b L adK p (j : Int) = (f j).toInt := fun j hj => jV_T hF.1 hn hT hj
      obtain ⟨cell, h1, h2, h3, h4, h5, h6, h7⟩ := hT
      rw [e]
      refine ⟨cell, h1, h2, h3, h4, h5, fun j hj => ?_, h7⟩
      rw [h6 j hj]
      show _ = some (yi (jV s b L adK p (j : Int)))
      rw [hv j hj]
      exact congrArg (fun z => some (Value.int z)) (yi_of (f j)).symm
    all_goals (rw [e] at hp; simp at hp)
  · have hp : (jK s b L adK p).1 = 36 := hp
    show va_O "java/lang/String" p (jA s) s s.heap ∧ va_OF "java/lang/String" "value" "[B" (va_rf (jR adK adV p 0)) p (jA s) s s.heap ∧ va_OF "java/lang/String" "coder" "B" (yi (jV s b L adK p 1)) p (jA s) s s.heap
    rcases j_cases (s := s) (b := b) (L := L) (adK := adK) p with ⟨-, e⟩ | ⟨n, -, e⟩ | ⟨⟨i, hi, e0⟩, e⟩ | e
    · rw [e] at hp; simp at hp
    · rw [e] at hp; simp at hp
    · subst e0
      have h := hF.2.2.1.1.1 i (by omega)
      rw [jR_at hF hi]
      have e2 : jV s b L adK (adK i) 1 = 0 := jV_36 hp
      have e3 : yi 0 = .int 0 := congrArg Value.int yi_00
      rw [e2, e3]
      exact ⟨h.1, h.2.2.1, h.2.1⟩
    · rw [e] at hp; simp at hp
  · rw [j_a20]
    exact va_Zref (hts _ (List.mem_of_getElem? (i := 1076) (by decide +kernel))) (hts _ (List.mem_of_getElem? (i := 58) (by decide +kernel))) hF.2.2.1.2.2.1.1 hA
  · rw [j_a21]
    exact va_Zref (hts _ (List.mem_of_getElem? (i := 1078) (by decide +kernel))) (hts _ (List.mem_of_getElem? (i := 58) (by decide +kernel))) hF.2.2.1.2.2.2.1 hA
  · obtain ⟨⟨i1, i2⟩, e1, e2, e3⟩ := zx_tx r hr
    have h8 := hF.2.2.1.2.1 r.2.2.2 (by omega)
    rw [show zx_t r.2.2.2 = Term.string (zx_o r.2.2.2) (zx_i.getD r.2.2.2 0) from rfl, ← e1, ← e2] at h8
    have e5 : y_ad (jY s b L adK adV a1 a2) r.2.2.2 = adK r.2.2.2 := by
      show (if r.2.2.2 = 20 then a1 else if r.2.2.2 = 21 then a2 else adK r.2.2.2) = _
      rw [if_neg (by omega), if_neg (by omega)]
    rw [e5]
    exact vk_R.of (A := args) (hts _ e3) h8
  · exact va_Fw.of (hts _ (List.mem_of_getElem? (i := 1163) (by decide +kernel))) (hts _ (List.mem_of_getElem? (i := 1162) (by decide +kernel))) (hts _ (List.mem_of_getElem? (i := 1167) (by decide +kernel))) (hts _ (List.mem_of_getElem? (i := 1166) (by decide +kernel))) (hts _ (List.mem_of_getElem? (i := 1164) (by decide +kernel)))
  · exact va_Fw.of (hts _ (List.mem_of_getElem? (i := 1175) (by decide +kernel))) (hts _ (List.mem_of_getElem? (i := 1174) (by decide +kernel))) (hts _ (List.mem_of_getElem? (i := 1178) (by decide +kernel))) (hts _ (List.mem_of_getElem? (i := 1177) (by decide +kernel))) (hts _ (List.mem_of_getElem? (i := 1164) (by decide +kernel)))
  · unfold ys_nw at hc
    simp only [List.mem_cons, List.not_mem_nil, or_false] at hc
    have hi : (Cond.instantiable "java/lang/StringBuilder" 4).before args s = true := hts _ (List.mem_of_getElem? (i := 925) (by decide +kernel))
    have hl : (Cond.selects "java/lang/StringBuilder" ⟨"java/lang/AbstractStringBuilder", "isLatin1", "()Z"⟩ ⟨"java/lang/AbstractStringBuilder", "isLatin1", "()Z"⟩).before args s = true := hts _ (List.mem_of_getElem? (i := 997) (by decide +kernel))
    rcases hc with rfl | rfl | rfl | rfl | rfl
    · exact va_Nw.of rfl (hts _ (List.mem_of_getElem? (i := 896) (by decide +kernel)))
    · exact va_Nw.of rfl (hts _ (List.mem_of_getElem? (i := 990) (by decide +kernel)))
    · exact va_Nw.of rfl (y_selP (z := ⟨"java/lang/AbstractStringBuilder", "isLatin1", "()Z"⟩) (z' := ⟨"java/lang/AbstractStringBuilder", "isLatin1", "()Z"⟩) ⟨by decide, by decide⟩ rfl hi hl (hts _ (List.mem_of_getElem? (i := 968) (by decide +kernel))) (hts _ (List.mem_of_getElem? (i := 969) (by decide +kernel))))
    · exact va_Nw.of rfl (y_selP (z := ⟨"java/lang/AbstractStringBuilder", "isLatin1", "()Z"⟩) (z' := ⟨"java/lang/AbstractStringBuilder", "isLatin1", "()Z"⟩) ⟨by decide, by decide⟩ rfl hi hl (hts _ (List.mem_of_getElem? (i := 1020) (by decide +kernel))) (hts _ (List.mem_of_getElem? (i := 1021) (by decide +kernel))))
    · exact va_Nw.of rfl (y_selP (z := ⟨"java/lang/AbstractStringBuilder", "isLatin1", "()Z"⟩) (z' := ⟨"java/lang/AbstractStringBuilder", "isLatin1", "()Z"⟩) ⟨by decide, by decide⟩ rfl hi hl (hts _ (List.mem_of_getElem? (i := 1016) (by decide +kernel))) (hts _ (List.mem_of_getElem? (i := 1017) (by decide +kernel))))
  · exact zx_ov (hts _ (List.mem_of_getElem? (i := 910) (by decide +kernel)))
  · exact zx_ov (hts _ (List.mem_of_getElem? (i := 271) (by decide +kernel)))
theorem zx_dg : ∀ j, j < 100 → (zx_dv 0 j).toInt = 48 + (j : Int) % 10 ∧ (zx_dv 1 j).toInt = 48 + (j : Int) / 10 := by decide +kernel
theorem jS9 (hF : jF s args b L xs adK adV a1 a2) : yS9 (jY s b L adK adV a1 a2) (jW s b L adK adV) := by
  have lt : ∀ {n p : Nat}, jB s p n → p < s.heap.size := fun h => by
    obtain ⟨-, f, c, h1, -⟩ := h
    exact (Array.getElem?_eq_some_iff.mp h1).1
  have hD : ∀ (a : Nat) (f : Nat → Int32) (g : Int → Int), va_T .byte a 100 (fun j => .int (f j)) (jA s) s s.heap → (∀ j : Nat, j < 100 → (f j).toInt = g j) → jK s b L adK a = (33, 100) ∧ a < s.heap.size ∧ ∀ i : Int, 0 ≤ i → i < 100 → jV s b L adK a i = g i := fun a f g hT hg => by
    have hB : jB s a 100 := ⟨by decide, f, hT⟩
    refine ⟨j_33 hB (jB_b hF.1 hB), lt hB, fun i i0 i1 => ?_⟩
    obtain ⟨k, rfl⟩ := Int.eq_ofNat_of_zero_le i0
    rw [jV_T hF.1 (by decide) hT (show k < 100 by omega), hg k (by omega)]
  refine ⟨fun i i1 i2 => ?_, by rw [j_a20]; exact hD a1 _ (fun i => 48 + i % 10) hF.2.2.1.2.2.1.2 (fun j hj => (zx_dg j hj).1), by rw [j_a21]; exact hD a2 _ (fun i => 48 + i / 10) hF.2.2.1.2.2.2.2 (fun j hj => (zx_dg j hj).2), by show s.heap.size ≤ s.heap.size + 367; omega⟩
  have e5 : y_ad (jY s b L adK adV a1 a2) i = adK i := by
    show (if i = 20 then a1 else if i = 21 then a2 else adK i) = _
    rw [if_neg (by omega), if_neg (by omega)]
  rw [e5]
  have k36 := j_KS hF ⟨i1, i2⟩
  have hB := j_B hF ⟨i1, i2⟩
  have k33 := j_33 (L := L) (adK := adK) hB (jB_b hF.1 hB)
  obtain ⟨e1, e2, e3⟩ := zx_yw i (by omega) i1
  have h := hF.2.2.1.1.1 i (by omega)
  have hT := h.2.2.2
  rw [e1] at hT
  obtain ⟨cell, g1, -⟩ := h.1
  refine ⟨k36, (Array.getElem?_eq_some_iff.mp g1).1, adV i, ⟨Or.inr ?_, ?_, jR_at hF ⟨i1, i2⟩ 0, Or.inr k33, e2, fun j hj => ?_, yWd_le i (by omega)⟩, k33, lt hB⟩
  · show (jK s b L adK (adK i)).1 = 36
    rw [k36]
  · show jV s b L adK (adK i) 1 = 0
    exact jV_36 (by rw [k36])
  · show jV s b L adK (adV i) (j : Int) = _
    rw [jV_T hF.1 e2 hT hj, e3 j hj]
theorem jSC (hF : jF s args b L xs adK adV a1 a2) : SC (jY s b L adK adV a1 a2) (jW s b L adK adV) b := by
  obtain ⟨scr, h1, -⟩ := hF.1
  refine ⟨(Array.getElem?_eq_some_iff.mp h1).1, by show s.heap.size ≤ s.heap.size + 367; omega, ⟨L, by have := hF.2.1; omega, j_b⟩, fun i => ?_⟩
  show iR (jV s b L adK b i)
  rw [jV_1 (by rw [j_b]; exact (by decide : (31 : Nat) ≠ 36))]
  exact jI_R
theorem jK_lt (hF : jF s args b L xs adK adV a1 a2) (h : (jK s b L adK p).1 ≠ 0) : p < s.heap.size := by
  rcases j_cases (s := s) (b := b) (L := L) (adK := adK) p with ⟨e0, -⟩ | ⟨n, ⟨-, f, c, h1, -⟩, -⟩ | ⟨⟨i, hi, e0⟩, -⟩ | e
  · subst e0
    obtain ⟨scr, h1, -⟩ := hF.1
    exact (Array.getElem?_eq_some_iff.mp h1).1
  · exact (Array.getElem?_eq_some_iff.mp h1).1
  · subst e0
    obtain ⟨cell, g1, -⟩ := (hF.2.2.1.1.1 i (by omega)).1
    exact (Array.getElem?_eq_some_iff.mp g1).1
  · rw [e] at h
    exact absurd (show ((0 : Nat), (0 : Nat)).1 = 0 from rfl) h
theorem jYI (hF : jF s args b L xs adK adV a1 a2) : yI (jY s b L adK adV a1 a2) (jW s b L adK adV) := by
  have h0 : ∀ p, s.heap.size ≤ p → (jK s b L adK p).1 = 0 := fun p hp => by
    by_cases z : (jK s b L adK p).1 = 0
    · exact z
    · have := jK_lt hF z
      omega
  refine ⟨fun p hp => ?_, fun p _ => ⟨rfl, rfl, rfl⟩, fun p hp => ?_, fun p hp hn => absurd (h0 p hp) hn, Nat.le_refl _⟩
  · have := jK_lt (p := p) hF hp
    show p < s.heap.size + 367
    omega
  · show (jK s b L adK p).1 < 30
    rw [h0 p hp]
    decide
/-- no cell of the law's is there yet -/
theorem jW_E (hF : jF s args b L xs adK adV a1 a2) {G : qm_G} {e : va_E} : yE G (jW s b L adK adV) p ≠ some e := by
  have hk : (w_kd (jW s b L adK adV) p).1 = 0 ∨ (w_kd (jW s b L adK adV) p).1 = 31 ∨ (w_kd (jW s b L adK adV) p).1 = 33 ∨ (w_kd (jW s b L adK adV) p).1 = 36 := by
    show (jK s b L adK p).1 = 0 ∨ (jK s b L adK p).1 = 31 ∨ (jK s b L adK p).1 = 33 ∨ (jK s b L adK p).1 = 36
    rcases j_cases (s := s) (b := b) (L := L) (adK := adK) p with ⟨-, e⟩ | ⟨n, -, e⟩ | ⟨-, e⟩ | e
    · rw [e]; exact Or.inr (Or.inl rfl)
    · rw [e]; exact Or.inr (Or.inr (Or.inl rfl))
    · rw [e]; exact Or.inr (Or.inr (Or.inr rfl))
    · rw [e]; exact Or.inl rfl
  intro h
  unfold yE at h
  rw [if_neg (by omega), if_neg (by omega), if_neg (by omega)] at h
  cases h
end
