/-! ===== what holds where the law begins ===== -/
def zx_a : List Cond := flatC (Jvm.Cond.and given_1 narrow_1)
def zx_o (i : Nat) : String := if i = 0 then qr_Teller else qr_Model
def zx_i : List Nat := [94, 393, 394, 396, 398, 400, 402, 404, 406, 418, 420, 422, 424, 426, 446, 456, 458, 460]
def zx_t (i : Nat) : Term := .string (zx_o i) (zx_i.getD i 0)
def zx_b : List Nat := [42, 149, 161, 173, 187, 201, 216, 230, 245, 261, 279, 298, 317, 338, 359, 381, 405, 430]
def zx_v (i : Nat) : Term := .field (zx_t i) "java/lang/String" "value" "[B"
theorem zx_ex : ∀ i, i < 18 → zx_a[zx_b.getD i 0]? = some (Cond.exactly (zx_t i) "java/lang/String") := by decide +kernel
theorem zx_co : ∀ i, i < 18 → zx_a[zx_b.getD i 0 + 1]? = some (Cond.eq (.field (zx_t i) "java/lang/String" "coder" "B") (.int 0)) := by decide +kernel
theorem zx_ar : ∀ i, i < 18 → zx_a[zx_b.getD i 0 + 2]? = some (Cond.arrayOf (zx_v i) .byte) := by decide +kernel
theorem zx_le : ∀ i, i < 18 → zx_a[zx_b.getD i 0 + 3]? = some (Cond.eq (.length (zx_v i)) (.int (Int32.ofNat (qs_len.getD i 0)))) := by decide +kernel
theorem zx_el : ∀ i, i < 18 → ∀ j, j < qs_len.getD i 0 → zx_a[zx_b.getD i 0 + 4 + j]? = some (Cond.eq (.elem (zx_v i) (.int (Int32.ofNat j))) (.int ((qs_byt.getD i []).getD j 0))) := by decide +kernel
theorem zx_ne : ∀ j, j < 18 → ∀ i, i < j → zx_a[zx_b.getD j 0 + 4 + qs_len.getD j 0 + i]? = some (Cond.not (Cond.eq (zx_t i) (zx_t j))) := by decide +kernel
def zx_n (k : Nat) : String := ["SETTING_FIRST", "SETTING_LEAST", "SETTING_MOST"].getD k ""
def zx_s (k : Nat) : Term := .static "ColumnsLevelled" (zx_n k) "[I"
def zx_c : List Nat := [5, 21, 32]
theorem zx_sa : ∀ k, k < 3 → zx_a[zx_c.getD k 0]? = some (Cond.arrayOf (zx_s k) .int) := by decide +kernel
theorem zx_sl : ∀ k, k < 3 → zx_a[zx_c.getD k 0 + 1]? = some (Cond.eq (.length (zx_s k)) (.int 8)) := by decide +kernel
theorem zx_se : ∀ k, k < 3 → ∀ j, j < 8 → zx_a[zx_c.getD k 0 + 2 + j]? = some (Cond.eq (.elem (zx_s k) (.int (Int32.ofNat j))) (.int (qm_sv (405 + k) j))) := by decide +kernel
theorem zx_ls : ∀ k, k < 3 → Cond.laysStatic "ColumnsLevelled" (zx_n k) "[I" ∈ lw_tbl := by decide +kernel
theorem zx_nw : ∀ w ∈ qm_nw, w ∈ lw_tbl ∧ w.onTables = true := by decide +kernel
theorem zx_tx : ∀ r ∈ qs_all, ∃ i, i < 18 ∧ r.1 = zx_o i ∧ r.2.1 = zx_i.getD i 0 ∧ r.2.2.2 = 408 + i ∧ Cond.stringRef r.1 r.2.1 r.2.2.1 ∈ lw_tbl := by decide +kernel
theorem zx_cls {s : State} {args : Array Value} (hts : ∀ w ∈ lw_tbl, w.before args s = true) {ci N : Nat} {C : String} {T : u_T} (h : qm_cls ci C T N) (hi : Cond.instantiable C N ∈ lw_tbl) : ∃ q : ClassId × (Nat → Nat), ∀ r, qm_cl[ci]? = some r → u_Kn s r.1 r.2.1 r.2.2 q.1 q.2 := by
  obtain ⟨cC, iS, hk⟩ := u_known (ws := qm_tb) (fun w hw => hts w (List.mem_filter.mp hw).1) h.2 (hts _ hi)
  exact ⟨(cC, iS), fun r hr => by rw [h.1] at hr; cases hr; exact hk⟩
theorem zx_arr {s : State} {args : Array Value} {t : FieldType} (h : (Cond.arrayClass t).before args s = true) (ht : ∀ C, t ≠ .object C) : ∃ cA, ArrOfT s cA t ∧ va_RA s cA t := by
  obtain ⟨c, k, comp, h1, h2, h3⟩ := Cond.arrayClass_spec h
  refine ⟨c, fun n z => ⟨(fun k h => by cases h), k, h2, comp, h3⟩, ?_⟩
  cases t <;> first | exact h1 | exact absurd rfl (ht _)
theorem zx_arq {s : State} {args : Array Value} {C : String} (h : (Cond.arrayOver (.object C)).before args s = true) : ∃ cA, ArrOfT s cA (.object C) ∧ va_RA s cA (.object C) := by
  obtain ⟨comp, c, k, h1, -, h2, h3, h4⟩ := Cond.arrayOver_spec h
  exact ⟨c, fun n z => ⟨(fun k h => by cases h), k, h2, comp, h3⟩, k, comp, h2, h3, h1, h4⟩
theorem zx_ara {s : State} {args : Array Value} {t : FieldType} (h : (Cond.arrayOver (.array t)).before args s = true) : ∃ cA, ArrOfT s cA (.array t) ∧ va_RA s cA (.array t) := by
  obtain ⟨comp, c, k, h1, h2, h3, h4⟩ := Cond.arrayOver_specA h
  exact ⟨c, fun n z => ⟨(fun k h => by cases h), k, h2, comp, h3⟩, h4⟩
theorem zx_D {s : State} {args : Array Value} (hts : ∀ w ∈ lw_tbl, w.before args s = true) : ∃ D : va_G, ∀ (c : Nat) (q : vw_C), qm_cl[c]? = some q → u_Kn s q.1 q.2.1 q.2.2 (D.1 c) (D.2 c) := by
  have h0 : ∀ c : Nat, ∃ q : ClassId × (Nat → Nat), ∀ r, qm_cl[c]? = some r → u_Kn s r.1 r.2.1 r.2.2 q.1 q.2 := by
    intro c
    match c with
    | 0 => exact zx_cls hts jc_0 (List.mem_of_getElem? (i := 334) (by decide +kernel))
    | 1 => exact zx_cls hts jc_1 (List.mem_of_getElem? (i := 237) (by decide +kernel))
    | 2 => exact zx_cls hts jc_2 (List.mem_of_getElem? (i := 211) (by decide +kernel))
    | 3 => exact zx_cls hts jc_3 (List.mem_of_getElem? (i := 231) (by decide +kernel))
    | 4 => exact zx_cls hts jc_4 (List.mem_of_getElem? (i := 135) (by decide +kernel))
    | 5 => exact zx_cls hts jc_5 (List.mem_of_getElem? (i := 161) (by decide +kernel))
    | 6 => exact zx_cls hts jc_6 (List.mem_of_getElem? (i := 177) (by decide +kernel))
    | 7 => exact zx_cls hts jc_7 (List.mem_of_getElem? (i := 436) (by decide +kernel))
    | 8 => exact zx_cls hts jc_8 (List.mem_of_getElem? (i := 127) (by decide +kernel))
    | 9 => exact zx_cls hts jc_9 (List.mem_of_getElem? (i := 1138) (by decide +kernel))
    | n + 10 => exact ⟨(default, fun _ => 0), fun r hr => by cases hr⟩
  obtain ⟨f, hf⟩ := Classical.axiomOfChoice h0
  exact ⟨(fun c => (f c).1, fun c => (f c).2), fun c q hq => hf c q hq⟩
theorem zx_ov {s : State} {args : Array Value} {t : FieldType} (h : (Cond.arrayOver t).before args s = true) : (Cond.arrayOver t).before #[] s = true := by
  simp only [Cond.before, Cond.holds, Cond.value] at h ⊢
  exact h
theorem zx_O {s : State} {args : Array Value} (hts : ∀ w ∈ lw_tbl, w.before args s = true) : qz_O s :=
  ⟨zx_ov (hts _ (List.mem_of_getElem? (i := 217) (by decide +kernel))), zx_ov (hts _ (List.mem_of_getElem? (i := 340) (by decide +kernel)))⟩
theorem zx_G {s : State} {args : Array Value} (hts : ∀ w ∈ lw_tbl, w.before args s = true) (hgv : (Jvm.Cond.and given_1 narrow_1).before args s = true) : ∃ (D : va_G) (cid : Nat → ClassId) (ax : Nat → Nat), (∀ i, 405 ≤ i → i < 426 → ax i < s.heap.size) ∧ ∀ ad : Nat → Nat, (∀ i, 405 ≤ i → ad i = ax i) → qm_K (ad, D, cid) s ∧ qm_Z (ad, D, cid) (fun q => s.heap.size ≤ q) s s.heap := by
  have hs := flat_of_before _ hgv
  have hA : ∀ a : Nat, a < s.heap.size → ¬ (s.heap.size ≤ a) := fun a h => by omega
  obtain ⟨D, hD⟩ := zx_D hts
  obtain ⟨c1, k1⟩ := zx_arr (t := .int) (hts _ (List.mem_filter.mp zw_int).1) (fun C h => by cases h)
  obtain ⟨c2, k2⟩ := zx_arr (t := .boolean) (hts _ (List.mem_filter.mp zw_bool).1) (fun C h => by cases h)
  obtain ⟨c3, k3⟩ := zx_arr (t := .byte) (hts _ (List.mem_filter.mp zw_byte).1) (fun C h => by cases h)
  obtain ⟨c4, k4⟩ := zx_ara (t := .int) (hts _ (List.mem_of_getElem? (i := 340) (by decide +kernel)))
  obtain ⟨c5, k5⟩ := zx_arq (C := "ColumnsLevelled$Run") (hts _ (List.mem_of_getElem? (i := 217) (by decide +kernel)))
  obtain ⟨adK, adV, hS, hT⟩ := vk_Sof (A := fun q => s.heap.size ≤ q) (args := args) (s := s) (N := 18) (tm := zx_t) (len := qs_len) (byt := qs_byt) (by decide +kernel)
    (fun i hi => hs _ (List.mem_of_getElem? (zx_ex i hi))) (fun i hi => hs _ (List.mem_of_getElem? (zx_co i hi))) (fun i hi => hs _ (List.mem_of_getElem? (zx_ar i hi))) (fun i hi => hs _ (List.mem_of_getElem? (zx_le i hi)))
    (fun i hi j hj => hs _ (List.mem_of_getElem? (zx_el i hi j hj)))
    (fun i j hi hj hij => by
      rcases Nat.lt_or_gt_of_ne hij with h | h
      · exact Or.inl (hs _ (List.mem_of_getElem? (zx_ne j hj i h)))
      · exact Or.inr (hs _ (List.mem_of_getElem? (zx_ne i hi j h)))) hA
  have h3 : ∀ k : Nat, ∃ t : Nat, k < 3 → (zx_s k).eval args s none [] s = some (.ref t) ∧ va_T .int t 8 (fun j => .int (qm_sv (405 + k) j)) (fun q => s.heap.size ≤ q) s s.heap := by
    intro k
    by_cases hk : k < 3
    · obtain ⟨t, ht⟩ := va_Tof (N := 8) (f := fun j => .int (qm_sv (405 + k) j)) (A := fun q => s.heap.size ≤ q) (by decide) (hs _ (List.mem_of_getElem? (zx_sa k hk))) (va_eqt (hs _ (List.mem_of_getElem? (zx_sl k hk)))) (fun j hj => va_eqt (hs _ (List.mem_of_getElem? (zx_se k hk j hj)))) hA
      exact ⟨t, fun _ => ht⟩
    · exact ⟨0, fun h => absurd h hk⟩
  obtain ⟨tb, htb⟩ := Classical.axiomOfChoice h3
  have hini : (Cond.initialized "ColumnsLevelled").before args s = true := hts _ (List.mem_of_getElem? (i := 110) (by decide +kernel))
  have hx : ∀ ad : Nat → Nat, (∀ i, 405 ≤ i → ad i = (fun i => if i < 408 then tb (i - 405) else if i < 426 then adK (i - 408) else adV (i - 426)) i) → ∀ i, 405 ≤ i → ad i = if i < 408 then tb (i - 405) else if i < 426 then adK (i - 408) else adV (i - 426) := fun ad h => h
  refine ⟨D, fun t => if t = 1 then c1 else if t = 2 then c2 else if t = 3 then c3 else if t = 4 then c4 else c5, fun i => if i < 408 then tb (i - 405) else if i < 426 then adK (i - 408) else adV (i - 426), fun i h1 h2 => ?_, fun ad had => ⟨⟨⟨hD, fun k q hq => ?_⟩, fun w hw => va_Nw.of (zx_nw w hw).2 (hts w (zx_nw w hw).1)⟩, fun q hq => ?_, ?_, fun r hr => ?_, ?_, ?_, fun i h1 h2 => ?_⟩⟩
  · show (if i < 408 then tb (i - 405) else if i < 426 then adK (i - 408) else adV (i - 426)) < _
    by_cases z : i < 408
    · rw [if_pos z]
      obtain ⟨-, cell, e1, -⟩ := htb (i - 405) (by omega)
      exact (Array.getElem?_eq_some_iff.mp e1).1
    · rw [if_neg z, if_pos h2]
      obtain ⟨cA, e1, -⟩ := (hS.1 (i - 408) (by omega)).1
      exact (Array.getElem?_eq_some_iff.mp e1).1
  · match k, hq with
    | 0, hq => cases hq; exact k1
    | 1, hq => cases hq; exact k2
    | 2, hq => cases hq; exact k3
    | 3, hq => cases hq; exact k4
    | 4, hq => cases hq; exact k5
    | n + 5, hq => cases hq
  · have h9 : ∀ k, k < 3 → va_Z "ColumnsLevelled" (zx_n k) "[I" (.ref (ad (405 + k))) (fun q => s.heap.size ≤ q) s s.heap := fun k hk => by
      rw [hx ad had (405 + k) (by omega), if_pos (by omega), Nat.add_sub_cancel_left]
      exact va_Zref (hts _ (zx_ls k hk)) hini (htb k hk).1 hA
    simp only [qm_sts, List.mem_cons, List.not_mem_nil, or_false] at hq
    rcases hq with rfl | rfl | rfl
    · exact h9 0 (by decide)
    · exact h9 1 (by decide)
    · exact h9 2 (by decide)
  · have a1 : ∀ i, i < 18 → ad (408 + i) = adK i := fun i hi => by rw [hx ad had _ (by omega), if_neg (by omega), if_pos (by omega), Nat.add_sub_cancel_left]
    have a2 : ∀ i, i < 18 → ad (426 + i) = adV i := fun i hi => by rw [hx ad had _ (by omega), if_neg (by omega), if_neg (by omega), Nat.add_sub_cancel_left]
    refine ⟨fun i hi => ?_, fun i j hi hj e => hS.2 i j hi hj ?_⟩
    · show va_O _ (ad (408 + i)) _ _ _ ∧ va_OF _ _ _ _ (ad (408 + i)) _ _ _ ∧ va_OF _ _ _ (.ref (ad (426 + i))) (ad (408 + i)) _ _ _ ∧ va_T _ (ad (426 + i)) _ _ _ _ _
      rw [a1 i hi, a2 i hi]
      exact hS.1 i hi
    · rw [← a1 i hi, ← a1 j hj]
      exact e
  · obtain ⟨i, hi, e1, e2, e3, e4⟩ := zx_tx r hr
    have h8 := hT i hi
    rw [show zx_t i = Term.string (zx_o i) (zx_i.getD i 0) from rfl, ← e1, ← e2] at h8
    have e5 : ad r.2.2.2 = adK i := by rw [e3, hx ad had _ (by omega), if_neg (by omega), if_pos (by omega), Nat.add_sub_cancel_left]
    show vk_R r.1 r.2.1 r.2.2.1 (ad r.2.2.2) s
    rw [e5]
    exact vk_R.of (A := args) (hts _ e4) h8
  · exact va_Zof (hts _ (List.mem_of_getElem? (i := 534) (by decide +kernel))) (hts _ (List.mem_of_getElem? (i := 121) (by decide +kernel))) (va_eqi (hs _ (List.mem_of_getElem? (i := 15) (by decide +kernel)))) hA
  · exact va_Zqof (hts _ (List.mem_of_getElem? (i := 550) (by decide +kernel))) (hts _ (List.mem_of_getElem? (i := 123) (by decide +kernel))) (hs _ (List.mem_of_getElem? (i := 16) (by decide +kernel))) hA
  · obtain ⟨k, rfl⟩ : ∃ k, i = 405 + k := ⟨i - 405, by omega⟩
    show va_T .int (ad (405 + k)) _ _ _ _ _
    rw [hx ad had (405 + k) (by omega), if_pos (by omega), Nat.add_sub_cancel_left]
    exact (htb k (by omega)).2
