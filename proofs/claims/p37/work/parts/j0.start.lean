/-! ===== what holds in the beginning ===== -/
def zx_a : List Cond := flatC (Jvm.Cond.and given_1 narrow_1)
def zx_o (i : Nat) : String := if i = 0 then qr_Teller else qr_LRun
def zx_i : List Nat := [94, 38, 40, 42, 44, 46, 48, 50, 52, 54, 56, 58, 60, 62, 69, 71, 83, 85, 87, 89]
def zx_t (i : Nat) : Term := .string (zx_o i) (zx_i.getD i 0)
def zx_b : List Nat := [248, 355, 367, 379, 393, 407, 422, 436, 451, 467, 485, 504, 523, 544, 565, 584, 603, 628, 655, 684]
def zx_v (i : Nat) : Term := .field (zx_t i) "java/lang/String" "value" "[B"
def zx_byt : List (List Int32) := qs_byt.getD 0 [] :: (List.range 19).map (fun i => (yWd (i + 1)).map Int32.ofInt)
def zx_len : List Nat := zx_byt.map List.length
theorem zx_ex : ∀ i, i < 20 → zx_a[zx_b.getD i 0]? = some (Cond.exactly (zx_t i) "java/lang/String") := by decide +kernel
theorem zx_co : ∀ i, i < 20 → zx_a[zx_b.getD i 0 + 1]? = some (Cond.eq (.field (zx_t i) "java/lang/String" "coder" "B") (.int 0)) := by decide +kernel
theorem zx_ar : ∀ i, i < 20 → zx_a[zx_b.getD i 0 + 2]? = some (Cond.arrayOf (zx_v i) .byte) := by decide +kernel
theorem zx_le : ∀ i, i < 20 → zx_a[zx_b.getD i 0 + 3]? = some (Cond.eq (.length (zx_v i)) (.int (Int32.ofNat (zx_len.getD i 0)))) := by decide +kernel
theorem zx_el : ∀ i, i < 20 → ∀ j, j < zx_len.getD i 0 → zx_a[zx_b.getD i 0 + 4 + j]? = some (Cond.eq (.elem (zx_v i) (.int (Int32.ofNat j))) (.int ((zx_byt.getD i []).getD j 0))) := by decide +kernel
theorem zx_ne : ∀ j, j < 20 → ∀ i, i < j → zx_a[zx_b.getD j 0 + 4 + zx_len.getD j 0 + i]? = some (Cond.not (Cond.eq (zx_t i) (zx_t j))) := by decide +kernel
def zx_n (k : Nat) : String := ["SETTING_FIRST", "SETTING_LEAST", "SETTING_MOST"].getD k ""
def zx_s (k : Nat) : Term := .static "ColumnsLevelled" (zx_n k) "[I"
def zx_c : List Nat := [5, 21, 32]
theorem zx_sa : ∀ k, k < 3 → zx_a[zx_c.getD k 0]? = some (Cond.arrayOf (zx_s k) .int) := by decide +kernel
theorem zx_sl : ∀ k, k < 3 → zx_a[zx_c.getD k 0 + 1]? = some (Cond.eq (.length (zx_s k)) (.int 8)) := by decide +kernel
theorem zx_se : ∀ k, k < 3 → ∀ j, j < 8 → zx_a[zx_c.getD k 0 + 2 + j]? = some (Cond.eq (.elem (zx_s k) (.int (Int32.ofNat j))) (.int (qm_sv (405 + k) j))) := by decide +kernel
theorem zx_ls : ∀ k, k < 3 → Cond.laysStatic "ColumnsLevelled" (zx_n k) "[I" ∈ lw_tbl := by decide +kernel
theorem zx_nw : ∀ w ∈ qm_nw, w ∈ lw_tbl ∧ w.onTables = true := by decide +kernel
theorem zx_t0 : Cond.stringRef qr_Teller 94 " columns height orphans widows follow note rule room lines solid head table span tied whole space mark " ∈ lw_tbl := by decide +kernel
theorem zx_tx : ∀ r ∈ ys_all, (1 ≤ r.2.2.2 ∧ r.2.2.2 ≤ 19) ∧ r.1 = zx_o r.2.2.2 ∧ r.2.1 = zx_i.getD r.2.2.2 0 ∧ Cond.stringRef r.1 r.2.1 r.2.2.1 ∈ lw_tbl := by decide +kernel
def zx_d (k : Nat) : Term := .static "java/lang/Integer" (["DigitOnes", "DigitTens"].getD k "") "[B"
def zx_dv (k j : Nat) : Int32 := if k = 0 then Int32.ofNat (48 + j % 10) else Int32.ofNat (48 + j / 10)
theorem zx_da : ∀ k, k < 2 → zx_a[43 + 103 * k]? = some (Cond.arrayOf (zx_d k) .byte) := by decide +kernel
theorem zx_dl : ∀ k, k < 2 → zx_a[44 + 103 * k]? = some (Cond.eq (.length (zx_d k)) (.int (Int32.ofNat 100))) := by decide +kernel
theorem zx_de : ∀ k, k < 2 → ∀ j, j < 100 → zx_a[45 + 103 * k + j]? = some (Cond.eq (.elem (zx_d k) (.int (Int32.ofNat j))) (.int (zx_dv k j))) := by decide +kernel
theorem zx_cls {s : State} {args : Array Value} (hts : ∀ w ∈ lw_tbl, w.before args s = true) {ci N : Nat} {C : String} {T : u_T} (h : qm_cls ci C T N) (hi : Cond.instantiable C N ∈ lw_tbl) : ∃ q : ClassId × (Nat → Nat), ∀ r, qm_cl[ci]? = some r → u_Kn s r.1 r.2.1 r.2.2 q.1 q.2 := by
  obtain ⟨cC, iS, hk⟩ := u_known (ws := qm_tb) (fun w hw => hts w (List.mem_filter.mp hw).1) h.2 (hts _ hi)
  exact ⟨(cC, iS), fun r hr => by rw [h.1] at hr; cases hr; exact hk⟩
theorem zx_arr {s : State} {args : Array Value} {t : FieldType} (h : (Cond.arrayClass t).before args s = true) (ht : ∀ C, t ≠ .object C) : ∃ cA, ArrOfT s cA t ∧ va_RA s cA t := by
  obtain ⟨c, k, comp, h1, h2, h3⟩ := Cond.arrayClass_spec h
  refine ⟨c, fun n z => ⟨(fun k h => by cases h), k, h2, comp, h3⟩, ?_⟩
  cases t <;> first | exact h1 | exact absurd rfl (ht _)
theorem zx_arq {s : State} {args : Array Value} {C : String} (h : (Cond.arrayOver (.object C)).before args s = true) : ∃ cA, ArrOfT s cA (.object C) ∧ va_RA s cA (.object C) := by
  obtain ⟨comp, c, k, h1, -, h2, h3, h4⟩ := Cond.arrayOver_spec h
  exact ⟨c, fun n z => ⟨(fun k h => by cases h), k, h2, comp, h3⟩, k, comp, h2, h3, h1, h4⟩
theorem zx_ara {s : State} {args : Array Value} {t : FieldType} (h : (Cond.arrayOver (.array t)).before args s = true) : ∃ cA, ArrOfT s cA (.array t) ∧ va_RA s cA (.array t) := by
  obtain ⟨comp, c, k, h1, h2, h3, h4⟩ := Cond.arrayOver_specA h
  exact ⟨c, fun n z => ⟨(fun k h => by cases h), k, h2, comp, h3⟩, h4⟩
theorem zx_D {s : State} {args : Array Value} (hts : ∀ w ∈ lw_tbl, w.before args s = true) : ∃ D : va_G, ∀ (c : Nat) (q : vw_C), qm_cl[c]? = some q → u_Kn s q.1 q.2.1 q.2.2 (D.1 c) (D.2 c) := by
  have h0 : ∀ c : Nat, ∃ q : ClassId × (Nat → Nat), ∀ r, qm_cl[c]? = some r → u_Kn s r.1 r.2.1 r.2.2 q.1 q.2 := by
    intro c
    match c with
    | 0 => exact zx_cls hts jc_0 (List.mem_of_getElem? (i := 265) (by decide +kernel))
    | 1 => exact zx_cls hts jc_1 (List.mem_of_getElem? (i := 170) (by decide +kernel))
    | 2 => exact zx_cls hts jc_2 (List.mem_of_getElem? (i := 144) (by decide +kernel))
    | 3 => exact zx_cls hts jc_3 (List.mem_of_getElem? (i := 164) (by decide +kernel))
    | 4 => exact zx_cls hts jc_4 (List.mem_of_getElem? (i := 68) (by decide +kernel))
    | 5 => exact zx_cls hts jc_5 (List.mem_of_getElem? (i := 94) (by decide +kernel))
    | 6 => exact zx_cls hts jc_6 (List.mem_of_getElem? (i := 110) (by decide +kernel))
    | 7 => exact zx_cls hts jc_7 (List.mem_of_getElem? (i := 362) (by decide +kernel))
    | 8 => exact zx_cls hts jc_8 (List.mem_of_getElem? (i := 60) (by decide +kernel))
    | 9 => exact zx_cls hts jc_9 (List.mem_of_getElem? (i := 1206) (by decide +kernel))
    | 10 => exact zx_cls hts jc_10 (List.mem_of_getElem? (i := 855) (by decide +kernel))
    | 11 => exact zx_cls hts jc_11 (List.mem_of_getElem? (i := 925) (by decide +kernel))
    | 12 => exact zx_cls hts jc_12 (List.mem_of_getElem? (i := 1096) (by decide +kernel))
    | n + 13 => exact ⟨(default, fun _ => 0), fun r hr => by cases hr⟩
  obtain ⟨f, hf⟩ := Classical.axiomOfChoice h0
  exact ⟨(fun c => (f c).1, fun c => (f c).2), fun c q hq => hf c q hq⟩
theorem zx_ov {s : State} {args : Array Value} {t : FieldType} (h : (Cond.arrayOver t).before args s = true) : (Cond.arrayOver t).before #[] s = true := by
  simp only [Cond.before, Cond.holds, Cond.value] at h ⊢
  exact h
theorem zx_O {s : State} {args : Array Value} (hts : ∀ w ∈ lw_tbl, w.before args s = true) : qz_O s :=
  ⟨zx_ov (hts _ (List.mem_of_getElem? (i := 150) (by decide +kernel))), zx_ov (hts _ (List.mem_of_getElem? (i := 271) (by decide +kernel)))⟩
/-- the texts, the digits: where they lie -/
def zx_Tx (s : State) (args : Array Value) (adK adV : Nat → Nat) (a1 a2 : Nat) : Prop :=
  vk_S 20 zx_len zx_byt adK adV (fun q => s.heap.size ≤ q) s s.heap ∧ (∀ i, i < 20 → (zx_t i).eval args s none [] s = some (.ref (adK i))) ∧
  ((zx_d 0).eval args s none [] s = some (.ref a1) ∧ va_T .byte a1 100 (fun j => .int (zx_dv 0 j)) (fun q => s.heap.size ≤ q) s s.heap) ∧
  ((zx_d 1).eval args s none [] s = some (.ref a2) ∧ va_T .byte a2 100 (fun j => .int (zx_dv 1 j)) (fun q => s.heap.size ≤ q) s s.heap)
theorem zx_Tx_of {s : State} {args : Array Value} (hgv : (Jvm.Cond.and given_1 narrow_1).before args s = true) : ∃ adK adV a1 a2, zx_Tx s args adK adV a1 a2 := by
  have hs := flat_of_before _ hgv
  have hA : ∀ a : Nat, a < s.heap.size → ¬ (s.heap.size ≤ a) := fun a h => by omega
  obtain ⟨adK, adV, hS, hT⟩ := vk_Sof (A := fun q => s.heap.size ≤ q) (args := args) (s := s) (N := 20) (tm := zx_t) (len := zx_len) (byt := zx_byt) (by decide +kernel)
    (fun i hi => hs _ (List.mem_of_getElem? (zx_ex i hi))) (fun i hi => hs _ (List.mem_of_getElem? (zx_co i hi))) (fun i hi => hs _ (List.mem_of_getElem? (zx_ar i hi))) (fun i hi => hs _ (List.mem_of_getElem? (zx_le i hi)))
    (fun i hi j hj => hs _ (List.mem_of_getElem? (zx_el i hi j hj)))
    (fun i j hi hj hij => by
      rcases Nat.lt_or_gt_of_ne hij with h | h
      · exact Or.inl (hs _ (List.mem_of_getElem? (zx_ne j hj i h)))
      · exact Or.inr (hs _ (List.mem_of_getElem? (zx_ne i hi j h)))) hA
  have hd : ∀ k, k < 2 → ∃ t : Nat, (zx_d k).eval args s none [] s = some (.ref t) ∧ va_T .byte t 100 (fun j => .int (zx_dv k j)) (fun q => s.heap.size ≤ q) s s.heap := fun k hk =>
    va_Tof (N := 100) (f := fun j => .int (zx_dv k j)) (A := fun q => s.heap.size ≤ q) (by decide) (hs _ (List.mem_of_getElem? (zx_da k hk))) (va_eqt (hs _ (List.mem_of_getElem? (zx_dl k hk)))) (fun j hj => va_eqt (hs _ (List.mem_of_getElem? (zx_de k hk j hj)))) hA
  obtain ⟨a1, h1⟩ := hd 0 (by decide)
  obtain ⟨a2, h2⟩ := hd 1 (by decide)
  exact ⟨adK, adV, a1, a2, hS, hT, h1, h2⟩
theorem zx_l0 : zx_len.getD 0 0 = qs_len.getD 0 0 ∧ zx_byt.getD 0 [] = qs_byt.getD 0 [] := by decide +kernel
theorem zx_G {s : State} {args : Array Value} {adK adV : Nat → Nat} {a1 a2 : Nat} (hts : ∀ w ∈ lw_tbl, w.before args s = true) (hgv : (Jvm.Cond.and given_1 narrow_1).before args s = true) (hTx : zx_Tx s args adK adV a1 a2) : ∃ (D : va_G) (cid : Nat → ClassId) (ax : Nat → Nat), (∀ i, 405 ≤ i → i < 409 → ax i < s.heap.size) ∧ ∀ ad : Nat → Nat, (∀ i, 405 ≤ i → ad i = ax i) → qm_K (ad, D, cid) s ∧ qm_Z (ad, D, cid) (fun q => s.heap.size ≤ q) s s.heap := by
  have hs := flat_of_before _ hgv
  have hA : ∀ a : Nat, a < s.heap.size → ¬ (s.heap.size ≤ a) := fun a h => by omega
  obtain ⟨hS, hT, -, -⟩ := hTx
  obtain ⟨D, hD⟩ := zx_D hts
  obtain ⟨c1, k1⟩ := zx_arr (t := .int) (hts _ (List.mem_filter.mp zw_int).1) (fun C h => by cases h)
  obtain ⟨c2, k2⟩ := zx_arr (t := .boolean) (hts _ (List.mem_filter.mp zw_bool).1) (fun C h => by cases h)
  obtain ⟨c3, k3⟩ := zx_arr (t := .byte) (hts _ (List.mem_filter.mp zw_byte).1) (fun C h => by cases h)
  obtain ⟨c4, k4⟩ := zx_ara (t := .int) (hts _ (List.mem_of_getElem? (i := 271) (by decide +kernel)))
  obtain ⟨c5, k5⟩ := zx_arq (C := "ColumnsLevelled$Run") (hts _ (List.mem_of_getElem? (i := 150) (by decide +kernel)))
  obtain ⟨c7, k7⟩ := zx_arq (C := "java/lang/String") (hts _ (List.mem_of_getElem? (i := 910) (by decide +kernel)))
  have h3 : ∀ k : Nat, ∃ t : Nat, k < 3 → (zx_s k).eval args s none [] s = some (.ref t) ∧ va_T .int t 8 (fun j => .int (qm_sv (405 + k) j)) (fun q => s.heap.size ≤ q) s s.heap := by
    intro k
    by_cases hk : k < 3
    · obtain ⟨t, ht⟩ := va_Tof (N := 8) (f := fun j => .int (qm_sv (405 + k) j)) (A := fun q => s.heap.size ≤ q) (by decide) (hs _ (List.mem_of_getElem? (zx_sa k hk))) (va_eqt (hs _ (List.mem_of_getElem? (zx_sl k hk)))) (fun j hj => va_eqt (hs _ (List.mem_of_getElem? (zx_se k hk j hj)))) hA
      exact ⟨t, fun _ => ht⟩
    · exact ⟨0, fun h => absurd h hk⟩
  obtain ⟨tb, htb⟩ := Classical.axiomOfChoice h3
  have hini : (Cond.initialized "ColumnsLevelled").before args s = true := hts _ (List.mem_of_getElem? (i := 37) (by decide +kernel))
  have hx : ∀ ad : Nat → Nat, (∀ i, 405 ≤ i → ad i = (fun i => if i < 408 then tb (i - 405) else if i < 426 then adK 0 else adV 0) i) → ∀ i, 405 ≤ i → ad i = if i < 408 then tb (i - 405) else if i < 426 then adK 0 else adV 0 := fun ad h => h
  refine ⟨D, fun t => if t = 1 then c1 else if t = 2 then c2 else if t = 3 then c3 else if t = 4 then c4 else if t = 5 then c5 else c7, fun i => if i < 408 then tb (i - 405) else if i < 426 then adK 0 else adV 0, fun i h1 h2 => ?_, fun ad had => ⟨⟨⟨hD, fun k q hq => ?_⟩, fun w hw => va_Nw.of (zx_nw w hw).2 (hts w (zx_nw w hw).1)⟩, fun q hq => ?_, ?_, fun r hr => ?_, ?_, ?_, fun i h1 h2 => ?_⟩⟩
  · show (if i < 408 then tb (i - 405) else if i < 426 then adK 0 else adV 0) < _
    by_cases z : i < 408
    · rw [if_pos z]
      obtain ⟨-, cell, e1, -⟩ := htb (i - 405) (by omega)
      exact (Array.getElem?_eq_some_iff.mp e1).1
    · rw [if_neg z, if_pos (by omega)]
      obtain ⟨cA, e1, -⟩ := (hS.1 0 (by decide)).1
      exact (Array.getElem?_eq_some_iff.mp e1).1
  · match k, hq with
    | 0, hq => cases hq; exact k1
    | 1, hq => cases hq; exact k2
    | 2, hq => cases hq; exact k3
    | 3, hq => cases hq; exact k4
    | 4, hq => cases hq; exact k5
    | 5, hq => cases hq; exact k7
    | n + 6, hq => cases hq
  · have h9 : ∀ k, k < 3 → va_Z "ColumnsLevelled" (zx_n k) "[I" (.ref (ad (405 + k))) (fun q => s.heap.size ≤ q) s s.heap := fun k hk => by
      rw [hx ad had (405 + k) (by omega), if_pos (by omega), Nat.add_sub_cancel_left]
      exact va_Zref (hts _ (zx_ls k hk)) hini (htb k hk).1 hA
    simp only [qm_sts, List.mem_cons, List.not_mem_nil, or_false] at hq
    rcases hq with rfl | rfl | rfl
    · exact h9 0 (by decide)
    · exact h9 1 (by decide)
    · exact h9 2 (by decide)
  · have a1 : ad 408 = adK 0 := by rw [hx ad had _ (by omega), if_neg (by omega), if_pos (by omega)]
    have a2 : ad 426 = adV 0 := by rw [hx ad had _ (by omega), if_neg (by omega), if_neg (by omega)]
    refine ⟨fun i hi => ?_, fun i j hi hj _ => by omega⟩
    obtain rfl : i = 0 := by omega
    show va_O _ (ad 408) _ _ _ ∧ va_OF _ _ _ _ (ad 408) _ _ _ ∧ va_OF _ _ _ (.ref (ad 426)) (ad 408) _ _ _ ∧ va_T _ (ad 426) _ _ _ _ _
    rw [a1, a2, ← zx_l0.1, ← zx_l0.2]
    exact hS.1 0 (by decide)
  · simp only [qs_all, List.mem_singleton] at hr
    subst hr
    have e5 : ad 408 = adK 0 := by rw [hx ad had _ (by omega), if_neg (by omega), if_pos (by omega)]
    show vk_R qr_Teller 94 _ (ad 408) s
    rw [e5]
    exact vk_R.of (A := args) (hts _ zx_t0) (hT 0 (by decide))
  · exact va_Zof (hts _ (List.mem_of_getElem? (i := 448) (by decide +kernel))) (hts _ (List.mem_of_getElem? (i := 52) (by decide +kernel))) (va_eqi (hs _ (List.mem_of_getElem? (i := 15) (by decide +kernel)))) hA
  · exact va_Zqof (hts _ (List.mem_of_getElem? (i := 464) (by decide +kernel))) (hts _ (List.mem_of_getElem? (i := 56) (by decide +kernel))) (hs _ (List.mem_of_getElem? (i := 16) (by decide +kernel))) hA
  · obtain ⟨k, rfl⟩ : ∃ k, i = 405 + k := ⟨i - 405, by omega⟩
    show va_T .int (ad (405 + k)) _ _ _ _ _
    rw [hx ad had (405 + k) (by omega), if_pos (by omega), Nat.add_sub_cancel_left]
    exact (htb k (by omega)).2
