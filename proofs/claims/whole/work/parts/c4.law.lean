/-! ===== the law's steps ===== -/
theorem qm_ok.rows {X : qm_X} {own : String} {cc : ByteArray} {nL f lo : Nat} {il il' : List qm_I} (hX : qm_ok X own cc nL f lo il) (h : qm_D cc il') : qm_ok X own cc nL f lo il' := ⟨hX.1, h, hX.2.2⟩
/-- a step that neither reads nor writes what is remembered -/
theorem qj_of {X : qm_X} {pc pc' : Nat} {ρ ρ' : List (Option Value)} {st st' : List Value} {σ : qm_Mem} (f : ∀ m : qm_M Unit, qm_B X m pc' ρ' st' (fun _ _ => True) → qm_B X m pc ρ st (fun _ _ => True)) (h : qm_J X pc' ρ' st' σ) : qm_J X pc ρ st σ := by
  refine f (fun s => @ite _ (s = σ) (Classical.propDecidable _) (some ((), s)) none) (fun σ0 a σ' h1 _ => ?_) σ () σ (if_pos rfl) trivial
  by_cases e : σ0 = σ
  · subst e
    exact h
  · have h2 := (if_neg e).symm.trans h1
    cases h2
/-- where the law goes: its own words, the script -/
def zl_K (X : qm_X) (b L : Nat) (xs : Nat → Int32) : Prop := (∃ il, qm_ok X "ColumnsLevelledLaw" code 4 13 552 il) ∧ (va_X b L xs (qx_s X) (qx_s X).heap ∧ b < (qx_s X).heap.size ∧ ¬ qx_A X b) ∧ L ≤ 3072
theorem zl_x {X : qm_X} {b L : Nat} {xs : Nat → Int32} (hK : zl_K X b L xs) {il : List qm_I} (h : qm_Db code il = true) : qm_ok X "ColumnsLevelledLaw" code 4 13 552 il := by
  obtain ⟨⟨il0, h0⟩, -⟩ := hK
  exact h0.rows (qm_D_of h)
section
variable {X : qm_X} {b L n : Nat} {xs : Nat → Int32} {σ : qm_Mem} {st : List Value}
/-- the frame at the law's loop -/
def zl_ρ (X : qm_X) (b n : Nat) : List (Option Value) := [some (.ref b), some (.ref (qx_ad X 0)), some (.ref (qx_ad X 367)), some (.int (Int32.ofNat n))]
def zl_arg (pc j : Nat) : List qm_I := [(pc, .aload_n 0, 1, pc + 1), (pc + 1, .iload_n 3, 1, pc + 2), (pc + 2, .iconst (j : Int), 1, pc + 3), (pc + 3, .iadd, 1, pc + 4), (pc + 4, .iaload, 1, pc + 5)]
theorem zl_ald (hK : zl_K X b L xs) {il : List qm_I} (hX : qm_ok X "ColumnsLevelledLaw" code 4 13 552 il) (k : Nat) {pc pc' i : Nat} {ρ : List (Option Value)} (hd : qm_nth il k = some (pc, .iaload, 1, pc')) (hi : i < L) (h : qm_J X pc' ρ (.int (xs i) :: st) σ) : qm_J X pc ρ (.int (Int32.ofNat i) :: .ref b :: st) σ := by
  cases qk_n hX hd
  obtain ⟨-, ⟨h1, h2, h3⟩, h4⟩ := hK
  have e : (Int32.ofNat i).toNatClampNeg = i := zi_c (by omega)
  exact fun H locs ls hH hS hL => va_sld (qk_ex hX) (qk_by hX) h1 h2 h3 hS (zi_in (by omega) hi) (qk_d hX hd) (by rw [e]; exact h H locs ls hH hS hL)
theorem zl_ci : ∀ j : Nat, j < 6 → Int32.ofInt (j : Int) = Int32.ofNat j := by decide
theorem zl_arg1 (hK : zl_K X b L xs) {pc j : Nat} (hD : qm_Db code (zl_arg pc j) = true) (hj : j < 6) (hn : n + 6 ≤ L) (h : qm_J X (pc + 5) (zl_ρ X b n) (.int (xs (n + j)) :: st) σ) : qm_J X pc (zl_ρ X b n) st σ := by
  have hX := zl_x hK hD
  refine qj_of (fun m => qb_aload_n hX 0 rfl rfl) ?_
  refine qj_of (fun m => qb_iload_n hX 1 rfl rfl) ?_
  refine qj_of (fun m => qb_iconst hX 2 (Int32.ofNat j) rfl (zl_ci j hj)) ?_
  refine qj_of (fun m => qb_iadd hX 3 rfl) ?_
  rw [← Int32.ofNat_add]
  exact zl_ald hK hX 4 rfl (by omega) h
def zl_st (xs : Nat → Int32) (n : Nat) : Nat → Nat → List Value → List Value
  | _, 0, st => st
  | j0, m + 1, st => zl_st xs n (j0 + 1) m (.int (xs (n + (j0 + 1))) :: st)
theorem zl_push (hK : zl_K X b L xs) (hn : n + 6 ≤ L) : ∀ (m j0 pc : Nat) (st : List Value), j0 + m < 6 → (∀ j, j < m → qm_Db code (zl_arg (pc + 5 * j) (j0 + j + 1)) = true) → qm_J X (pc + 5 * m) (zl_ρ X b n) (zl_st xs n j0 m st) σ → qm_J X pc (zl_ρ X b n) st σ
  | 0, _, _, _, _, _, h => h
  | m + 1, j0, pc, st, hm, hD, h => by
    refine zl_arg1 hK (hD 0 (by omega)) (by omega) hn ?_
    refine zl_push hK hn m (j0 + 1) (pc + 5) _ (by omega) (fun j hj => ?_) ?_
    · have e := hD (j + 1) (by omega)
      rw [show pc + 5 * (j + 1) = pc + 5 + 5 * j by omega, show j0 + (j + 1) + 1 = j0 + 1 + j + 1 by omega] at e
      exact e
    · rw [show pc + 5 + 5 * m = pc + 5 * (m + 1) by omega]
      exact h
theorem zl_call {il : List qm_I} {own : String} {cc : ByteArray} {nL f lo pc pc' : Nat} {ρ : List (Option Value)} {m : qm_M Int32} {x : Int32} {σ1 : qm_Mem} (hX : qm_ok X own cc nL f lo il) (k : Nat) {idx nL' n f' lo' a ci : Nat} {y : MethodName} {b : ByteArray} {ret : Option FieldType} {As st0 : List Value} {r : vw_C} (hd : qm_nth il k = some (pc, .invokevirtual idx, 3, pc')) (hc : qm_CV own idx y b nL' ret n) (hM : qm_MI (qx_l X) (qx_G X) y b nL' ret f' lo' (.ref (qx_ad X a) :: As) m) (ha : (qm_kd a).1 = 10 + ci) (hr : qm_cl[ci]? = some r ∧ r.1 = y.cls ∧ As.length = n ∧ f' + 1 ≤ f ∧ 8 + (nL' + 11) + lo' ≤ lo) (hst : st0 = As.reverse ++ .ref (qx_ad X a) :: st) (h8 : (st.map fun v => v.category).sum ≤ 8) (e : m σ = some (x, σ1)) (h : qm_J X pc' ρ (.int x :: st) σ1) : qm_J X pc ρ st0 σ := by
  refine qb_callI (g := fun x => mP x) (κ := fun a s => a = x ∧ s = σ1) hX k hd hc hM ha hr hst h8 (fun x' σ0 a σ' h1 h2 => ?_) σ x σ1 ((mB_of e).trans rfl) ⟨rfl, rfl⟩
  cases h1
  obtain ⟨rfl, rfl⟩ := h2
  exact h
def zl_Db (pc m idx idx' : Nat) : Bool := qm_Db code [(pc, .aload_n 1, 1, pc + 1)] && (List.range m).all (fun j => qm_Db code (zl_arg (pc + 1 + 5 * j) (0 + j + 1))) && qm_Db code [(pc + 1 + 5 * m, .invokevirtual idx, 3, pc + 4 + 5 * m), (pc + 4 + 5 * m, .aload_n 2, 1, pc + 5 + 5 * m)] && (List.range m).all (fun j => qm_Db code (zl_arg (pc + 5 + 5 * m + 5 * j) (0 + j + 1))) && qm_Db code [(pc + 5 + 10 * m, .invokevirtual idx', 3, pc + 8 + 10 * m), (pc + 8 + 10 * m, .if_icmp .eq (1192 - ((pc + 8 + 10 * m : Nat) : Int)), 3, pc + 11 + 10 * m)]
theorem zl_case (hK : zl_K X b L xs) (hn : n + 6 ≤ L) {pc m idx idx' nL nL' f' f'' lo' lo'' : Nat} (hD : zl_Db pc m idx idx' = true) (hm : m < 6) {y y' : MethodName} {bb bb' : ByteArray} {ret ret' : Option FieldType} {As : List Value} {F F' : qm_M Int32}
    (hc : qm_CV "ColumnsLevelledLaw" idx y bb nL ret m) (hc' : qm_CV "ColumnsLevelledLaw" idx' y' bb' nL' ret' m)
    (hM : qm_MI (qx_l X) (qx_G X) y bb nL ret f' lo' (.ref (qx_ad X 0) :: As) F) (hM' : qm_MI (qx_l X) (qx_G X) y' bb' nL' ret' f'' lo'' (.ref (qx_ad X 367) :: As) F')
    (hy : y.cls = qr_Top ∧ y'.cls = qr_Model) (hA : As.length = m ∧ ∀ st, zl_st xs n 0 m st = As.reverse ++ st) (hr : f' + 1 ≤ 13 ∧ 8 + (nL + 11) + lo' ≤ 552) (hr' : f'' + 1 ≤ 13 ∧ 8 + (nL' + 11) + lo'' ≤ 552)
    (hw : ∃ r σ1 σ2 τ2, F σ = some (r, σ1) ∧ F' σ1 = some (r, σ2) ∧ iRel σ2 τ2 ∧ Inv τ2) (h : ∀ σ2 τ2, iRel σ2 τ2 → Inv τ2 → qm_J X 1192 (zl_ρ X b n) [] σ2) : qm_J X pc (zl_ρ X b n) [] σ := by
  obtain ⟨r, σ1, σ2, τ2, e1, e2, e3, e4⟩ := hw
  unfold zl_Db at hD
  simp only [Bool.and_eq_true] at hD
  obtain ⟨⟨⟨⟨d1, d2⟩, d3⟩, d4⟩, d5⟩ := hD
  have d2 := fun j hj => List.all_eq_true.mp d2 j (List.mem_range.mpr hj)
  have d4 := fun j hj => List.all_eq_true.mp d4 j (List.mem_range.mpr hj)
  refine qj_of (fun m => qb_aload_n (zl_x hK d1) 0 rfl rfl) ?_
  refine zl_push hK hn m 0 (pc + 1) _ (by omega) d2 ?_
  rw [hA.2]
  refine zl_call (st := []) (zl_x hK d3) 0 rfl hc hM (ci := 8) (by decide +kernel) (r := (qr_Top, qt_Top, 11)) ⟨rfl, hy.1.symm, hA.1, hr⟩ rfl (by decide) e1 ?_
  refine qj_of (fun m => qb_aload_n (zl_x hK d3) 1 rfl rfl) ?_
  refine zl_push hK hn m 0 (pc + 5 + 5 * m) _ (by omega) d4 ?_
  rw [hA.2, show pc + 5 + 5 * m + 5 * m = pc + 5 + 10 * m by omega]
  refine zl_call (st := [.int r]) (zl_x hK d5) 0 rfl hc' hM' (ci := 9) (by decide +kernel) (r := (qr_Model, qt_Model, 54)) ⟨rfl, hy.2.symm, hA.1, hr'⟩ rfl (by exact Nat.le_of_ble_eq_true rfl) e2 ?_
  have hX := zl_x hK d5
  intro H locs ls hH hS hL
  exact lv_icmp_eq (tgt := 1192) (qk_ex hX) (qk_by hX) (qk_d hX (k := 1) rfl) (by omega) (fun _ => h σ2 τ2 e3 e4 H locs ls hH hS hL) (fun c => absurd rfl c)
end
