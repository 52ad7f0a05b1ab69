def jy_Precond_checkIndex : MethodName := ⟨"jdk/internal/util/Preconditions", "checkIndex", "(IILjava/util/function/BiFunction;)I"⟩
def jy_Latin1_charAt : MethodName := ⟨"java/lang/StringLatin1", "charAt", "([BI)C"⟩
def jl_String_coder : List qm_I := [(0, .getstatic 38, 3, 3), (3, .ifCond .eq 10, 3, 6), (6, .aload_n 0, 1, 7), (7, .getfield 15, 3, 10), (10, .goto 4, 3, 13), (13, .iconst 1, 1, 14), (14, .ireturn, 1, 15)]
theorem jd_String_coder : qm_D prog_19_method_152_code jl_String_coder := qm_D_of (by decide +kernel)
def jl_String_isLatin1 : List qm_I := [(0, .getstatic 38, 3, 3), (3, .ifCond .eq 14, 3, 6), (6, .aload_n 0, 1, 7), (7, .getfield 15, 3, 10), (10, .ifCond .ne 7, 3, 13), (13, .iconst 1, 1, 14), (14, .goto 4, 3, 17), (17, .iconst 0, 1, 18), (18, .ireturn, 1, 19)]
theorem jd_String_isLatin1 : qm_D prog_19_method_154_code jl_String_isLatin1 := qm_D_of (by decide +kernel)
def jl_Precond_checkIndex : List qm_I := [(0, .iload_n 0, 1, 1), (1, .ifCond .lt 8, 3, 4), (4, .iload_n 0, 1, 5), (5, .iload_n 1, 1, 6), (6, .if_icmp .lt 10, 3, 9), (9, .aload_n 2, 1, 10), (10, .iload_n 0, 1, 11), (11, .iload_n 1, 1, 12), (12, .invokestatic 95, 3, 15), (15, .athrow, 1, 16), (16, .iload_n 0, 1, 17), (17, .ireturn, 1, 18)]
theorem jd_Precond_checkIndex : qm_D prog_26_method_11_code jl_Precond_checkIndex := qm_D_of (by decide +kernel)
def jl_String_checkIndex : List qm_I := [(0, .iload_n 0, 1, 1), (1, .iload_n 1, 1, 2), (2, .getstatic 1053, 3, 5), (5, .invokestatic 1059, 3, 8), (8, .pop, 1, 9), (9, .return_, 1, 10)]
theorem jd_String_checkIndex : qm_D prog_19_method_155_code jl_String_checkIndex := qm_D_of (by decide +kernel)
def jl_Latin1_charAt : List qm_I := [(0, .iload_n 1, 1, 1), (1, .aload_n 0, 1, 2), (2, .arraylength, 1, 3), (3, .invokestatic 9, 3, 6), (6, .aload_n 0, 1, 7), (7, .iload_n 1, 1, 8), (8, .baload, 1, 9), (9, .sipush 255, 3, 12), (12, .iand, 1, 13), (13, .i2c, 1, 14), (14, .ireturn, 1, 15)]
theorem jd_Latin1_charAt : qm_D prog_21_method_2_code jl_Latin1_charAt := qm_D_of (by decide +kernel)
def jl_String_length : List qm_I := [(0, .aload_n 0, 1, 1), (1, .getfield 9, 3, 4), (4, .arraylength, 1, 5), (5, .aload_n 0, 1, 6), (6, .invokevirtual 335, 3, 9), (9, .ishr, 1, 10), (10, .ireturn, 1, 11)]
theorem jd_String_length : qm_D prog_19_method_54_code jl_String_length := qm_D_of (by decide +kernel)
def jl_String_charAt : List qm_I := [(0, .aload_n 0, 1, 1), (1, .invokevirtual 492, 3, 4), (4, .ifCond .eq 12, 3, 7), (7, .aload_n 0, 1, 8), (8, .getfield 9, 3, 11), (11, .iload_n 1, 1, 12), (12, .invokestatic 495, 3, 15), (15, .ireturn, 1, 16), (16, .aload_n 0, 1, 17), (17, .getfield 9, 3, 20), (20, .iload_n 1, 1, 21), (21, .invokestatic 498, 3, 24), (24, .ireturn, 1, 25)]
theorem jd_String_charAt : qm_D prog_19_method_56_code jl_String_charAt := qm_D_of (by decide +kernel)
theorem sl_9 : Cond.fieldLink "java/lang/String" 9 "java/lang/String" "value" "[B" ∈ qm_tb := qm_good (List.mem_of_getElem? (i := 1137) (by decide +kernel)) rfl
theorem sl_15 : Cond.fieldLink "java/lang/String" 15 "java/lang/String" "coder" "B" ∈ qm_tb := qm_good (List.mem_of_getElem? (i := 1138) (by decide +kernel)) rfl
theorem sl_38 : Cond.fieldLink "java/lang/String" 38 "java/lang/String" "COMPACT_STRINGS" "Z" ∈ qm_tb := qm_good (List.mem_of_getElem? (i := 447) (by decide +kernel)) rfl
theorem sl_1053 : Cond.fieldLink "java/lang/String" 1053 "jdk/internal/util/Preconditions" "SIOOBE_FORMATTER" "Ljava/util/function/BiFunction;" ∈ qm_tb := qm_good (List.mem_of_getElem? (i := 463) (by decide +kernel)) rfl
theorem cy_String_length {own : String} {idx : Nat} (h : Cond.methodLink own idx jy_String_length ∈ qm_tb) : qm_CV own idx jy_String_length prog_19_method_54_code 1 (some .int) 0 := ⟨h, qm_good (List.mem_of_getElem? (i := 440) (by decide +kernel)) rfl, qm_good (List.mem_of_getElem? (i := 441) (by decide +kernel)) rfl, qm_good (List.mem_of_getElem? (i := 52) (by decide +kernel)) rfl, qm_good (List.mem_of_getElem? (i := 442) (by decide +kernel)) rfl, ⟨by decide +kernel, by decide +kernel, by decide +kernel⟩⟩
theorem cv_Teller_96 : qm_CV qr_Teller 96 jy_String_length prog_19_method_54_code 1 (some .int) 0 := cy_String_length (qm_good (List.mem_of_getElem? (i := 439) (by decide +kernel)) rfl)
theorem cy_String_coder {own : String} {idx : Nat} (h : Cond.methodLink own idx jy_String_coder ∈ qm_tb) : qm_CV own idx jy_String_coder prog_19_method_152_code 1 (some .byte) 0 := ⟨h, qm_good (List.mem_of_getElem? (i := 444) (by decide +kernel)) rfl, qm_good (List.mem_of_getElem? (i := 445) (by decide +kernel)) rfl, qm_good (List.mem_of_getElem? (i := 52) (by decide +kernel)) rfl, qm_good (List.mem_of_getElem? (i := 446) (by decide +kernel)) rfl, ⟨by decide +kernel, by decide +kernel, by decide +kernel⟩⟩
theorem cv_String_335 : qm_CV "java/lang/String" 335 jy_String_coder prog_19_method_152_code 1 (some .byte) 0 := cy_String_coder (qm_good (List.mem_of_getElem? (i := 443) (by decide +kernel)) rfl)
theorem cy_String_charAt {own : String} {idx : Nat} (h : Cond.methodLink own idx jy_String_charAt ∈ qm_tb) : qm_CV own idx jy_String_charAt prog_19_method_56_code 2 (some .char) 1 := ⟨h, qm_good (List.mem_of_getElem? (i := 450) (by decide +kernel)) rfl, qm_good (List.mem_of_getElem? (i := 451) (by decide +kernel)) rfl, qm_good (List.mem_of_getElem? (i := 52) (by decide +kernel)) rfl, qm_good (List.mem_of_getElem? (i := 452) (by decide +kernel)) rfl, ⟨by decide +kernel, by decide +kernel, by decide +kernel⟩⟩
theorem cv_Teller_100 : qm_CV qr_Teller 100 jy_String_charAt prog_19_method_56_code 2 (some .char) 1 := cy_String_charAt (qm_good (List.mem_of_getElem? (i := 449) (by decide +kernel)) rfl)
theorem cy_String_isLatin1 {own : String} {idx : Nat} (h : Cond.methodLink own idx jy_String_isLatin1 ∈ qm_tb) : qm_CV own idx jy_String_isLatin1 prog_19_method_154_code 1 (some .boolean) 0 := ⟨h, qm_good (List.mem_of_getElem? (i := 454) (by decide +kernel)) rfl, qm_good (List.mem_of_getElem? (i := 455) (by decide +kernel)) rfl, qm_good (List.mem_of_getElem? (i := 52) (by decide +kernel)) rfl, qm_good (List.mem_of_getElem? (i := 456) (by decide +kernel)) rfl, ⟨by decide +kernel, by decide +kernel, by decide +kernel⟩⟩
theorem cv_String_492 : qm_CV "java/lang/String" 492 jy_String_isLatin1 prog_19_method_154_code 1 (some .boolean) 0 := cy_String_isLatin1 (qm_good (List.mem_of_getElem? (i := 453) (by decide +kernel)) rfl)
theorem cys_Latin1_charAt {own : String} {idx : Nat} (h : Cond.methodLink own idx jy_Latin1_charAt ∈ qm_tb) : qm_CS own idx jy_Latin1_charAt prog_21_method_2_code 2 (some .char) 2 := ⟨h, qm_good (List.mem_of_getElem? (i := 458) (by decide +kernel)) rfl, qm_good (List.mem_of_getElem? (i := 57) (by decide +kernel)) rfl, qm_good (List.mem_of_getElem? (i := 459) (by decide +kernel)) rfl, ⟨by decide +kernel, by decide +kernel, by decide +kernel⟩⟩
theorem cv_String_495 : qm_CS "java/lang/String" 495 jy_Latin1_charAt prog_21_method_2_code 2 (some .char) 2 := cys_Latin1_charAt (qm_good (List.mem_of_getElem? (i := 457) (by decide +kernel)) rfl)
theorem cys_String_checkIndex {own : String} {idx : Nat} (h : Cond.methodLink own idx jy_String_checkIndex ∈ qm_tb) : qm_CS own idx jy_String_checkIndex prog_19_method_155_code 2 none 2 := ⟨h, qm_good (List.mem_of_getElem? (i := 461) (by decide +kernel)) rfl, qm_good (List.mem_of_getElem? (i := 52) (by decide +kernel)) rfl, qm_good (List.mem_of_getElem? (i := 462) (by decide +kernel)) rfl, ⟨by decide +kernel, by decide +kernel, by decide +kernel⟩⟩
theorem cv_Latin1_9 : qm_CS "java/lang/StringLatin1" 9 jy_String_checkIndex prog_19_method_155_code 2 none 2 := cys_String_checkIndex (qm_good (List.mem_of_getElem? (i := 460) (by decide +kernel)) rfl)
theorem cys_Precond_checkIndex {own : String} {idx : Nat} (h : Cond.methodLink own idx jy_Precond_checkIndex ∈ qm_tb) : qm_CS own idx jy_Precond_checkIndex prog_26_method_11_code 3 (some .int) 3 := ⟨h, qm_good (List.mem_of_getElem? (i := 466) (by decide +kernel)) rfl, qm_good (List.mem_of_getElem? (i := 56) (by decide +kernel)) rfl, qm_good (List.mem_of_getElem? (i := 467) (by decide +kernel)) rfl, ⟨by decide +kernel, by decide +kernel, by decide +kernel⟩⟩
theorem cv_String_1059 : qm_CS "java/lang/String" 1059 jy_Precond_checkIndex prog_26_method_11_code 3 (some .int) 3 := cys_Precond_checkIndex (qm_good (List.mem_of_getElem? (i := 465) (by decide +kernel)) rfl)
theorem ks_Teller_94 : (qr_Teller, 94, " columns height orphans widows follow note rule room lines solid head table span tied whole space mark ", 408) ∈ qs_all := by decide +kernel
section
variable {X : qm_X} {own : String} {cc : ByteArray} {nL f lo : Nat} {il : List qm_I}
variable {α : Type} {pc pc' : Nat} {ρ : List (Option Value)} {st : List Value} {κ : α → qm_Mem → Prop} {m : qm_M α}
theorem qb_F : qm_B X (mF : qm_M α) pc ρ st κ := fun σ a σ' h => by cases h
theorem qb_nret (hX : qm_ok X own cc nL f lo il) (k : Nat) {x r0 : Int32} {σ0 : qm_Mem} {a : α} {ty : FieldType} (hd : qm_nth il k = some (pc, .ireturn, 1, pc')) (hR : qm_RI X r0 σ0 ty) (hn : narrow ty (.int x) = .int x) (h : ∀ σ, κ a σ → x = r0 ∧ σ = σ0) : qm_B X (mP a) pc ρ [.int x] κ := by
  intro σ b σ' h1 h2
  cases h1
  exact qj_ret hX hd hR hn (h _ h2)
theorem qb_i2c (hX : qm_ok X own cc nL f lo il) (k : Nat) {x : Int32} (hd : qm_nth il k = some (pc, .i2c, 1, pc')) (h : qm_B X m pc' ρ (.int (x.toUInt32 % 65536).toInt32 :: st) κ) : qm_B X m pc ρ (.int x :: st) κ := by
  cases qk_n hX hd
  exact qb_0 (fun H locs ls hL hh => lv_i2c (qk_ex hX) (qk_by hX) (qk_d hX hd) rfl (hh ls hL)) h
theorem qb_sof (hX : qm_ok X own cc nL f lo il) (k : Nat) {idx q : Nat} {n d : String} {v : Value} (hd : qm_nth il k = some (pc, .getfield idx, 3, pc')) (hw : Cond.fieldLink own idx "java/lang/String" n d ∈ qm_tb) (hE : va_OF "java/lang/String" n d v q (qx_A X) (qx_s X) (qx_s X).heap) (h : qm_B X m pc' ρ (v :: st) κ) : qm_B X m pc ρ (.ref q :: st) κ := by
  cases qk_n hX hd
  intro σ r σ' h1 h2 H locs ls hH hS hL
  exact vk_getf (qk_ex hX) (qk_by hX) hE hS (qk_ow hX) (qk_ts hX _ hw) (fun x h => h) (qk_d hX hd) (h σ r σ' h1 h2 H locs ls hH hS hL)
theorem qb_sst (hX : qm_ok X own cc nL f lo il) (k : Nat) {idx : Nat} {C n d : String} {v : Value} (hd : qm_nth il k = some (pc, .getstatic idx, 3, pc')) (hw : Cond.fieldLink own idx C n d ∈ qm_tb) (hZ : va_Z C n d v (qx_A X) (qx_s X) (qx_s X).heap) (h : qm_B X m pc' ρ (v :: st) κ) : qm_B X m pc ρ st κ := by
  cases qk_n hX hd
  intro σ r σ' h1 h2 H locs ls hH hS hL
  exact va_gets (qk_ex hX) (qk_by hX) hZ hS (qk_ow hX) (qk_ts hX _ hw) (fun x h => h) (qk_d hX hd) (h σ r σ' h1 h2 H locs ls hH hS hL)
theorem qb_slen (hX : qm_ok X own cc nL f lo il) (k : Nat) {t N : Nat} {g : Nat → Value} (hd : qm_nth il k = some (pc, .arraylength, 1, pc')) (hT : va_T .byte t N g (qx_A X) (qx_s X) (qx_s X).heap) (h : qm_B X m pc' ρ (.int (Int32.ofNat N) :: st) κ) : qm_B X m pc ρ (.ref t :: st) κ := by
  cases qk_n hX hd
  intro σ r σ' h1 h2 H locs ls hH hS hL
  exact va_tlen (qk_ex hX) (qk_by hX) hT hS rfl (qk_d hX hd) (h σ r σ' h1 h2 H locs ls hH hS hL)
theorem qb_sbl (hX : qm_ok X own cc nL f lo il) (k : Nat) {t N : Nat} {g : Nat → Value} {i : Int32} (hd : qm_nth il k = some (pc, .baload, 1, pc')) (hT : va_T .byte t N g (qx_A X) (qx_s X) (qx_s X).heap) (hi : vp_in i N) (h : qm_B X m pc' ρ (g i.toNatClampNeg :: st) κ) : qm_B X m pc ρ (.int i :: .ref t :: st) κ := by
  cases qk_n hX hd
  intro σ r σ' h1 h2 H locs ls hH hS hL
  exact va_tb (qk_ex hX) (qk_by hX) hT hS hi rfl (qk_d hX hd) (h σ r σ' h1 h2 H locs ls hH hS hL)
theorem qs_six {a : Nat} (h : (qm_kd a).1 = 6) : ∃ i, i < 1 ∧ a = 408 + i := by
  have h1 : ∀ a, a < 500 → (qm_kd a).1 = 6 → 408 ≤ a ∧ a < 409 := by decide +kernel
  have h2 := h1 a (qm_near (by decide) h) h
  exact ⟨a - 408, by omega, by omega⟩
theorem qb_scal {m : qm_M Int32} {g : Int32 → qm_M α} (hX : qm_ok X own cc nL f lo il) (k : Nat) {idx nL' n f' lo' a : Nat} {y : MethodName} {b : ByteArray} {ret : Option FieldType} {As st0 : List Value} (hd : qm_nth il k = some (pc, .invokevirtual idx, 3, pc')) (hc : qm_CV own idx y b nL' ret n) (hM : qm_MI (qx_l X) (qx_G X) y b nL' ret f' lo' (.ref (qx_ad X a) :: As) m) (ha : (qm_kd a).1 = 6) (hr : y.cls = "java/lang/String" ∧ As.length = n ∧ f' + 1 ≤ f ∧ 8 + (nL' + 11) + lo' ≤ lo) (hst : st0 = As.reverse ++ .ref (qx_ad X a) :: st) (h8 : (st.map fun v => v.category).sum ≤ 8) (h : ∀ x, qm_B X (g x) pc' ρ (.int x :: st) κ) : qm_B X (mB m g) pc ρ st0 κ := by
  cases qk_n hX hd
  intro σ z σ' h1 h2 H locs ls hH hS hL
  obtain ⟨x, σ1, e1, e2⟩ := mB_some h1
  obtain ⟨i, hi, e⟩ := qs_six ha
  have hrec := vk_recv (qk_Z hX).2.1 hi hS
  rw [← hr.1] at hrec
  have hrec' : ∃ cell : Cell, H[qx_ad X a]? = some cell ∧ cell.vm.isStatics = false ∧ (qx_s X).vm.findClass y.cls = some cell.cls := by
    rw [e]
    exact hrec
  exact va_calli (va_runV (As := As) (rest := st) hX.1 (hM σ x σ1 e1 H.size) (qk_cw hX hc ⟨hr.2.2.1, hr.2.2.2⟩) ⟨qm_Pc_blind, hrec', qk_pre hX hH hS (.ref (qx_ad X a) :: As)⟩ rfl hr.2.1 (hL.1.trans (qk_ml hX)) hst (qk_room h8) (qk_d hX hd) (qk_cells hX)) hS (fun q _ hq => qk_sub hX hS.1 q hq) (qk_sub hX hS.1) (fun r' u t H1 locs1 ht hvm hp hB hz hk hS1 => by
    have hp : r' = x := hp
    subst hp
    subst ht
    exact h r' σ1 z σ' e2 h2 t.heap locs1 ls hB hS1 hL)
theorem qb_calSR {m : qm_M Nat} {g : Nat → qm_M α} (hX : qm_ok X own cc nL f lo il) (k : Nat) {idx nL' n f' lo' tt : Nat} {y : MethodName} {b : ByteArray} {ret : Option FieldType} {As st0 : List Value} (hd : qm_nth il k = some (pc, .invokestatic idx, 3, pc')) (hc : qm_CS own idx y b nL' ret n) (hM : qm_MR (qx_l X) (qx_G X) y b nL' ret f' lo' As m) (hr : As.length = n ∧ f' + 1 ≤ f ∧ 8 + (nL' + 11) + lo' ≤ lo) (hst : st0 = As.reverse ++ st) (h8 : (st.map fun v => v.category).sum ≤ 8) (h : ∀ x, (qm_kd x).1 = tt → qm_B X (g x) pc' ρ (.ref (qx_ad X x) :: st) κ) : qm_B X (mB (mK tt m) g) pc ρ st0 κ := by
  cases qk_n hX hd
  intro σ z σ' h1 h2 H locs ls hH hS hL
  obtain ⟨x, σ1, e1, e2⟩ := mB_some h1
  unfold mK at e1
  split at e1
  · cases e1
  · rename_i q hq
    split at e1
    · rename_i ht9
      cases e1
      exact va_callr (va_runS (As := As) (rest := st) hX.1 (hM σ x σ1 hq H.size) (qk_cs hX hc ⟨hr.2.1, hr.2.2⟩) ⟨qm_Pc_blind, qk_pre hX hH hS As⟩ rfl hr.1 (hL.1.trans (qk_ml hX)) hst (qk_room h8) (qk_d hX hd) (qk_cells hX)) hS (fun q _ hq => qk_sub hX hS.1 q hq) (qk_sub hX hS.1) (fun u ra t H1 locs1 ht hvm hp hB hz hk hS1 => by
        obtain ⟨hra, hB⟩ := hB
        subst hra
        subst ht
        exact h x ht9 σ1 z σ' e2 h2 t.heap locs1 ls hB hS1 hL)
    · cases e1
/-- ldc_w of a text -/
theorem qv_ldcwS {p : Program} {l : Launch} {e : Env} {R : Room} {s : State} {md : MethodId} {args : Array Value} {below : List Frame} {meth : Method} {c : Code} {H : Heap} {locs : List Loc} {cells slots : Nat} {Q : State → Prop} {cc : ByteArray} {pc : Nat} {ls : Array Slot} {rest : List Value} (hexec : p.tables.exec = Jvm.exec) (hb : c.code = cc) {own tx : String} {index q : Nat} (hown : s.vm.findClass own = some md.cls) (hZ : vk_R own index tx q s) (hdg : decode cc pc = .ok (.ldc_w index, 3))
    (kk : W p l e R s md args below meth c H locs cells slots Q (F0 md (pc + 3) ls (.ref q :: rest))) : W p l e R s md args below meth c H locs cells slots Q (F0 md pc ls rest) := by
  intro T hT X
  obtain ⟨t, a1, b1⟩ := kk T hT X
  refine ⟨t, ?_, b1⟩
  obtain ⟨k, cf, i, a', hk, hcf, hcp, -, hr, hev'⟩ := Cond.stringRef_spec hown hZ.1
  cases hZ.2.symm.trans hev'
  obtain ⟨k', hk', he⟩ := X.warmed.alike.2.2 _ _ hk
  have hr' : k'.resolved[index]? = some (some (.string q)) := by
    rcases X.warmed.entry hk hk' index with h | ⟨h, -⟩
    · rw [h]; exact hr
    · rw [hr] at h; cases h
  jvm_step X.here [hexec, hb, hdg, Op.ldc_w.wp_string (e := e) (s := T) (f := F0 md pc ls rest) X.here.top hk' (by rw [he]; exact hcf) hcp hr']
  exact a1
theorem qb_ldcS (hX : qm_ok X own cc nL f lo il) (k : Nat) (q : Nat) {idx : Nat} {tx : String} (hd : qm_nth il k = some (pc, .ldc idx, 2, pc')) (hk : (own, idx, tx, q) ∈ qs_all) (h : qm_B X m pc' ρ (.ref (qx_ad X q) :: st) κ) : qm_B X m pc ρ st κ := by
  cases qk_n hX hd
  intro σ r σ' h1 h2 H locs ls hH hS hL
  exact va_ldcS (qk_ex hX) (qk_by hX) (qk_ow hX) ((qk_Z hX).2.2.1 _ hk) (qk_d hX hd) (h σ r σ' h1 h2 H locs ls hH hS hL)
theorem qb_ldcwS (hX : qm_ok X own cc nL f lo il) (k : Nat) (q : Nat) {idx : Nat} {tx : String} (hd : qm_nth il k = some (pc, .ldc_w idx, 3, pc')) (hk : (own, idx, tx, q) ∈ qs_all) (h : qm_B X m pc' ρ (.ref (qx_ad X q) :: st) κ) : qm_B X m pc ρ st κ := by
  cases qk_n hX hd
  intro σ r σ' h1 h2 H locs ls hH hS hL
  exact qv_ldcwS (qk_ex hX) (qk_by hX) (qk_ow hX) ((qk_Z hX).2.2.1 _ hk) (qk_d hX hd) (h σ r σ' h1 h2 H locs ls hH hS hL)
end
def qs_inb (i : Int32) (n : Nat) : Bool := !(decide (i < 0) || decide (n ≤ i.toNatClampNeg))
theorem qs_inb_iff {i : Int32} {n : Nat} : qs_inb i n = true ↔ vp_in i n := by
  unfold qs_inb vp_in
  rw [Bool.not_eq_true', Bool.or_eq_false_iff, decide_eq_false_iff_not, decide_eq_false_iff_not, not_or]
theorem qs_is {i : Nat} (h : i < 1) : (qm_kd (408 + i)).1 = 6 := (by decide +kernel : ∀ i, i < 1 → (qm_kd (408 + i)).1 = 6) i h
def qs_ln (a : Nat) : Nat := qs_len.getD (a - 408) 0
def qs_ch (a j : Nat) : Int32 := (qs_byt.getD (a - 408) []).getD j 0
def qs_cv (a : Nat) (k : Int32) : Int32 := ((qs_ch a k.toNatClampNeg &&& 255).toUInt32 % 65536).toInt32
theorem qs_nar : ∀ i, i < 1 → ∀ j, j < qs_len.getD i 0 → narrow .char (.int (((qs_byt.getD i []).getD j 0 &&& 255).toUInt32 % 65536).toInt32) = .int (((qs_byt.getD i []).getD j 0 &&& 255).toUInt32 % 65536).toInt32 ∧ (((qs_byt.getD i []).getD j 0 &&& 255).toUInt32 % 65536).toInt32 = (qs_byt.getD i []).getD j 0 := by decide +kernel
noncomputable def mCh (y : Int32) : qm_M Int32 := fun σ => @ite _ (narrow .char (.int y) = .int y) (Classical.propDecidable _) (some (y, σ)) none
def jf_String_coder (_ : Nat) : qm_M Int32 := if (1 : Int32) = 0 then mF else mP 0
def jf_String_isLatin1 (_ : Nat) : qm_M Int32 := if (1 : Int32) = 0 then mF else if ¬ (0 : Int32) = 0 then mF else mP 1
def jf_Precond_checkIndex (i n : Int32) : qm_M Int32 := if i < 0 then mF else if i < n then mP i else mF
def jf_String_checkIndex (i n : Int32) : qm_M Unit := mB (jf_Precond_checkIndex i n) fun _ => mP ()
def jf_Latin1_charAt (a : Nat) (k : Int32) : qm_M Int32 := mB (jf_String_checkIndex k (Int32.ofNat (qs_ln a))) fun _ => if qs_inb k (qs_ln a) = true then mP (qs_cv a k) else mF
def jf_String_length (a : Nat) : qm_M Int32 := mB (jf_String_coder a) fun x => mP (Int32.ofNat (qs_ln a) >>> (x &&& 31))
noncomputable def jf_String_charAt (a : Nat) (k : Int32) : qm_M Int32 := mB (jf_String_isLatin1 a) fun x => if x = 0 then mF else mB (jf_Latin1_charAt a k) fun y => mB (mCh y) fun z => mP z
theorem jb_String_coder {X : qm_X} (hX : qm_ok X "java/lang/String" prog_19_method_152_code 1 0 0 jl_String_coder) {r0 : Int32} {σ0 : qm_Mem} (hR : qm_RI X r0 σ0 .byte) (i : Nat) (hi : i < 1) : qm_B X (jf_String_coder (408 + i)) 0 [some (.ref (qx_ad X (408 + i)))] [] (fun r σ1 => r = r0 ∧ σ1 = σ0) := by
  unfold jf_String_coder
  have hS := (qk_Z hX).2
  refine qb_sst hX 0 rfl sl_38 hS.2.2.1 ?_
  refine qb_ifeq hX 1 13 rfl (by decide) qb_F ?_
  refine qb_aload_n hX 2 rfl rfl ?_
  refine qb_sof hX 3 rfl sl_15 (hS.1.1 i hi).2.1 ?_
  refine qb_goto hX 4 (tgt := 14) rfl (by decide) ?_
  exact qb_nret hX 6 rfl hR rfl (fun _ h => h)
theorem jm_String_coder {l : Launch} {G : qm_G} (hG : qm_GI G) (a : Nat) (ha : (qm_kd a).1 = 6) : qm_MI l G jy_String_coder prog_19_method_152_code 1 (some .byte) 0 0 [.ref (G.1 a)] (jf_String_coder a) := by
  obtain ⟨i, hi, rfl⟩ := qs_six ha
  exact qm_metI (by decide +kernel) jd_String_coder (fun v hv => by simp only [List.mem_cons, List.not_mem_nil, or_false] at hv; rcases hv with rfl <;> rfl) (by exact Nat.le_of_ble_eq_true rfl) hG rfl (fun X hl hg hX r0 σ0 hR => by subst hl; subst hg; exact jb_String_coder hX hR i hi)
theorem jb_String_isLatin1 {X : qm_X} (hX : qm_ok X "java/lang/String" prog_19_method_154_code 1 0 0 jl_String_isLatin1) {r0 : Int32} {σ0 : qm_Mem} (hR : qm_RI X r0 σ0 .boolean) (i : Nat) (hi : i < 1) : qm_B X (jf_String_isLatin1 (408 + i)) 0 [some (.ref (qx_ad X (408 + i)))] [] (fun r σ1 => r = r0 ∧ σ1 = σ0) := by
  unfold jf_String_isLatin1
  have hS := (qk_Z hX).2
  refine qb_sst hX 0 rfl sl_38 hS.2.2.1 ?_
  refine qb_ifeq hX 1 17 rfl (by decide) qb_F ?_
  refine qb_aload_n hX 2 rfl rfl ?_
  refine qb_sof hX 3 rfl sl_15 (hS.1.1 i hi).2.1 ?_
  refine qb_ifne hX 4 17 rfl (by decide) qb_F ?_
  refine qb_iconst hX 5 1 rfl (by decide) ?_
  refine qb_goto hX 6 (tgt := 18) rfl (by decide) ?_
  exact qb_nret hX 8 rfl hR rfl (fun _ h => h)
theorem jm_String_isLatin1 {l : Launch} {G : qm_G} (hG : qm_GI G) (a : Nat) (ha : (qm_kd a).1 = 6) : qm_MI l G jy_String_isLatin1 prog_19_method_154_code 1 (some .boolean) 0 0 [.ref (G.1 a)] (jf_String_isLatin1 a) := by
  obtain ⟨i, hi, rfl⟩ := qs_six ha
  exact qm_metI (by decide +kernel) jd_String_isLatin1 (fun v hv => by simp only [List.mem_cons, List.not_mem_nil, or_false] at hv; rcases hv with rfl <;> rfl) (by exact Nat.le_of_ble_eq_true rfl) hG rfl (fun X hl hg hX r0 σ0 hR => by subst hl; subst hg; exact jb_String_isLatin1 hX hR i hi)
theorem jb_Precond_checkIndex {X : qm_X} (hX : qm_ok X "jdk/internal/util/Preconditions" prog_26_method_11_code 3 0 0 jl_Precond_checkIndex) {r0 : Int32} {σ0 : qm_Mem} (hR : qm_RI X r0 σ0 .int) (i n : Int32) (v : Value) : qm_B X (jf_Precond_checkIndex i n) 0 [some (.int i), some (.int n), some v] [] (fun r σ1 => r = r0 ∧ σ1 = σ0) := by
  unfold jf_Precond_checkIndex
  refine qb_iload_n hX 0 rfl rfl ?_
  refine qb_iflt hX 1 9 rfl (by decide) qb_F ?_
  refine qb_iload_n hX 2 rfl rfl ?_
  refine qb_iload_n hX 3 rfl rfl ?_
  refine qb_iclt hX 4 16 rfl (by decide) ?_ qb_F
  refine qb_iload_n hX 10 rfl rfl ?_
  exact qb_iret hX 11 rfl hR (fun _ h => h)
theorem jm_Precond_checkIndex {l : Launch} {G : qm_G} (hG : qm_GI G) (i n : Int32) (v : Value) (hv : v.category = 1) : qm_MI l G jy_Precond_checkIndex prog_26_method_11_code 3 (some .int) 0 0 [.int i, .int n, v] (jf_Precond_checkIndex i n) :=
  qm_metI (by decide +kernel) jd_Precond_checkIndex (fun w hw => by simp only [List.mem_cons, List.not_mem_nil, or_false] at hw; rcases hw with rfl | rfl | rfl; rfl; rfl; exact hv) (by exact Nat.le_of_ble_eq_true rfl) hG rfl (fun X hl hg hX r0 σ0 hR => by subst hl; subst hg; exact jb_Precond_checkIndex hX hR i n v)
theorem jb_String_checkIndex {X : qm_X} (hX : qm_ok X "java/lang/String" prog_19_method_155_code 2 1 22 jl_String_checkIndex) {σ0 : qm_Mem} (hR : qm_RV X σ0) (i n : Int32) : qm_B X (jf_String_checkIndex i n) 0 [some (.int i), some (.int n)] [] (fun _ σ1 => σ1 = σ0) := by
  unfold jf_String_checkIndex
  have main : ∀ v : Value, v.category = 1 → va_Z "jdk/internal/util/Preconditions" "SIOOBE_FORMATTER" "Ljava/util/function/BiFunction;" v (qx_A X) (qx_s X) (qx_s X).heap → qm_B X (mB (jf_Precond_checkIndex i n) fun _ => mP ()) 0 [some (.int i), some (.int n)] [] (fun _ σ1 => σ1 = σ0) := by
    intro v hv hz
    refine qb_iload_n hX 0 rfl rfl ?_
    refine qb_iload_n hX 1 rfl rfl ?_
    refine qb_sst hX 2 rfl sl_1053 hz ?_
    refine qb_calSI hX 3 rfl cv_String_1059 (jm_Precond_checkIndex (qk_GI hX) i n v hv) ⟨rfl, by decide, by decide⟩ rfl (by exact Nat.le_of_ble_eq_true rfl) (fun x => ?_)
    refine qb_pop hX 4 rfl rfl ?_
    exact qb_vret hX 5 rfl hR (fun _ h => h)
  rcases (qk_Z hX).2.2.2.2.1 with h | ⟨t, h⟩
  · exact main .null rfl h
  · exact main (.ref t) rfl h
theorem jm_String_checkIndex {l : Launch} {G : qm_G} (hG : qm_GI G) (i n : Int32) : qm_MV l G jy_String_checkIndex prog_19_method_155_code 2 1 22 [.int i, .int n] (jf_String_checkIndex i n) :=
  qm_metV (by decide +kernel) jd_String_checkIndex (fun w hw => by simp only [List.mem_cons, List.not_mem_nil, or_false] at hw; rcases hw with rfl | rfl <;> rfl) (by exact Nat.le_of_ble_eq_true rfl) hG (fun X hl hg hX σ0 hR => by subst hl; subst hg; exact jb_String_checkIndex hX hR i n)
theorem jb_Latin1_charAt {X : qm_X} (hX : qm_ok X "java/lang/StringLatin1" prog_21_method_2_code 2 2 43 jl_Latin1_charAt) {r0 : Int32} {σ0 : qm_Mem} (hR : qm_RI X r0 σ0 .char) (i : Nat) (hi : i < 1) (k : Int32) : qm_B X (jf_Latin1_charAt (408 + i) k) 0 [some (.ref (qx_ad X (426 + i))), some (.int k)] [] (fun r σ1 => r = r0 ∧ σ1 = σ0) := by
  unfold jf_Latin1_charAt
  have hT := ((qk_Z hX).2.1.1 i hi).2.2.2
  have el : qs_ln (408 + i) = qs_len.getD i 0 := by unfold qs_ln; rw [show 408 + i - 408 = i by omega]
  refine qb_iload_n hX 0 rfl rfl ?_
  refine qb_aload_n hX 1 rfl rfl ?_
  refine qb_slen hX 2 rfl hT ?_
  rw [← el]
  refine qb_calSV hX 3 rfl cv_Latin1_9 (jm_String_checkIndex (qk_GI hX) k _) ⟨rfl, by decide, by decide⟩ rfl (by exact Nat.le_of_ble_eq_true rfl) ?_
  refine qb_ite (fun c => ?_) (fun c => ?_)
  · have hk : vp_in k (qs_len.getD i 0) := by rw [← el]; exact qs_inb_iff.mp c
    refine qb_aload_n hX 4 rfl rfl ?_
    refine qb_iload_n hX 5 rfl rfl ?_
    refine qb_sbl hX 6 rfl hT hk ?_
    refine qb_sipush hX 7 255 rfl (by decide) ?_
    refine qb_iand hX 8 rfl ?_
    refine qb_i2c hX 9 rfl ?_
    have hn := (qs_nar i hi k.toNatClampNeg (Nat.not_le.mp (fun q => hk (Or.inr q)))).1
    have ec : qs_cv (408 + i) k = (((qs_byt.getD i []).getD k.toNatClampNeg 0 &&& 255).toUInt32 % 65536).toInt32 := by unfold qs_cv qs_ch; rw [show 408 + i - 408 = i by omega]
    rw [ec]
    exact qb_nret hX 10 rfl hR hn (fun _ h => h)
  · exact qb_F
theorem jm_Latin1_charAt {l : Launch} {G : qm_G} (hG : qm_GI G) (i : Nat) (hi : i < 1) (k : Int32) : qm_MI l G jy_Latin1_charAt prog_21_method_2_code 2 (some .char) 2 43 [.ref (G.1 (426 + i)), .int k] (jf_Latin1_charAt (408 + i) k) :=
  qm_metI (by decide +kernel) jd_Latin1_charAt (fun v hv => by simp only [List.mem_cons, List.not_mem_nil, or_false] at hv; rcases hv with rfl | rfl <;> rfl) (by exact Nat.le_of_ble_eq_true rfl) hG rfl (fun X hl hg hX r0 σ0 hR => by subst hl; subst hg; exact jb_Latin1_charAt hX hR i hi k)
theorem jb_String_length {X : qm_X} (hX : qm_ok X "java/lang/String" prog_19_method_54_code 1 1 20 jl_String_length) {r0 : Int32} {σ0 : qm_Mem} (hR : qm_RI X r0 σ0 .int) (i : Nat) (hi : i < 1) : qm_B X (jf_String_length (408 + i)) 0 [some (.ref (qx_ad X (408 + i)))] [] (fun r σ1 => r = r0 ∧ σ1 = σ0) := by
  unfold jf_String_length
  have hS := (qk_Z hX).2
  have el : qs_ln (408 + i) = qs_len.getD i 0 := by unfold qs_ln; rw [show 408 + i - 408 = i by omega]
  refine qb_aload_n hX 0 rfl rfl ?_
  refine qb_sof hX 1 rfl sl_9 (hS.1.1 i hi).2.2.1 ?_
  refine qb_slen hX 2 rfl (hS.1.1 i hi).2.2.2 ?_
  rw [← el]
  refine qb_aload_n hX 3 rfl rfl ?_
  refine qb_scal hX 4 rfl cv_String_335 (jm_String_coder (qk_GI hX) (408 + i) (qs_is hi)) (qs_is hi) ⟨rfl, rfl, by decide, by decide⟩ rfl (by exact Nat.le_of_ble_eq_true rfl) (fun x => ?_)
  refine qb_ishr hX 5 rfl ?_
  exact qb_iret hX 6 rfl hR (fun _ h => h)
theorem jm_String_length {l : Launch} {G : qm_G} (hG : qm_GI G) (a : Nat) (ha : (qm_kd a).1 = 6) : qm_MI l G jy_String_length prog_19_method_54_code 1 (some .int) 1 20 [.ref (G.1 a)] (jf_String_length a) := by
  obtain ⟨i, hi, rfl⟩ := qs_six ha
  exact qm_metI (by decide +kernel) jd_String_length (fun v hv => by simp only [List.mem_cons, List.not_mem_nil, or_false] at hv; rcases hv with rfl <;> rfl) (by exact Nat.le_of_ble_eq_true rfl) hG rfl (fun X hl hg hX r0 σ0 hR => by subst hl; subst hg; exact jb_String_length hX hR i hi)
theorem jb_String_charAt {X : qm_X} (hX : qm_ok X "java/lang/String" prog_19_method_56_code 2 4 85 jl_String_charAt) {r0 : Int32} {σ0 : qm_Mem} (hR : qm_RI X r0 σ0 .char) (i : Nat) (hi : i < 1) (k : Int32) : qm_B X (jf_String_charAt (408 + i) k) 0 [some (.ref (qx_ad X (408 + i))), some (.int k)] [] (fun r σ1 => r = r0 ∧ σ1 = σ0) := by
  unfold jf_String_charAt
  have hS := (qk_Z hX).2
  refine qb_aload_n hX 0 rfl rfl ?_
  refine qb_scal hX 1 rfl cv_String_492 (jm_String_isLatin1 (qk_GI hX) (408 + i) (qs_is hi)) (qs_is hi) ⟨rfl, rfl, by decide, by decide⟩ rfl (by exact Nat.le_of_ble_eq_true rfl) (fun x => ?_)
  refine qb_ifeq hX 2 16 rfl (by decide) qb_F ?_
  refine qb_aload_n hX 3 rfl rfl ?_
  refine qb_sof hX 4 rfl sl_9 (hS.1.1 i hi).2.2.1 ?_
  refine qb_iload_n hX 5 rfl rfl ?_
  refine qb_calSI hX 6 rfl cv_String_495 (jm_Latin1_charAt (qk_GI hX) i hi k) ⟨rfl, by decide, by decide⟩ rfl (by exact Nat.le_of_ble_eq_true rfl) (fun y => ?_)
  intro σ b σ' h1 h2
  obtain ⟨z, σ1, e1, e2⟩ := mB_some h1
  unfold mCh at e1
  split at e1
  · rename_i hn
    cases e1
    cases e2
    exact qj_ret hX (k := 7) rfl hR hn h2
  · cases e1
theorem jm_String_charAt {l : Launch} {G : qm_G} (hG : qm_GI G) (a : Nat) (k : Int32) (ha : (qm_kd a).1 = 6) : qm_MI l G jy_String_charAt prog_19_method_56_code 2 (some .char) 4 85 [.ref (G.1 a), .int k] (jf_String_charAt a k) := by
  obtain ⟨i, hi, rfl⟩ := qs_six ha
  exact qm_metI (by decide +kernel) jd_String_charAt (fun v hv => by simp only [List.mem_cons, List.not_mem_nil, or_false] at hv; rcases hv with rfl | rfl <;> rfl) (by exact Nat.le_of_ble_eq_true rfl) hG rfl (fun X hl hg hX r0 σ0 hR => by subst hl; subst hg; exact jb_String_charAt hX hR i hi k)
