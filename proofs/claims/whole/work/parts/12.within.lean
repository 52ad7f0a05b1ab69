noncomputable def jf_Model_in (v lo hi : Int64) : qm_M Int32 := if v < lo ∨ hi < v then mP 0 else mP 1
theorem qm_cmp_lt {x y : Int64} : lg_cmp x y < 0 ↔ x < y := by
  unfold lg_cmp
  split
  · rename_i h
    exact ⟨fun q => absurd q (by decide), fun q => absurd (Int64.lt_asymm h q) (fun f => f)⟩
  · rename_i h
    split
    · rename_i e
      exact ⟨fun q => absurd q (by decide), fun q => absurd q (by rw [e]; exact Int64.lt_irrefl)⟩
    · rename_i e
      exact ⟨fun _ => Int64.lt_of_le_of_ne (Int64.not_lt.mp h) e, fun _ => by decide⟩
theorem qm_cmp_gt {x y : Int64} : 0 < lg_cmp x y ↔ y < x := by
  unfold lg_cmp
  split
  · rename_i h
    exact ⟨fun _ => h, fun q => by decide⟩
  · rename_i h
    split
    · exact ⟨fun q => absurd q (by decide), fun q => absurd q h⟩
    · exact ⟨fun q => absurd q (by decide), fun q => absurd q h⟩
def jl_Model_in : List qm_I := [(0, .lload_n 0, 1, 1), (1, .lload_n 2, 1, 2), (2, .lcmp, 1, 3), (3, .ifCond .lt 14, 3, 6), (6, .lload_n 0, 1, 7), (7, .lload 4, 2, 9), (9, .lcmp, 1, 10), (10, .ifCond .gt 7, 3, 13), (13, .iconst 1, 1, 14), (14, .goto 4, 3, 17), (17, .iconst 0, 1, 18), (18, .ireturn, 1, 19)]
theorem jd_Model_in : qm_D prog_11_method_3_code jl_Model_in := qm_D_of (by decide +kernel)
theorem qm_fin {X : qm_X} {own : String} {cc : ByteArray} {nL f lo pc pc' : Nat} {il : List qm_I} (hX : qm_ok X own cc nL f lo il) {k : Nat} {x r0 : Int32} {σ σ0 : qm_Mem} {ty : FieldType} (hd : qm_nth il k = some (pc, .ireturn, 1, pc')) (hR : qm_RI X r0 σ0 ty) (hn : narrow ty (.int x) = .int x) (h : x = r0 ∧ σ = σ0) {H : Heap} {locs : List Loc} {ls : Array Slot} (hH : qm_H (qx_G X) σ H) (hS : va_S (qx_A X) (qx_s X).heap H locs) : qx_W X H locs (F0 (qx_m X) pc ls [.int x]) := by
  obtain ⟨e1, e2⟩ := h
  subst e1
  subst e2
  obtain ⟨hQ, hr, hA⟩ := hR
  show W _ _ _ _ _ _ _ _ _ _ _ _ _ _ (qx_Q X) _
  rw [hQ]
  rw [hA] at hS
  exact W.zret (qk_ex hX) (qk_by hX) hr hn (fun t ht hW => ⟨⟨x, (), rfl, rfl, by show qm_H _ _ t.heap; rw [ht]; exact hH⟩, hS.F ht⟩) hS.2.2 (qk_d hX hd) hX.2.2.1
theorem jb_Model_in {X : qm_X} (hX : qm_ok X qr_Model prog_11_method_3_code 6 0 0 jl_Model_in) {r0 : Int32} {σ0 σ : qm_Mem} (hR : qm_RI X r0 σ0 .boolean) (v lo hi : Int64) (hm : jf_Model_in v lo hi σ = some (r0, σ0)) {H : Heap} {locs : List Loc} {ls : Array Slot} (hH : qm_H (qx_G X) σ H) (hS : va_S (qx_A X) (qx_s X).heap H locs) (h0 : ls[0]? = some (.val (.long v))) (h2 : ls[2]? = some (.val (.long lo))) (h4 : ls[4]? = some (.val (.long hi))) : qx_W X H locs (F0 (qx_m X) 0 ls []) := by
  have e := qk_ex hX
  have b := qk_by hX
  refine lv_lload_n e b (qk_d hX (k := 0) rfl) rfl h0 ?_
  refine lv_lload_n e b (qk_d hX (k := 1) rfl) rfl h2 ?_
  refine W.lcmp e b (qk_d hX (k := 2) rfl) ?_
  have hz : ∀ {c : Int32} (_ : c = r0 ∧ σ = σ0) (_ : c = 0), qx_W X H locs (F0 (qx_m X) 17 ls []) := fun q q0 => by
    subst q0
    refine lv_iconst e b (qk_d hX (k := 10) rfl) rfl ?_
    exact qm_fin hX (k := 11) rfl hR rfl q hH hS
  unfold jf_Model_in at hm
  by_cases c1 : v < lo
  · rw [if_pos (Or.inl c1)] at hm
    cases hm
    refine lv_if_lt e b (qk_d hX (k := 3) rfl) (tgt := 17) (by decide) (fun _ => hz ⟨rfl, rfl⟩ rfl) (fun q => absurd (qm_cmp_lt.mpr c1) q)
  · refine lv_if_lt e b (qk_d hX (k := 3) rfl) (tgt := 17) (by decide) (fun q => absurd (qm_cmp_lt.mp q) c1) (fun _ => ?_)
    refine lv_lload_n e b (qk_d hX (k := 4) rfl) rfl h0 ?_
    refine lv_lload e b (qk_d hX (k := 5) rfl) h4 ?_
    refine W.lcmp e b (qk_d hX (k := 6) rfl) ?_
    by_cases c2 : hi < v
    · rw [if_pos (Or.inr c2)] at hm
      cases hm
      refine lv_if_gt e b (qk_d hX (k := 7) rfl) (tgt := 17) (by decide) (fun _ => hz ⟨rfl, rfl⟩ rfl) (fun q => absurd (qm_cmp_gt.mpr c2) q)
    · rw [if_neg (fun q => q.elim c1 c2)] at hm
      cases hm
      refine lv_if_gt e b (qk_d hX (k := 7) rfl) (tgt := 17) (by decide) (fun q => absurd (qm_cmp_gt.mp q) c2) (fun _ => ?_)
      refine lv_iconst e b (qk_d hX (k := 8) rfl) rfl ?_
      refine lv_goto e b (qk_d hX (k := 9) rfl) (tgt := 18) (by decide) ?_
      exact qm_fin hX (k := 11) rfl hR rfl ⟨rfl, rfl⟩ hH hS
theorem jm_Model_in {l : Launch} {G : qm_G} (hG : qm_GI G) (v lo hi : Int64) : qm_MI l G jy_Model_in prog_11_method_3_code 6 (some .boolean) 0 0 [.long v, .long lo, .long hi] (jf_Model_in v lo hi) := by
  intro σ r σ' hm sz
  refine Met.ofW (cc := prog_11_method_3_code) (maxL := 6) (ret := some .boolean) (by decide +kernel) rfl ?_
  intro p e s mi args below meth c s₁ B hml hv
  obtain ⟨rfl, hsz, hH, hK, hZ⟩ := hv
  subst hsz
  have hts := atoms_spec (ws := qm_w jy_Model_in prog_11_method_3_code 6 (some .boolean)) B.pre
  have hok : qm_ok (p, l, e, qm_rm 0 0, s, mi, #[Value.long v, Value.long lo, Value.long hi], below, meth, c, G, qm_A G s.heap.size, 0, 0, MQ below (qm_Qi G r σ' s.heap.size) #[Value.long v, Value.long lo, Value.long hi] s 0 0 (qm_A G s.heap.size)) qr_Model prog_11_method_3_code 6 0 0 jl_Model_in :=
    ⟨⟨B.exec, B.bytes, hml, findClass_of_methodNamed B.named, fun w hw => hts w (List.mem_cons_of_mem _ hw)⟩, jd_Model_in, B.notSynchronized, hK, hZ, hG, ⟨fun i hi => Or.inl ⟨i, hi, rfl⟩, fun q hq => Or.inr hq⟩, rfl, rfl, Nat.le_refl _, Nat.le_refl _⟩
  rw [lg_entry_eq]
  refine jb_Model_in hok ⟨rfl, B.returns, rfl⟩ v lo hi hm hH va_S.rf ?_ ?_ ?_ <;> rfl
