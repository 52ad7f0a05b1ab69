/-! ===== the law: both are made ===== -/
def jl_law : List qm_I := [(0, .new 7, 3, 3), (3, .dup, 1, 4), (4, .invokespecial 9, 3, 7), (7, .astore_n 1, 1, 8), (8, .new 10, 3, 11), (11, .dup, 1, 12), (12, .invokespecial 12, 3, 15), (15, .astore_n 2, 1, 16), (16, .iconst 0, 1, 17), (17, .istore_n 3, 1, 18)]
theorem jd_law : qm_D code jl_law := qm_D_of (by decide +kernel)
theorem zi_Law_9 : qz_CI "ColumnsLevelledLaw" 9 jy_Top_init prog_1_method_1_code 2 0 := ⟨qm_good (List.mem_of_getElem? (i := 128) (by decide +kernel)) rfl, qm_good (List.mem_of_getElem? (i := 129) (by decide +kernel)) rfl, qm_good (List.mem_of_getElem? (i := 110) (by decide +kernel)) rfl, qm_good (List.mem_of_getElem? (i := 130) (by decide +kernel)) rfl, rfl, ⟨by decide +kernel, by decide +kernel, by decide +kernel⟩⟩
theorem zi_Law_12 : qz_CI "ColumnsLevelledLaw" 12 jy_Model_init prog_11_method_1_code 1 0 := ⟨qm_good (List.mem_of_getElem? (i := 1139) (by decide +kernel)) rfl, qm_good (List.mem_of_getElem? (i := 1140) (by decide +kernel)) rfl, qm_good (List.mem_of_getElem? (i := 120) (by decide +kernel)) rfl, qm_good (List.mem_of_getElem? (i := 1141) (by decide +kernel)) rfl, rfl, ⟨by decide +kernel, by decide +kernel, by decide +kernel⟩⟩
section
variable {X : qm_X} {own : String} {cc : ByteArray} {nL f lo mc ms : Nat} {il : List qm_I}
variable {pc pc' ce sl : Nat} {ρ : List (Option Value)} {st : List Value} {T : qz_T}
theorem qz_astore_n (hX : qz_ok X own cc nL f lo mc ms il) (k : Nat) {i : Fin 4} {x : Nat} (ρ' : List (Option Value)) (hd : qm_nth il k = some (pc, .astore_n i, 1, pc')) (hi : (i : Nat) < nL) (hρ : ρ.set (i : Nat) (some (.ref x)) = ρ') (h : qz_J X pc' ρ' st T ce sl) : qz_J X pc ρ (.ref x :: st) T ce sl := by
  cases zk_n hX hd
  intro H locs ls hP hD hS hL
  obtain ⟨ls', e, s2⟩ := hL.put (i := (i : Nat)) (v := .ref x) (by rw [zk_ml hX]; exact hi) rfl
  rw [hρ] at s2
  have h := h H locs ls' hP hD hS s2
  intro T9 hT Y
  obtain ⟨t, a, b⟩ := h T9 hT Y
  refine ⟨t, ?_, b⟩
  have hd' := zk_d hX hd
  jvm_step Y.here [Y.here.top, ↓top_set Y.here.top, zk_ex hX, zk_by hX, hd', e]
  exact ⟨rfl, a⟩
end
theorem zl_r1 : ∀ i, i < 367 → ∀ j, j < qz_rl i → qm_rf i j < 367 := by decide +kernel
theorem zl_r2 : ∀ i, i < 405 → ∀ j, j < qz_rl i → qm_rf i j < 405 := by decide +kernel
theorem zl_made {X : qm_X} (hX : qz_ok X "ColumnsLevelledLaw" code 4 13 552 600000 7302250 jl_law) {b : Nat} {ad0 : Nat → Nat} {E0 : Nat → va_E} (h : ∀ ad : Nat → Nat, qz_J X 18 [some (.ref b), some (.ref (ad 0)), some (.ref (ad 367)), some (.int 0)] [] (ad, zpic (qx_G X) ad, 405) 405 32456) : qz_J X 0 [some (.ref b), none, none, none] [] (ad0, E0, 0) 0 0 := by
  refine qz_new hX 0 rfl zn_Law_7 ⟨Nat.le_of_ble_eq_true rfl, Nat.le_of_ble_eq_true rfl⟩ (fun q => ?_)
  refine qz_dup hX 1 rfl ?_
  refine qz_callI hX 2 rfl zi_Law_9 (zc_Top _ _ q qz_us qz_us) ⟨rfl, by decide, by decide⟩ ⟨Nat.le_of_ble_eq_true rfl, Nat.le_of_ble_eq_true rfl⟩ rfl (by exact Nat.le_of_ble_eq_true rfl) (fun T1 hT1 => ?_)
  obtain ⟨ad1, had1, rfl⟩ := hT1
  refine qz_astore_n hX 3 [some (.ref b), some (.ref q), none, none] rfl (by decide) rfl ?_
  refine qz_new hX 4 rfl zn_Law_10 ⟨Nat.le_of_ble_eq_true rfl, Nat.le_of_ble_eq_true rfl⟩ (fun q' => ?_)
  refine qz_dup hX 5 rfl ?_
  refine qz_callI hX 6 rfl zi_Law_12 (zc_Model_367 _ _ q' qz_us qz_us) ⟨rfl, by decide, by decide⟩ ⟨Nat.le_of_ble_eq_true rfl, Nat.le_of_ble_eq_true rfl⟩ rfl (by exact Nat.le_of_ble_eq_true rfl) (fun T2 hT2 => ?_)
  obtain ⟨ad2, had2, rfl⟩ := hT2
  refine qz_astore_n hX 7 [some (.ref b), some (.ref q), some (.ref q'), none] rfl (by decide) rfl ?_
  refine qz_iconst hX 8 0 rfl rfl ?_
  refine qz_istore_n hX 9 [some (.ref b), some (.ref q), some (.ref q'), some (.int 0)] rfl (by decide) rfl ?_
  have e1 : ad2 0 = q := by rw [had2 0 (by decide), qz_un (by decide), had1 0 (by decide), qz_us]
  have e2 : ad2 367 = q' := by rw [had2 367 (by decide), qz_us]
  have h3 := h ad2
  rw [e1, e2] at h3
  refine qz_cv (E' := zpic (qx_G X) ad2) (fun i hi H hv => ?_) h3
  by_cases z : i = 367 ∨ 368 ≤ i ∧ i < 405
  · rw [zf_in z] at hv
    exact hv
  · rw [zf_out z, qz_un (by omega), zf_in (by omega)] at hv
    exact zpic_mono (ad := ad1) (ad' := ad2) (fun j hj => by
      have := zl_r1 i (by omega) j hj
      rw [had2 _ (by omega), qz_un (by omega)]) hv
/-! ===== what is made is the first picture ===== -/
theorem qm_kl_end : ∀ (l : List (Nat × Nat × Nat)) (i : Nat), (l.map (fun q => q.1)).sum ≤ i → qm_kl l i = (0, 0)
  | [], _, _ => rfl
  | (c, t, n) :: r, i, h => by
    rw [List.map_cons, List.sum_cons] at h
    have h : c + (r.map (fun q => q.1)).sum ≤ i := h
    show (if i < c then (t, n) else qm_kl r (i - c)) = _
    rw [if_neg (by omega)]
    exact qm_kl_end r _ (by omega)
theorem qm_kd_end {i : Nat} (h : 426 ≤ i) : qm_kd i = (0, 0) := qm_kl_end qm_runs i (Nat.le_trans (by decide +kernel) h)
theorem qm_kd_mid : ∀ i, i < 21 → (qm_kd (405 + i)).1 = 1 ∨ (qm_kd (405 + i)).1 = 6 := by decide +kernel
theorem qm_E_out {G : qm_G} {σ : qm_Mem} {i : Nat} (h : 405 ≤ i) : qm_E G σ i = none := by
  have hk : (qm_kd i).1 = 1 ∨ (qm_kd i).1 = 6 ∨ (qm_kd i).1 = 0 := by
    by_cases z : i < 426
    · obtain ⟨k, rfl⟩ : ∃ k, i = 405 + k := ⟨i - 405, by omega⟩
      rcases qm_kd_mid k (by omega) with e | e <;> omega
    · rw [qm_kd_end (by omega)]
      exact Or.inr (Or.inr rfl)
  unfold qm_E
  have hN : ¬ i < qm_N := by unfold qm_N; omega
  rw [if_neg (by omega), if_neg (by omega), if_neg (by omega)]
def zl_G (G : qm_G) (ad : Nat → Nat) : qm_G := (fun i => if i < 405 then ad i else G.1 i, G.2)
theorem zl_H {G : qm_G} {ad : Nat → Nat} {H : Heap} (hP : va_P G.2.1 qm_cl (qz_L (ad, zpic G ad, 405)) H) : qm_H (zl_G G ad) qz_s0 H := by
  refine ⟨fun i e he => ?_, fun i h1 h2 j hj => ?_⟩
  · by_cases z : i < 405
    · have hv := hP i _ (qz_at (T := (ad, zpic G ad, 405)) (k := i) z)
      have e0 : (zl_G G ad).1 i = ad i := if_pos z
      rw [e0]
      have hv2 := zpic_mono (G := G) (ad := ad) (ad' := (zl_G G ad).1) (fun j hj => (if_pos (zl_r2 i z j hj)).symm) hv
      have e1 : zpic G (zl_G G ad).1 i = e := by
        unfold zpic
        have he : qm_E ((zl_G G ad).1, G.2) qz_s0 i = some e := he
        rw [he]
      rw [e1] at hv2
      exact hv2
    · rw [qm_E_out (by omega)] at he
      cases he
  · show qz_s0 i j = _
    unfold qz_s0
    rw [if_pos h1]
theorem zl_GI {G : qm_G} {ad : Nat → Nat} {sz : Nat} {E : Nat → va_E} (hD : va_D (fun q => sz ≤ q) (qz_L (ad, E, 405))) (hx : ∀ i, 405 ≤ i → i < 426 → G.1 i < sz) : qm_GI (zl_G G ad) ∧ ∀ i, i < qm_N → sz ≤ (zl_G G ad).1 i := by
  have hA : ∀ i, i < 405 → sz ≤ ad i := fun i hi => hD.2 i _ (qz_at (T := (ad, E, 405)) (k := i) hi)
  refine ⟨fun i a hk ha e => ?_, fun i hi => ?_⟩
  · have ha : a < 405 := ha
    have e2 : (zl_G G ad).1 a = ad a := if_pos ha
    by_cases z : i < 405
    · have e1 : (zl_G G ad).1 i = ad i := if_pos z
      rw [e1, e2] at e
      exact hD.1 i a _ _ (qz_at (T := (ad, E, 405)) (k := i) z) (qz_at (T := (ad, E, 405)) (k := a) ha) e
    · by_cases y : i < 426
      · have e1 : (zl_G G ad).1 i = G.1 i := if_neg z
        rw [e1, e2] at e
        have := hx i (by omega) y
        have := hA a ha
        omega
      · rw [qm_kd_end (by omega)] at hk
        exact absurd rfl hk
  · have hi : i < 405 := hi
    have e1 : (zl_G G ad).1 i = ad i := if_pos hi
    rw [e1]
    exact hA i hi
