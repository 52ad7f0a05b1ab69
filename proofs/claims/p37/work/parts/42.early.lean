section
variable {X : qm_X} {own : String} {cc : ByteArray} {nL f lo mc ms : Nat} {il : List qm_I}
variable {pc pc' ce sl : Nat} {ρ : List (Option Value)} {st : List Value} {T : qz_T}
theorem zi_n {i : Nat} (h : i ≤ 100000) : (Int32.ofNat i).toInt = (i : Int) := by
  have hs : Int32.size = 4294967296 := rfl
  rw [Int32.toInt_ofNat']
  exact Int.bmod_eq_of_le (by omega) (by omega)
theorem zi_c {i : Nat} (h : i ≤ 100000) : (Int32.ofNat i).toNatClampNeg = i := by
  show (Int32.ofNat i).toInt.toNat = i
  rw [zi_n h]
  omega
theorem zi_in {i N : Nat} (h : i ≤ 100000) (hN : i < N) : vp_in (Int32.ofNat i) N := by
  rintro (q | q)
  · have := Int32.lt_iff_toInt_lt.mp q
    rw [zi_n h] at this
    have h0 : (0 : Int32).toInt = 0 := rfl
    omega
  · rw [zi_c h] at q
    omega
theorem zi_s {i : Nat} : Int32.ofNat i + 1 = Int32.ofNat (i + 1) := (Int32.ofNat_add i 1).symm
theorem zi_u {c g : Nat → Int32} {i : Nat} : upd (fun j => if j < i then c j else g j) i (c i) = fun j => if j < i + 1 then c j else g j := by
  funext j
  unfold upd
  by_cases h1 : j = i
  · rw [if_pos h1, if_pos (by omega), h1]
  · rw [if_neg h1]
    show (if j < i then c j else g j) = _
    by_cases h2 : j < i
    · rw [if_pos h2, if_pos (by omega)]
    · rw [if_neg h2, if_neg (by omega)]
theorem qz_iflt (hX : qz_ok X own cc nL f lo mc ms il) (k : Nat) {x : Int32} {off : Int} (tgt : Nat) (hd : qm_nth il k = some (pc, .ifCond .lt off, 3, pc')) (ht : (pc : Int) + off = (tgt : Int)) (h1 : x < 0 → qz_J X tgt ρ st T ce sl) (h2 : ¬ x < 0 → qz_J X pc' ρ st T ce sl) : qz_J X pc ρ (.int x :: st) T ce sl := by
  cases zk_n hX hd
  exact fun H locs ls hP hD hS hL => lv_if_lt (zk_ex hX) (zk_by hX) (zk_d hX hd) ht (fun c => h1 c H locs ls hP hD hS hL) (fun c => h2 c H locs ls hP hD hS hL)
theorem qz_ifeq (hX : qz_ok X own cc nL f lo mc ms il) (k : Nat) {x : Int32} {off : Int} (tgt : Nat) (hd : qm_nth il k = some (pc, .ifCond .eq off, 3, pc')) (ht : (pc : Int) + off = (tgt : Int)) (h1 : x = 0 → qz_J X tgt ρ st T ce sl) (h2 : ¬ x = 0 → qz_J X pc' ρ st T ce sl) : qz_J X pc ρ (.int x :: st) T ce sl := by
  cases zk_n hX hd
  exact fun H locs ls hP hD hS hL => lv_if_eq (zk_ex hX) (zk_by hX) (zk_d hX hd) ht (fun c => h1 c H locs ls hP hD hS hL) (fun c => h2 c H locs ls hP hD hS hL)
theorem qz_icgeN (hX : qz_ok X own cc nL f lo mc ms il) (k : Nat) {i N : Nat} {off : Int} (tgt : Nat) (hd : qm_nth il k = some (pc, .if_icmp .ge off, 3, pc')) (ht : (pc : Int) + off = (tgt : Int)) (hi : i ≤ 100000) (hN : N ≤ 100000) (h1 : N ≤ i → qz_J X tgt ρ st T ce sl) (h2 : i < N → qz_J X pc' ρ st T ce sl) : qz_J X pc ρ (.int (Int32.ofNat N) :: .int (Int32.ofNat i) :: st) T ce sl := by
  refine qz_icge hX k tgt hd ht (fun c => h1 ?_) (fun c => h2 ?_)
  · have := Int32.le_iff_toInt_le.mp c
    rw [zi_n hi, zi_n hN] at this
    omega
  · rcases Nat.lt_or_ge i N with q | q
    · exact q
    · exact absurd (Int32.le_iff_toInt_le.mpr (by rw [zi_n hi, zi_n hN]; omega)) c
theorem qz_to {T T' : qz_T} (e : T = T') (h : qz_J X pc ρ st T' ce sl) : qz_J X pc ρ st T ce sl := e ▸ h
theorem qz_lo {i : Nat} {j : Int32} (e : j = Int32.ofNat i) {r1 r2 : List (Option Value)} (h : qz_J X pc (r1 ++ some (.int (Int32.ofNat i)) :: r2) st T ce sl) : qz_J X pc (r1 ++ some (.int j) :: r2) st T ce sl := e ▸ h
end
theorem qz_uu {α : Type} {g : Nat → α} {k : Nat} {a b : α} : qz_u (qz_u g k a) k b = qz_u g k b := by
  funext i
  unfold qz_u
  by_cases h : i = k
  · rw [if_pos h, if_pos h]
  · rw [if_neg h, if_neg h, if_neg h]
theorem qz_uc {α : Type} {g : Nat → α} {k j : Nat} {a b : α} (h : k ≠ j) : qz_u (qz_u g k a) j b = qz_u (qz_u g j b) k a := by
  funext i
  unfold qz_u
  by_cases h1 : i = j
  · rw [if_pos h1, if_pos h1, if_neg (fun q => h (q.symm.trans h1))]
  · rw [if_neg h1, if_neg h1]
theorem qz_ue {α : Type} {g : Nat → α} {k : Nat} {a : α} (h : g k = a) : qz_u g k a = g := by
  funext i
  unfold qz_u
  by_cases h1 : i = k
  · rw [if_pos h1, h1, h]
  · rw [if_neg h1]
/-- Run.setting -/
theorem zc_setting {l : Launch} {G : qm_G} (ad : Nat → Nat) (E : Nat → va_E) (n a s : Nat) (j : Nat) (hj : j < 8) (ha : a < n) (hs : s < n) {b : Int32} {v2 : Value} {g : Nat → Int32} (hE : E a = .inr (4, [.int b, .ref (ad s), v2])) (hS : E s = .inl (G.2.2 1, 8, .inl g)) : qz_MI l G jy_Run_setting prog_6_method_5_code 2 (some .int) 0 0 (ad, E, n) [.ref (ad a), .int (Int32.ofNat j)] (g j) := by
  refine qz_metI (by decide +kernel) jd_Run_setting (fun v hv => by simp only [List.mem_cons, List.not_mem_nil, or_false] at hv; rcases hv with rfl | rfl <;> rfl) (by exact Nat.le_of_ble_eq_true rfl) rfl (fun X hl hg hX hR => ?_)
  subst hl
  subst hg
  refine qz_iload_n hX 0 rfl rfl ?_
  refine qz_iflt hX 1 19 rfl (by decide) (fun c => ?_) (fun _ => ?_)
  · have := Int32.lt_iff_toInt_lt.mp c
    rw [zi_n (by omega)] at this
    have h0 : (0 : Int32).toInt = 0 := rfl
    omega
  refine qz_iload_n hX 2 rfl rfl ?_
  refine qz_bipush hX 3 (Int32.ofNat 8) rfl (by decide) ?_
  refine qz_icgeN hX 4 19 rfl (by decide) (by omega) (by decide) (fun c => by omega) (fun _ => ?_)
  refine qz_aload_n hX 5 rfl rfl ?_
  refine qz_get hX 6 a rfl fl_Run_11 ha rfl hE rfl ?_
  refine qz_iload_n hX 7 rfl rfl ?_
  refine qz_iald hX 8 s rfl hs rfl hS (zi_in (by omega) hj) ?_
  refine qz_goto hX 9 (tgt := 20) rfl (by decide) ?_
  rw [zi_c (by omega)]
  exact qz_iret hX 11 rfl hR rfl
/-- Run.clear -/
theorem zc_clear {l : Launch} {G : qm_G} (ad : Nat → Nat) (E : Nat → va_E) (n a s : Nat) (ha : a < n) (hs : s < n) (has : a ≠ s) {b : Int32} {v2 : Value} {g : Nat → Int32} (hE : E a = .inr (4, [.int b, .ref (ad s), v2])) (hS : E s = .inl (G.2.2 1, 8, .inl g)) : qz_MV l G jy_Run_clear prog_6_method_3_code 2 0 0 0 0 (ad, E, n) [.ref (ad a)] (fun T' => T' = (ad, qz_u (qz_u E a (.inr (4, [.int 0, .ref (ad s), v2]))) s (.inl (G.2.2 1, 8, .inl (fun j => if j < 8 then qm_sv 405 j else g j))), n)) := by
  refine qz_met (by decide +kernel) jd_Run_clear (fun v hv => by simp only [List.mem_cons, List.not_mem_nil, or_false] at hv; rcases hv with rfl; rfl) (by exact Nat.le_of_ble_eq_true rfl) (fun X hl hg hm hX hR => ?_)
  subst hl
  subst hg
  have loop : ∀ (d i : Nat), i + d = 8 → qz_J X 7 [some (.ref (ad a)), some (.int (Int32.ofNat i))] [] (ad, qz_u (qz_u E a (.inr (4, [.int 0, .ref (ad s), v2]))) s (.inl ((qx_G X).2.2 1, 8, .inl (fun j => if j < i then qm_sv 405 j else g j))), n) 0 0 := by
    intro d
    induction d with
    | zero =>
      intro i hi
      refine qz_iload_n hX 5 rfl rfl ?_
      refine qz_bipush hX 6 (Int32.ofNat 8) rfl (by decide) ?_
      refine qz_icgeN hX 7 30 rfl (by decide) (by omega) (by decide) (fun _ => ?_) (fun c => by omega)
      have e : i = 8 := by omega
      subst e
      exact qz_ret hX 17 rfl hR ⟨Nat.le_refl _, Nat.le_refl _⟩ rfl
    | succ d ih =>
      intro i hi
      refine qz_iload_n hX 5 rfl rfl ?_
      refine qz_bipush hX 6 (Int32.ofNat 8) rfl (by decide) ?_
      refine qz_icgeN hX 7 30 rfl (by decide) (by omega) (by decide) (fun c => by omega) (fun _ => ?_)
      refine qz_aload_n hX 8 rfl rfl ?_
      refine qz_get hX 9 (fs := [.int 0, .ref (ad s), v2]) a rfl fl_Run_11 ha rfl (by rw [qz_un has, qz_us]) rfl ?_
      refine qz_iload_n hX 10 rfl rfl ?_
      refine qz_sget (n := "SETTING_FIRST") hX 11 405 rfl (by decide) (by decide) ?_
      refine qz_iload_n hX 12 rfl rfl ?_
      refine qz_sti hX 13 rfl (by decide) (zi_in (by omega) (by omega)) ?_
      refine qz_iast hX 14 s rfl hs rfl qz_us (zi_in (by omega) (by omega)) ?_
      refine qz_iinc hX 15 1 [some (.ref (ad a)), some (.int (Int32.ofNat i + 1))] rfl (by decide) (by decide) rfl rfl ?_
      refine qz_goto hX 16 (tgt := 7) rfl (by decide) ?_
      have h := ih (i + 1) (by omega)
      rw [zi_s, qz_uu, zi_c (by omega)]
      have e : upd (fun j => if j < i then qm_sv 405 j else g j) i (qm_sv 405 i) = (fun j => if j < i + 1 then qm_sv 405 j else g j) := zi_u (c := qm_sv 405) (g := g) (i := i)
      rw [e]
      exact h
  refine qz_aload_n hX 0 rfl rfl ?_
  refine qz_iconst hX 1 0 rfl (by decide) ?_
  refine qz_put hX 2 (ty := .int) a rfl zp_Run_27 (fun q => by cases q) ha rfl hE rfl ⟨rfl, rfl⟩ ?_
  refine qz_iconst hX 3 (Int32.ofNat 0) rfl (by decide) ?_
  refine qz_istore_n hX 4 [some (.ref (ad a)), some (.int (Int32.ofNat 0))] rfl (by decide) rfl ?_
  have h := loop 8 0 rfl
  have e : qz_u (qz_u E a (.inr (4, [.int 0, .ref (ad s), v2]))) s (.inl ((qx_G X).2.2 1, 8, .inl (fun j => if j < 0 then qm_sv 405 j else g j))) = qz_u E a (.inr (4, [.int 0, .ref (ad s), v2])) := qz_ue (by rw [qz_un (fun q => has q.symm), hS]; rfl)
  rw [e] at h
  exact h
/-- Fitter.forget -/
theorem zc_forget {l : Launch} {G : qm_G} (ad : Nat → Nat) (E : Nat → va_E) (n a kn r s : Nat) (ha : a < n) (hk : kn < n) (hr : r < n) (hs : s < n) (h1 : a ≠ kn) (h2 : a ≠ r) (h3 : a ≠ s) (h4 : kn ≠ r) (h5 : kn ≠ s) {b x2 x3 x5 x6 x7 : Int32} {v2 f1 f4 : Value} {g gs : Nat → Int32} (hE : E a = .inr (0, [.ref (ad r), f1, .int x2, .int x3, f4, .int x5, .int x6, .int x7, .ref (ad kn), .int 1])) (hK : E kn = .inl (G.2.2 1, 1820, .inl g)) (hR0 : E r = .inr (4, [.int b, .ref (ad s), v2])) (hS : E s = .inl (G.2.2 1, 8, .inl gs)) : qz_MV l G jy_Fitter_forget prog_2_method_2_code 2 1 21 0 0 (ad, E, n) [.ref (ad a)] (fun T' => T' = (ad, qz_u (qz_u E kn (.inl (G.2.2 1, 1820, .inl (fun j => if j < 1820 then -1 else g j)))) a (.inr (0, [.ref (ad r), f1, .int (gs 6), .int (gs 5), f4, .int (-1), .int x6, .int x7, .ref (ad kn), .int 0])), n)) := by
  refine qz_met (by decide +kernel) jd_Fitter_forget (fun v hv => by simp only [List.mem_cons, List.not_mem_nil, or_false] at hv; rcases hv with rfl; rfl) (by exact Nat.le_of_ble_eq_true rfl) (fun X hl hg hm hX hR => ?_)
  subst hl
  subst hg
  have loop : ∀ (d i : Nat), i + d = 1820 → qz_J X 39 [some (.ref (ad a)), some (.int (Int32.ofNat i))] [] (ad, qz_u (qz_u E kn (.inl ((qx_G X).2.2 1, 1820, .inl (fun j => if j < i then -1 else g j)))) a (.inr (0, [.ref (ad r), f1, .int (gs 6), .int (gs 5), f4, .int (-1), .int x6, .int x7, .ref (ad kn), .int 1])), n) 0 0 := by
    intro d
    induction d with
    | zero =>
      intro i hi
      have e : i = 1820 := by omega
      subst e
      refine qz_iload_n hX 20 rfl rfl ?_
      refine qz_aload_n hX 21 rfl rfl ?_
      refine qz_get hX 22 a rfl fl_Fitter_24 ha rfl qz_us rfl ?_
      refine qz_alen hX 23 kn (Int32.ofNat 1820) rfl hk rfl (by rw [qz_un (fun q => h1 q.symm), qz_us]) rfl ?_
      refine qz_icgeN hX 24 61 rfl (by decide) (by decide) (by decide) (fun _ => ?_) (fun c => by omega)
      refine qz_aload_n hX 32 rfl rfl ?_
      refine qz_iconst hX 33 0 rfl (by decide) ?_
      refine qz_put hX 34 (ty := .boolean) a rfl zp_Fitter_28 (fun q => by cases q) ha rfl qz_us rfl ⟨rfl, rfl⟩ ?_
      rw [qz_uu]
      exact qz_ret hX 35 rfl hR ⟨Nat.le_refl _, Nat.le_refl _⟩ rfl
    | succ d ih =>
      intro i hi
      refine qz_iload_n hX 20 rfl rfl ?_
      refine qz_aload_n hX 21 rfl rfl ?_
      refine qz_get hX 22 a rfl fl_Fitter_24 ha rfl qz_us rfl ?_
      refine qz_alen hX 23 kn (Int32.ofNat 1820) rfl hk rfl (by rw [qz_un (fun q => h1 q.symm), qz_us]) rfl ?_
      refine qz_icgeN hX 24 61 rfl (by decide) (by omega) (by decide) (fun c => by omega) (fun _ => ?_)
      refine qz_aload_n hX 25 rfl rfl ?_
      refine qz_get hX 26 a rfl fl_Fitter_24 ha rfl qz_us rfl ?_
      refine qz_iload_n hX 27 rfl rfl ?_
      refine qz_iconst hX 28 (-1) rfl (by decide) ?_
      refine qz_iast hX 29 kn rfl hk rfl (by rw [qz_un (fun q => h1 q.symm), qz_us]) (zi_in (by omega) (by omega)) ?_
      refine qz_iinc hX 30 1 [some (.ref (ad a)), some (.int (Int32.ofNat i + 1))] rfl (by decide) (by decide) rfl rfl ?_
      refine qz_goto hX 31 (tgt := 39) rfl (by decide) ?_
      have h := ih (i + 1) (by omega)
      rw [zi_s, qz_uc h1, qz_uu, zi_c (by omega)]
      have e : upd (fun j => if j < i then -1 else g j) i (-1) = (fun j => if j < i + 1 then -1 else g j) := zi_u (c := fun _ => -1) (g := g) (i := i)
      rw [e]
      exact h
  refine qz_aload_n hX 0 rfl rfl ?_
  refine qz_aload_n hX 1 rfl rfl ?_
  refine qz_get hX 2 a rfl fl_Fitter_9 ha rfl hE rfl ?_
  refine qz_bipush hX 3 (Int32.ofNat 6) rfl (by decide) ?_
  refine qz_callS hX 4 r rfl cv_Fitter_35 (zc_setting ad E n r s 6 (by decide) hr hs hR0 hS) hr rfl hR0 ⟨jc_4.1, rfl, rfl, by decide, by decide⟩ ⟨Nat.le_refl _, Nat.le_refl _⟩ rfl (by exact Nat.le_of_ble_eq_true rfl) ?_
  refine qz_put hX 5 (ty := .int) a rfl zp_Fitter_41 (fun q => by cases q) ha rfl hE rfl ⟨rfl, rfl⟩ ?_
  refine qz_aload_n hX 6 rfl rfl ?_
  refine qz_aload_n hX 7 rfl rfl ?_
  refine qz_get hX 8 a rfl fl_Fitter_9 ha rfl qz_us rfl ?_
  refine qz_iconst hX 9 (Int32.ofNat 5) rfl (by decide) ?_
  refine qz_callS hX 10 r rfl cv_Fitter_35 (zc_setting ad _ n r s 5 (by decide) hr hs (by rw [qz_un (fun q => h2 q.symm)]; exact hR0) (by rw [qz_un (fun q => h3 q.symm)]; exact hS)) hr rfl (by rw [qz_un (fun q => h2 q.symm)]; exact hR0) ⟨jc_4.1, rfl, rfl, by decide, by decide⟩ ⟨Nat.le_refl _, Nat.le_refl _⟩ rfl (by exact Nat.le_of_ble_eq_true rfl) ?_
  refine qz_put hX 11 (ty := .int) a rfl zp_Fitter_45 (fun q => by cases q) ha rfl qz_us rfl ⟨rfl, rfl⟩ ?_
  rw [qz_uu]
  refine qz_aload_n hX 12 rfl rfl ?_
  refine qz_iconst hX 13 (-1) rfl (by decide) ?_
  refine qz_put hX 14 (ty := .int) a rfl zp_Fitter_48 (fun q => by cases q) ha rfl qz_us rfl ⟨rfl, rfl⟩ ?_
  rw [qz_uu]
  refine qz_aload_n hX 15 rfl rfl ?_
  refine qz_get hX 16 a rfl fl_Fitter_28 ha rfl qz_us rfl ?_
  refine qz_ifeq hX 17 66 rfl (by decide) (fun c => absurd c (by decide)) (fun _ => ?_)
  refine qz_iconst hX 18 (Int32.ofNat 0) rfl (by decide) ?_
  refine qz_istore_n hX 19 [some (.ref (ad a)), some (.int (Int32.ofNat 0))] rfl (by decide) rfl ?_
  have h := loop 1820 0 rfl
  have e : qz_u E kn (.inl ((qx_G X).2.2 1, 1820, .inl (fun j => if j < 0 then -1 else g j))) = E := qz_ue (by rw [hK]; rfl)
  rw [e] at h
  exact h
/-- what begins a row of the reference -/
def qz_bg (j : Nat) : Int32 := ([2, 60, 2, 2, 2, 1, 1] : List Int32).getD j 0
