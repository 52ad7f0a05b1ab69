/-! ===== the object is made ===== -/
def zt (G : qm_G) (ad : Nat → Nat) (fs : List Value) : Nat → va_E := fun i => if i = 0 then .inr (8, fs) else zpic G ad i
theorem zt_0 {G : qm_G} {ad : Nat → Nat} {fs : List Value} : zt G ad fs 0 = .inr (8, fs) := if_pos rfl
theorem zt_p {G : qm_G} {ad : Nat → Nat} {fs : List Value} {i : Nat} (h : i ≠ 0) : zt G ad fs i = zpic G ad i := if_neg h
theorem zt_go {X : qm_X} {pc ce sl : Nat} {ρ : List (Option Value)} {st : List Value} {ad ad2 : Nat → Nat} {E2 : Nat → va_E} {fs' : List Value} {n n2 : Nat} (hrf : ∀ i, i < n → 1 ≤ i → ∀ j, j < qz_rl i → qm_rf i j < n) (had : ∀ i, i < n → ad2 i = ad i) (h0 : E2 0 = .inr (8, fs')) (h1 : ∀ i, 1 ≤ i → i < n → E2 i = zpic (qx_G X) ad i) (h2 : ∀ i, 1 ≤ i → n ≤ i → i < n2 → E2 i = zpic (qx_G X) ad2 i) (h : qz_J X pc ρ st (ad2, zt (qx_G X) ad2 fs', n2) ce sl) : qz_J X pc ρ st (ad2, E2, n2) ce sl := by
  refine qz_cv (E' := zt (qx_G X) ad2 fs') (fun i hi H hv => ?_) h
  by_cases z : i = 0
  · subst z
    rw [zt_0, ← h0]
    exact hv
  · rw [zt_p z]
    by_cases y : i < n
    · rw [h1 i (by omega) y] at hv
      exact zpic_mono (ad := ad) (ad' := ad2) (fun j hj => (had _ (hrf i y (by omega) j hj)).symm) hv
    · rw [h2 i (by omega) (by omega) hi] at hv
      exact hv
/-- one object more, and its place in the first -/
theorem zt_one {X : qm_X} {pc ce sl : Nat} {ρ : List (Option Value)} {st : List Value} {ad ad2 : Nat → Nat} {fs fs' : List Value} {e : va_E} {n n2 q1 : Nat} (hn : 1 ≤ n) (hrf : ∀ i, i < n → 1 ≤ i → ∀ j, j < qz_rl i → qm_rf i j < n) (had : ∀ i, i < n + 1 → ad2 i = qz_u ad n q1 i) (h : qz_J X pc ρ st (ad2, zt (qx_G X) ad2 fs', n2) ce sl) : qz_J X pc ρ st (ad2, qz_u (zf (qx_G X) ad2 (qz_u (zt (qx_G X) ad fs) n e) n (n + 1) n2) 0 (.inr (8, fs')), n2) ce sl :=
  zt_go (n := n) (ad := ad) hrf (fun i hi => by rw [had i (by omega), qz_un (by omega)]) qz_us (fun i h1 h2 => by rw [qz_un (by omega), zf_out (by omega), qz_un (by omega), zt_p (by omega)]) (fun i h1 h2 h3 => by rw [qz_un (by omega), zf_in (by omega)]) h
set_option maxHeartbeats 4000000 in
theorem zc_Top {l : Launch} {G : qm_G} (ad : Nat → Nat) (E : Nat → va_E) (q : Nat) (hq : ad 0 = q) (hE : E 0 = .inr (8, [.null, .null, .null, .null, .null, .int 0, .null, .null, .null, .int 0, .int 0])) : qz_MV l G jy_Top_init prog_1_method_1_code 2 4 86 366 19806 (ad, E, 1) [.ref q] (zpost G ad E 0 1 367) := by
  refine qz_met (by decide +kernel) jd_Top_init (fun v hv => by simp only [List.mem_cons, List.not_mem_nil, or_false] at hv; rcases hv with rfl; rfl) (by exact Nat.le_of_ble_eq_true rfl) (fun X hl hg hm hX hR => ?_)
  subst hl
  subst hg
  refine qz_aload_n hX 0 rfl rfl ?_
  refine qz_obj hX 1 rfl zo_Top zo_1 zo_2 ⟨by decide, by decide⟩ ?_
  refine qz_cv (E' := zt (qx_G X) ad [.null, .null, .null, .null, .null, .int 0, .null, .null, .null, .int 0, .int 0]) (fun i hi H hv => by rw [show i = 0 by omega, zt_0, ← hE]; rw [show i = 0 by omega] at hv; exact hv) ?_
  refine qz_aload_n hX 2 rfl rfl ?_
  refine qz_new hX 3 rfl zn_Top_9 ⟨Nat.le_of_ble_eq_true rfl, Nat.le_of_ble_eq_true rfl⟩ (fun q1 => ?_)
  refine qz_dup hX 4 rfl ?_
  refine qz_callI hX 5 rfl zi_Top_11 (zc_Run _ _ 1 q1 (by decide +kernel) qz_us qz_us) ⟨rfl, by decide, by decide⟩ ⟨Nat.le_of_ble_eq_true rfl, Nat.le_of_ble_eq_true rfl⟩ rfl (by exact Nat.le_of_ble_eq_true rfl) (fun T1 hT1 => ?_)
  obtain ⟨ad1, had1, rfl⟩ := hT1
  refine qz_put (fs := [.null, .null, .null, .null, .null, .int 0, .null, .null, .null, .int 0, .int 0]) hX 6 0 rfl zp_Top_12 (fun _ => hm) (Nat.le_of_ble_eq_true rfl) (by rw [had1 0 (by decide), qz_un (by decide)]; exact hq) (by rw [zf_out (by decide), qz_un (by decide)]; exact zt_0) rfl ⟨rfl, rfl⟩ ?_
  refine zt_one (fs' := [.ref q1, .null, .null, .null, .null, .int 0, .null, .null, .null, .int 0, .int 0]) (by decide) (by decide +kernel) had1 ?_
  have k0' : ad1 0 = q := by rw [had1 0 (by decide), qz_un (by decide)]; exact hq
  have kn' : ad1 1 = q1 := by rw [had1 1 (by decide), qz_us]
  have k0 := k0'
  clear k0'
  have k1 := kn'
  clear kn'
  refine qz_aload_n hX 7 rfl rfl ?_
  refine qz_new hX 8 rfl zn_Top_16 ⟨Nat.le_of_ble_eq_true rfl, Nat.le_of_ble_eq_true rfl⟩ (fun q4 => ?_)
  refine qz_dup hX 9 rfl ?_
  refine qz_callI hX 10 rfl zi_Top_18 (zc_Tape_4 _ _ q4 qz_us qz_us) ⟨rfl, by decide, by decide⟩ ⟨Nat.le_of_ble_eq_true rfl, Nat.le_of_ble_eq_true rfl⟩ rfl (by exact Nat.le_of_ble_eq_true rfl) (fun T2 hT2 => ?_)
  obtain ⟨ad2, had2, rfl⟩ := hT2
  refine qz_put (fs := [.ref q1, .null, .null, .null, .null, .int 0, .null, .null, .null, .int 0, .int 0]) hX 11 0 rfl zp_Top_19 (fun _ => hm) (Nat.le_of_ble_eq_true rfl) (by rw [had2 0 (by decide), qz_un (by decide)]; exact k0) (by rw [zf_out (by decide), qz_un (by decide)]; exact zt_0) rfl ⟨rfl, rfl⟩ ?_
  refine zt_one (fs' := [.ref q1, .ref q4, .null, .null, .null, .int 0, .null, .null, .null, .int 0, .int 0]) (by decide) (by decide +kernel) had2 ?_
  have k0' : ad2 0 = q := by rw [had2 0 (by decide), qz_un (by decide)]; exact k0
  have k1' : ad2 1 = q1 := by rw [had2 1 (by decide), qz_un (by decide)]; exact k1
  have kn' : ad2 4 = q4 := by rw [had2 4 (by decide), qz_us]
  have k0 := k0'
  clear k0'
  have k1 := k1'
  clear k1'
  have k4 := kn'
  clear kn'
  refine qz_aload_n hX 12 rfl rfl ?_
  refine qz_new hX 13 rfl zn_Top_23 ⟨Nat.le_of_ble_eq_true rfl, Nat.le_of_ble_eq_true rfl⟩ (fun q6 => ?_)
  refine qz_dup hX 14 rfl ?_
  refine qz_aload_n hX 15 rfl rfl ?_
  refine qz_get (fs := [.ref q1, .ref q4, .null, .null, .null, .int 0, .null, .null, .null, .int 0, .int 0]) hX 16 0 rfl zg_Top_19 (Nat.le_of_ble_eq_true rfl) (by rw [qz_un (by decide)]; exact k0) (by rw [qz_un (by decide)]; exact zt_0) rfl ?_
  refine qz_callI hX 17 rfl zi_Top_25 (zc_Teller_6 _ _ q6 q4 qz_us (by rw [qz_un (by decide)]; exact k4) qz_us) ⟨rfl, by decide, by decide⟩ ⟨Nat.le_of_ble_eq_true rfl, Nat.le_of_ble_eq_true rfl⟩ rfl (by exact Nat.le_of_ble_eq_true rfl) (fun T3 hT3 => ?_)
  obtain ⟨ad3, had3, rfl⟩ := hT3
  refine qz_put (fs := [.ref q1, .ref q4, .null, .null, .null, .int 0, .null, .null, .null, .int 0, .int 0]) hX 18 0 rfl zp_Top_28 (fun _ => hm) (Nat.le_of_ble_eq_true rfl) (by rw [had3 0 (by decide), qz_un (by decide)]; exact k0) (by rw [zf_out (by decide), qz_un (by decide)]; exact zt_0) rfl ⟨rfl, rfl⟩ ?_
  refine zt_one (fs' := [.ref q1, .ref q4, .ref q6, .null, .null, .int 0, .null, .null, .null, .int 0, .int 0]) (by decide) (by decide +kernel) had3 ?_
  have k0' : ad3 0 = q := by rw [had3 0 (by decide), qz_un (by decide)]; exact k0
  have k1' : ad3 1 = q1 := by rw [had3 1 (by decide), qz_un (by decide)]; exact k1
  have k4' : ad3 4 = q4 := by rw [had3 4 (by decide), qz_un (by decide)]; exact k4
  have kn' : ad3 6 = q6 := by rw [had3 6 (by decide), qz_us]
  have k0 := k0'
  clear k0'
  have k1 := k1'
  clear k1'
  have k4 := k4'
  clear k4'
  have k6 := kn'
  clear kn'
  refine qz_aload_n hX 19 rfl rfl ?_
  refine qz_new hX 20 rfl zn_Top_32 ⟨Nat.le_of_ble_eq_true rfl, Nat.le_of_ble_eq_true rfl⟩ (fun q13 => ?_)
  refine qz_dup hX 21 rfl ?_
  refine qz_callI hX 22 rfl zi_Top_34 (zc_Past_13 _ _ q13 qz_us qz_us) ⟨rfl, by decide, by decide⟩ ⟨Nat.le_of_ble_eq_true rfl, Nat.le_of_ble_eq_true rfl⟩ rfl (by exact Nat.le_of_ble_eq_true rfl) (fun T4 hT4 => ?_)
  obtain ⟨ad4, had4, rfl⟩ := hT4
  refine qz_put (fs := [.ref q1, .ref q4, .ref q6, .null, .null, .int 0, .null, .null, .null, .int 0, .int 0]) hX 23 0 rfl zp_Top_35 (fun _ => hm) (Nat.le_of_ble_eq_true rfl) (by rw [had4 0 (by decide), qz_un (by decide)]; exact k0) (by rw [zf_out (by decide), qz_un (by decide)]; exact zt_0) rfl ⟨rfl, rfl⟩ ?_
  refine zt_one (fs' := [.ref q1, .ref q4, .ref q6, .ref q13, .null, .int 0, .null, .null, .null, .int 0, .int 0]) (by decide) (by decide +kernel) had4 ?_
  have k0' : ad4 0 = q := by rw [had4 0 (by decide), qz_un (by decide)]; exact k0
  have k1' : ad4 1 = q1 := by rw [had4 1 (by decide), qz_un (by decide)]; exact k1
  have k4' : ad4 4 = q4 := by rw [had4 4 (by decide), qz_un (by decide)]; exact k4
  have k6' : ad4 6 = q6 := by rw [had4 6 (by decide), qz_un (by decide)]; exact k6
  have kn' : ad4 13 = q13 := by rw [had4 13 (by decide), qz_us]
  have k0 := k0'
  clear k0'
  have k1 := k1'
  clear k1'
  have k4 := k4'
  clear k4'
  have k6 := k6'
  clear k6'
  have k13 := kn'
  clear kn'
  refine qz_aload_n hX 24 rfl rfl ?_
  refine qz_iconst hX 25 2 rfl (by decide) ?_
  refine qz_newq hX 26 2 rfl za_Top_9 (by decide) ⟨Nat.le_of_ble_eq_true rfl, Nat.le_of_ble_eq_true rfl⟩ (fun q45 => ?_)
  refine qz_put (fs := [.ref q1, .ref q4, .ref q6, .ref q13, .null, .int 0, .null, .null, .null, .int 0, .int 0]) hX 27 0 rfl zp_Top_39 (fun _ => hm) (Nat.le_of_ble_eq_true rfl) (by rw [qz_un (by decide)]; exact k0) (by rw [qz_un (by decide)]; exact zt_0) rfl ⟨rfl, rfl⟩ ?_
  refine qz_iconst hX 28 (Int32.ofNat 0) rfl (by decide) ?_
  refine qz_istore_n hX 29 [some (.ref q), some (.int (Int32.ofNat 0))] rfl (by decide) rfl ?_
  refine qz_iload_n hX 30 rfl rfl ?_
  refine qz_iconst hX 31 (Int32.ofNat 2) rfl (by decide) ?_
  refine qz_icgeN hX 32 86 rfl (by decide) (by decide) (by decide) (fun c => absurd c (by decide)) (fun _ => ?_)
  refine qz_aload_n hX 33 rfl rfl ?_
  refine qz_get (fs := [.ref q1, .ref q4, .ref q6, .ref q13, .ref q45, .int 0, .null, .null, .null, .int 0, .int 0]) hX 34 0 rfl zg_Top_39 (Nat.le_of_ble_eq_true rfl) (by rw [qz_un (by decide)]; exact k0) (by simp [qz_u, zf]) rfl ?_
  refine qz_iload_n hX 35 rfl rfl ?_
  refine qz_new hX 36 rfl zn_Top_9 ⟨Nat.le_of_ble_eq_true rfl, Nat.le_of_ble_eq_true rfl⟩ (fun q46 => ?_)
  refine qz_dup hX 37 rfl ?_
  refine qz_callI hX 38 rfl zi_Top_11 (zc_Run _ _ 46 q46 (by decide +kernel) qz_us qz_us) ⟨rfl, by decide, by decide⟩ ⟨Nat.le_of_ble_eq_true rfl, Nat.le_of_ble_eq_true rfl⟩ rfl (by exact Nat.le_of_ble_eq_true rfl) (fun T5 hT5 => ?_)
  obtain ⟨ad5, had5, rfl⟩ := hT5
  refine qz_aast hX 39 45 46 rfl (Nat.le_of_ble_eq_true rfl) (by rw [had5 45 (by decide), qz_un (by decide), qz_us]) (by rw [zf_out (by decide), qz_un (by decide), qz_un (by decide), qz_us]) (Nat.le_of_ble_eq_true rfl) (by rw [had5 46 (by decide), qz_us]) (by rw [zf_in (by decide)]; exact (zpic_Run (by decide +kernel)).1) (zi_in (by decide) (by decide)) ?_
  rw [zi_c (by decide)]
  refine qz_iinc hX 40 1 [some (.ref q), some (.int (Int32.ofNat 1))] rfl (by decide) (by decide) rfl rfl ?_
  refine qz_goto hX 41 (tgt := 62) rfl (by decide) ?_
  refine qz_iload_n hX 30 rfl rfl ?_
  refine qz_iconst hX 31 (Int32.ofNat 2) rfl (by decide) ?_
  refine qz_icgeN hX 32 86 rfl (by decide) (by decide) (by decide) (fun c => absurd c (by decide)) (fun _ => ?_)
  refine qz_aload_n hX 33 rfl rfl ?_
  refine qz_get (fs := [.ref q1, .ref q4, .ref q6, .ref q13, .ref q45, .int 0, .null, .null, .null, .int 0, .int 0]) hX 34 0 rfl zg_Top_39 (Nat.le_of_ble_eq_true rfl) (by rw [had5 0 (by decide), qz_un (by decide), qz_un (by decide)]; exact k0) (by simp [qz_u, zf]) rfl ?_
  refine qz_iload_n hX 35 rfl rfl ?_
  refine qz_new hX 36 rfl zn_Top_9 ⟨Nat.le_of_ble_eq_true rfl, Nat.le_of_ble_eq_true rfl⟩ (fun q49 => ?_)
  refine qz_dup hX 37 rfl ?_
  refine qz_callI hX 38 rfl zi_Top_11 (zc_Run _ _ 49 q49 (by decide +kernel) qz_us qz_us) ⟨rfl, by decide, by decide⟩ ⟨Nat.le_of_ble_eq_true rfl, Nat.le_of_ble_eq_true rfl⟩ rfl (by exact Nat.le_of_ble_eq_true rfl) (fun T6 hT6 => ?_)
  obtain ⟨ad6, had6, rfl⟩ := hT6
  refine qz_aast hX 39 45 49 rfl (Nat.le_of_ble_eq_true rfl) (by rw [had6 45 (by decide), qz_un (by decide), had5 45 (by decide), qz_un (by decide), qz_us]) (by rw [zf_out (by decide), qz_un (by decide), qz_us]) (Nat.le_of_ble_eq_true rfl) (by rw [had6 49 (by decide), qz_us]) (by rw [zf_in (by decide)]; exact (zpic_Run (by decide +kernel)).1) (zi_in (by decide) (by decide)) ?_
  rw [zi_c (by decide)]
  refine qz_iinc hX 40 1 [some (.ref q), some (.int (Int32.ofNat 2))] rfl (by decide) (by decide) rfl rfl ?_
  refine qz_goto hX 41 (tgt := 62) rfl (by decide) ?_
  refine qz_iload_n hX 30 rfl rfl ?_
  refine qz_iconst hX 31 (Int32.ofNat 2) rfl (by decide) ?_
  refine qz_icgeN hX 32 86 rfl (by decide) (by decide) (by decide) (fun _ => ?_) (fun c => absurd c (by decide))
  have j46 : ad6 46 = q46 := by rw [had6 46 (by decide), qz_un (by decide), had5 46 (by decide), qz_us]
  have j49 : ad6 49 = q49 := by rw [had6 49 (by decide), qz_us]
  have low : ∀ i, i < 45 → ad6 i = ad4 i := fun i hi => by rw [had6 i (by omega), qz_un (by omega), had5 i (by omega), qz_un (by omega), qz_un (by omega)]
  have low5 : ∀ i, i < 49 → ad6 i = ad5 i := fun i hi => by rw [had6 i (by omega), qz_un (by omega)]
  refine qz_cv (E' := zt (qx_G X) ad6 [.ref q1, .ref q4, .ref q6, .ref q13, .ref q45, .int 0, .null, .null, .null, .int 0, .int 0]) (fun i hi H hv => ?_) ?_
  · have hs : i = 0 ∨ (1 ≤ i ∧ i < 45) ∨ i = 45 ∨ (46 ≤ i ∧ i < 49) ∨ (49 ≤ i ∧ i < 52) := by omega
    rcases hs with rfl | hs | rfl | hs | hs
    · simpa [qz_u, zf, zt_0] using hv
    · rw [zt_p (by omega)]
      rw [qz_un (by omega), zf_out (by omega), qz_un (by omega), qz_un (by omega), zf_out (by omega), qz_un (by omega), qz_un (by omega), qz_un (by omega), zt_p (by omega)] at hv
      have hr := (by decide +kernel : ∀ i, i < 45 → 1 ≤ i → ∀ j, j < qz_rl i → qm_rf i j < 45) i hs.2 hs.1
      exact zpic_mono (fun j hj => (low _ (hr j hj)).symm) hv
    · rw [zt_p (by omega)]
      rw [qz_us] at hv
      refine qz_arrR (fun j hj => ?_) hv
      have hj : j = 0 ∨ j = 1 := by have : j < 2 := hj; omega
      rcases hj with rfl | rfl
      · rw [show qm_rf 45 0 = 46 by decide +kernel]
        show va_up (va_up _ 0 (some q46)) 1 (some q49) 0 = some (ad6 46)
        rw [j46]; rfl
      · rw [show qm_rf 45 1 = 49 by decide +kernel]
        show va_up (va_up _ 0 (some q46)) 1 (some q49) 1 = some (ad6 49)
        rw [j49]; rfl
    · rw [zt_p (by omega)]
      rw [qz_un (by omega), zf_out (by omega), qz_un (by omega), qz_un (by omega), zf_in (by omega)] at hv
      have hr := (by decide +kernel : ∀ i, i < 49 → 46 ≤ i → ∀ j, j < qz_rl i → qm_rf i j < 49) i hs.2 hs.1
      exact zpic_mono (fun j hj => (low5 _ (hr j hj)).symm) hv
    · rw [zt_p (by omega)]
      rw [qz_un (by omega), zf_in (by omega)] at hv
      exact hv
  have k1' : ad6 1 = q1 := (low 1 (by decide)).trans k1
  have k4' : ad6 4 = q4 := (low 4 (by decide)).trans k4
  have k6' : ad6 6 = q6 := (low 6 (by decide)).trans k6
  have k13' : ad6 13 = q13 := (low 13 (by decide)).trans k13
  have k0' : ad6 0 = q := (low 0 (by decide)).trans k0
  have k45 : ad6 45 = q45 := by rw [had6 45 (by decide), qz_un (by decide), had5 45 (by decide), qz_un (by decide), qz_us]
  have k1 := k1'
  clear k1'
  have k4 := k4'
  clear k4'
  have k6 := k6'
  clear k6'
  have k13 := k13'
  clear k13'
  have k0 := k0'
  clear k0'
  have p1 := zpic_Run (G := qx_G X) (ad := ad6) (a := 1) (by decide +kernel)
  refine qz_aload_n hX 42 rfl rfl ?_
  refine qz_new hX 43 rfl zn_Top_43 ⟨Nat.le_of_ble_eq_true rfl, Nat.le_of_ble_eq_true rfl⟩ (fun q52 => ?_)
  refine qz_dup hX 44 rfl ?_
  refine qz_aload_n hX 45 rfl rfl ?_
  refine qz_get (fs := [.ref q1, .ref q4, .ref q6, .ref q13, .ref q45, .int 0, .null, .null, .null, .int 0, .int 0]) hX 46 0 rfl zg_Top_12 (Nat.le_of_ble_eq_true rfl) (by rw [qz_un (by decide)]; exact k0) (by rw [qz_un (by decide)]; exact zt_0) rfl ?_
  refine qz_sipush hX 47 240 rfl (by decide) ?_
  refine qz_callI hX 48 rfl zi_Top_45 (zc_Press_52 _ _ q52 q1 (ad6 2) (.ref (ad6 3)) qz_us (by rw [qz_un (by decide)]; exact k1) (by rw [qz_un (by decide)]) (by rw [qz_un (by decide), zt_p (by decide)]; exact p1.1) (by rw [qz_un (by decide), zt_p (by decide)]; exact p1.2.1) qz_us) ⟨rfl, by decide, by decide⟩ ⟨Nat.le_of_ble_eq_true rfl, Nat.le_of_ble_eq_true rfl⟩ rfl (by exact Nat.le_of_ble_eq_true rfl) (fun T7 hT7 => ?_)
  obtain ⟨ad7, had7, rfl⟩ := hT7
  refine qz_put (fs := [.ref q1, .ref q4, .ref q6, .ref q13, .ref q45, .int 0, .null, .null, .null, .int 0, .int 0]) hX 49 0 rfl zp_Top_48 (fun _ => hm) (Nat.le_of_ble_eq_true rfl) (by rw [had7 0 (by decide), qz_un (by decide)]; exact k0) (by rw [zf_out (by decide), qz_un (by decide)]; exact zt_0) rfl ⟨rfl, rfl⟩ ?_
  refine zt_one (fs' := [.ref q1, .ref q4, .ref q6, .ref q13, .ref q45, .int 0, .ref q52, .null, .null, .int 0, .int 0]) (by decide) (by decide +kernel) had7 ?_
  have k0' : ad7 0 = q := by rw [had7 0 (by decide), qz_un (by decide)]; exact k0
  have k1' : ad7 1 = q1 := by rw [had7 1 (by decide), qz_un (by decide)]; exact k1
  have k4' : ad7 4 = q4 := by rw [had7 4 (by decide), qz_un (by decide)]; exact k4
  have k6' : ad7 6 = q6 := by rw [had7 6 (by decide), qz_un (by decide)]; exact k6
  have k13' : ad7 13 = q13 := by rw [had7 13 (by decide), qz_un (by decide)]; exact k13
  have k45' : ad7 45 = q45 := by rw [had7 45 (by decide), qz_un (by decide)]; exact k45
  have kn' : ad7 52 = q52 := by rw [had7 52 (by decide), qz_us]
  have k0 := k0'
  clear k0'
  have k1 := k1'
  clear k1'
  have k4 := k4'
  clear k4'
  have k6 := k6'
  clear k6'
  have k13 := k13'
  clear k13'
  have k45 := k45'
  clear k45'
  have k52 := kn'
  clear kn'
  refine qz_aload_n hX 50 rfl rfl ?_
  refine qz_new hX 51 rfl zn_Top_43 ⟨Nat.le_of_ble_eq_true rfl, Nat.le_of_ble_eq_true rfl⟩ (fun q322 => ?_)
  refine qz_dup hX 52 rfl ?_
  refine qz_new hX 53 rfl zn_Top_9 ⟨Nat.le_of_ble_eq_true rfl, Nat.le_of_ble_eq_true rfl⟩ (fun q323 => ?_)
  refine qz_dup hX 54 rfl ?_
  refine qz_callI hX 55 rfl zi_Top_11 (zc_Run _ _ 323 q323 (by decide +kernel) qz_us qz_us) ⟨rfl, by decide, by decide⟩ ⟨Nat.le_of_ble_eq_true rfl, Nat.le_of_ble_eq_true rfl⟩ rfl (by exact Nat.le_of_ble_eq_true rfl) (fun T8 hT8 => ?_)
  obtain ⟨ad8, had8, rfl⟩ := hT8
  have p2 := zpic_Run (G := qx_G X) (ad := ad8) (a := 323) (by decide +kernel)
  refine qz_iconst hX 56 5 rfl (by decide) ?_
  refine qz_callI hX 57 rfl zi_Top_45 (zc_Press_322 _ _ q322 q323 (ad8 324) (.ref (ad8 325)) (by rw [had8 322 (by decide), qz_un (by decide), qz_us]) (by rw [had8 323 (by decide), qz_us]) rfl (by rw [zf_in (by decide)]; exact p2.1) (by rw [zf_in (by decide)]; exact p2.2.1) (by rw [zf_out (by decide), qz_un (by decide), qz_us])) ⟨rfl, by decide, by decide⟩ ⟨Nat.le_of_ble_eq_true rfl, Nat.le_of_ble_eq_true rfl⟩ rfl (by exact Nat.le_of_ble_eq_true rfl) (fun T9 hT9 => ?_)
  obtain ⟨ad9, had9, rfl⟩ := hT9
  refine qz_put (fs := [.ref q1, .ref q4, .ref q6, .ref q13, .ref q45, .int 0, .ref q52, .null, .null, .int 0, .int 0]) hX 58 0 rfl zp_Top_52 (fun _ => hm) (Nat.le_of_ble_eq_true rfl) (by rw [had9 0 (by decide), had8 0 (by decide), qz_un (by decide), qz_un (by decide)]; exact k0) (by rw [zf_out (by decide), zf_out (by decide), qz_un (by decide), qz_un (by decide)]; exact zt_0) rfl ⟨rfl, rfl⟩ ?_
  have low8 : ∀ i, i < 322 → ad9 i = ad7 i := fun i hi => by rw [had9 i (by omega), had8 i (by omega), qz_un (by omega), qz_un (by omega)]
  refine qz_cv (E' := zt (qx_G X) ad9 [.ref q1, .ref q4, .ref q6, .ref q13, .ref q45, .int 0, .ref q52, .ref q322, .null, .int 0, .int 0]) (fun i hi H hv => ?_) ?_
  · have hs : i = 0 ∨ (1 ≤ i ∧ i < 322) ∨ i = 322 ∨ (323 ≤ i ∧ i < 326) ∨ (326 ≤ i ∧ i < 360) := by omega
    rcases hs with rfl | hs | rfl | hs | hs
    · rw [zt_0]; rw [qz_us] at hv; exact hv
    · rw [zt_p (by omega)]
      rw [qz_un (by omega), zf_out (by omega), zf_out (by omega), qz_un (by omega), qz_un (by omega), zt_p (by omega)] at hv
      have hr := (by decide +kernel : ∀ i, i < 322 → 1 ≤ i → ∀ j, j < qz_rl i → qm_rf i j < 322) i hs.2 hs.1
      exact zpic_mono (fun j hj => (low8 _ (hr j hj)).symm) hv
    · rw [zt_p (by omega)]
      rw [qz_un (by omega), zf_in (by omega)] at hv
      exact hv
    · rw [zt_p (by omega)]
      rw [qz_un (by omega), zf_out (by omega), zf_in (by omega)] at hv
      have hr := (by decide +kernel : ∀ i, i < 326 → 323 ≤ i → ∀ j, j < qz_rl i → qm_rf i j < 326) i hs.2 hs.1
      exact zpic_mono (fun j hj => (had9 _ (hr j hj)).symm) hv
    · rw [zt_p (by omega)]
      rw [qz_un (by omega), zf_in (by omega)] at hv
      exact hv
  have k1' : ad9 1 = q1 := (low8 1 (by decide)).trans k1
  have k4' : ad9 4 = q4 := (low8 4 (by decide)).trans k4
  have k6' : ad9 6 = q6 := (low8 6 (by decide)).trans k6
  have k13' : ad9 13 = q13 := (low8 13 (by decide)).trans k13
  have k45' : ad9 45 = q45 := (low8 45 (by decide)).trans k45
  have k52' : ad9 52 = q52 := (low8 52 (by decide)).trans k52
  have k0' : ad9 0 = q := (low8 0 (by decide)).trans k0
  have k322 : ad9 322 = q322 := by rw [had9 322 (by decide), had8 322 (by decide), qz_un (by decide), qz_us]
  have k1 := k1'
  clear k1'
  have k4 := k4'
  clear k4'
  have k6 := k6'
  clear k6'
  have k13 := k13'
  clear k13'
  have k45 := k45'
  clear k45'
  have k52 := k52'
  clear k52'
  have k0 := k0'
  clear k0'
  refine qz_aload_n hX 59 rfl rfl ?_
  refine qz_new hX 60 rfl zn_Top_55 ⟨Nat.le_of_ble_eq_true rfl, Nat.le_of_ble_eq_true rfl⟩ (fun q360 => ?_)
  refine qz_dup hX 61 rfl ?_
  refine qz_aload_n hX 62 rfl rfl ?_
  refine qz_get (fs := [.ref q1, .ref q4, .ref q6, .ref q13, .ref q45, .int 0, .ref q52, .ref q322, .null, .int 0, .int 0]) hX 63 0 rfl zg_Top_48 (Nat.le_of_ble_eq_true rfl) (by rw [qz_un (by decide)]; exact k0) (by rw [qz_un (by decide)]; exact zt_0) rfl ?_
  refine qz_callI hX 64 rfl zi_Top_57 (zc_Walker_360 _ _ q360 q52 (ad9 53) (ad9 70) _ _ _ _ _ _ _ _ _ _ _ qz_us (by rw [qz_un (by decide)]; exact k52) (by rw [qz_un (by decide)]) (by rw [qz_un (by decide)]) (by rw [qz_un (by decide), zt_p (by decide)]; exact zpo_52) qz_us) ⟨rfl, by decide, by decide⟩ ⟨Nat.le_of_ble_eq_true rfl, Nat.le_of_ble_eq_true rfl⟩ rfl (by exact Nat.le_of_ble_eq_true rfl) (fun T10 hT10 => ?_)
  obtain ⟨ad10, had10, rfl⟩ := hT10
  refine qz_put (fs := [.ref q1, .ref q4, .ref q6, .ref q13, .ref q45, .int 0, .ref q52, .ref q322, .null, .int 0, .int 0]) hX 65 0 rfl zp_Top_60 (fun _ => hm) (Nat.le_of_ble_eq_true rfl) (by rw [had10 0 (by decide), qz_un (by decide)]; exact k0) (by rw [zf_out (by decide), qz_un (by decide)]; exact zt_0) rfl ⟨rfl, rfl⟩ ?_
  refine zt_one (fs' := [.ref q1, .ref q4, .ref q6, .ref q13, .ref q45, .int 0, .ref q52, .ref q322, .ref q360, .int 0, .int 0]) (by decide) (by decide +kernel) had10 ?_
  have k0' : ad10 0 = q := by rw [had10 0 (by decide), qz_un (by decide)]; exact k0
  have k1' : ad10 1 = q1 := by rw [had10 1 (by decide), qz_un (by decide)]; exact k1
  have k4' : ad10 4 = q4 := by rw [had10 4 (by decide), qz_un (by decide)]; exact k4
  have k6' : ad10 6 = q6 := by rw [had10 6 (by decide), qz_un (by decide)]; exact k6
  have k13' : ad10 13 = q13 := by rw [had10 13 (by decide), qz_un (by decide)]; exact k13
  have k45' : ad10 45 = q45 := by rw [had10 45 (by decide), qz_un (by decide)]; exact k45
  have k52' : ad10 52 = q52 := by rw [had10 52 (by decide), qz_un (by decide)]; exact k52
  have k322' : ad10 322 = q322 := by rw [had10 322 (by decide), qz_un (by decide)]; exact k322
  have kn' : ad10 360 = q360 := by rw [had10 360 (by decide), qz_us]
  have k0 := k0'
  clear k0'
  have k1 := k1'
  clear k1'
  have k4 := k4'
  clear k4'
  have k6 := k6'
  clear k6'
  have k13 := k13'
  clear k13'
  have k45 := k45'
  clear k45'
  have k52 := k52'
  clear k52'
  have k322 := k322'
  clear k322'
  have k360 := kn'
  clear kn'
  refine qz_end 0 1 367 66 hX rfl hR ⟨Nat.le_of_ble_eq_true rfl, Nat.le_of_ble_eq_true rfl⟩ (fun i hi => ?_) (fun i _ h1 h2 => by omega) (fun i h1 h2 => ?_)
  · rw [show i = 0 by omega, k0, hq]
  · refine Or.inl ?_
    by_cases z : i = 0
    · rw [z, zt_0, zpo_0, k1, k4, k6, k13, k45, k52, k322, k360]
    · rw [zt_p z]
