theorem zc_Press_52 {l : Launch} {G : qm_G} (ad : Nat → Nat) (E : Nat → va_E) (q qr qs : Nat) (v2 : Value) (hq : ad 52 = q) (hr : ad 1 = qr) (hs : ad 2 = qs) (hR0 : E 1 = .inr (4, [.int 0, .ref qs, v2])) (hS : E 2 = .inl (G.2.2 1, 8, .inl (qm_sv 405))) (hE : E 52 = .inr (3, [.null, .null, .null, .null, .int 0, .int 0, .int 0, .int 0, .int 0, .int 0, .int 0, .null, .null])) : qz_MV l G jy_Press_init prog_5_method_1_code 3 3 64 269 6686 (ad, E, 53) [.ref q, .ref qr, .int 240] (zpost G ad E 52 53 322) := by
  refine qz_met (by decide +kernel) jd_Press_init (fun v hv => by simp only [List.mem_cons, List.not_mem_nil, or_false] at hv; rcases hv with rfl | rfl | rfl <;> rfl) (by exact Nat.le_of_ble_eq_true rfl) (fun X hl hg hm hX hR => ?_)
  subst hl
  subst hg
  refine qz_aload_n hX 0 rfl rfl ?_
  refine qz_obj hX 1 rfl zo_Press zo_1 zo_2 ⟨by decide, by decide⟩ ?_
  refine qz_aload_n hX 2 rfl rfl ?_
  refine qz_aload_n hX 3 rfl rfl ?_
  refine qz_put (fs := [.null, .null, .null, .null, .int 0, .int 0, .int 0, .int 0, .int 0, .int 0, .int 0, .null, .null]) hX 4 52 rfl zp_Press_9 (fun _ => hm) (Nat.le_of_ble_eq_true rfl) (by simp [qz_u, zf, hq, hr, hs]) (by simp [qz_u, zf, hE, hq, hr, hs]) rfl ⟨rfl, rfl⟩ ?_
  refine qz_aload_n hX 5 rfl rfl ?_
  refine qz_new hX 6 rfl zn_Press_15 ⟨Nat.le_of_ble_eq_true rfl, Nat.le_of_ble_eq_true rfl⟩ (fun q1 => ?_)
  refine qz_dup hX 7 rfl ?_
  refine qz_aload_n hX 8 rfl rfl ?_
  refine qz_callI hX 9 rfl zi_Press_17 (zc_Flow_53 _ _ q1 qr (by simp [qz_u, zf, hq, hr, hs]) (by simp [qz_u, zf, hq, hr, hs]) (by simp [qz_u, zf])) ⟨rfl, by decide, by decide⟩ ⟨Nat.le_of_ble_eq_true rfl, Nat.le_of_ble_eq_true rfl⟩ rfl (by exact Nat.le_of_ble_eq_true rfl) (fun T2 hT2 => ?_)
  obtain ⟨ad3, had3, rfl⟩ := hT2
  refine qz_put (fs := [.ref qr, .null, .null, .null, .int 0, .int 0, .int 0, .int 0, .int 0, .int 0, .int 0, .null, .null]) hX 10 52 rfl zp_Press_20 (fun _ => hm) (Nat.le_of_ble_eq_true rfl) (by simp [qz_u, zf, hq, hr, hs, had3 1 (by decide), had3 2 (by decide), had3 52 (by decide), had3 53 (by decide)]) rfl rfl ⟨rfl, rfl⟩ ?_
  refine qz_aload_n hX 11 rfl rfl ?_
  refine qz_new hX 12 rfl zn_Press_24 ⟨Nat.le_of_ble_eq_true rfl, Nat.le_of_ble_eq_true rfl⟩ (fun q4 => ?_)
  refine qz_dup hX 13 rfl ?_
  refine qz_aload_n hX 14 rfl rfl ?_
  refine qz_aload_n hX 15 rfl rfl ?_
  refine qz_get (fs := [.ref qr, .ref q1, .null, .null, .int 0, .int 0, .int 0, .int 0, .int 0, .int 0, .int 0, .null, .null]) hX 16 52 rfl zg_Press_20 (Nat.le_of_ble_eq_true rfl) (by simp [qz_u, zf, hq, hr, hs, had3 1 (by decide), had3 2 (by decide), had3 52 (by decide), had3 53 (by decide)]) rfl rfl ?_
  refine qz_callI hX 17 rfl zi_Press_26 (zc_Fitter_70 _ _ q4 qr q1 qs v2 (by simp [qz_u, zf, hq, hr, hs, had3 1 (by decide), had3 2 (by decide), had3 52 (by decide), had3 53 (by decide)]) (by simp [qz_u, zf, hq, hr, hs, had3 1 (by decide), had3 2 (by decide), had3 52 (by decide), had3 53 (by decide)]) (by simp [qz_u, zf, hq, hr, hs, had3 1 (by decide), had3 2 (by decide), had3 52 (by decide), had3 53 (by decide)]) (by simp [qz_u, zf, hq, hr, hs, had3 1 (by decide), had3 2 (by decide), had3 52 (by decide), had3 53 (by decide)]) (by simp [qz_u, zf, hR0]) (by simp [qz_u, zf, hS]) (by simp [qz_u, zf])) ⟨rfl, by decide, by decide⟩ ⟨Nat.le_of_ble_eq_true rfl, Nat.le_of_ble_eq_true rfl⟩ rfl (by exact Nat.le_of_ble_eq_true rfl) (fun T5 hT5 => ?_)
  obtain ⟨ad6, had6, rfl⟩ := hT5
  refine qz_put (fs := [.ref qr, .ref q1, .null, .null, .int 0, .int 0, .int 0, .int 0, .int 0, .int 0, .int 0, .null, .null]) hX 18 52 rfl zp_Press_29 (fun _ => hm) (Nat.le_of_ble_eq_true rfl) (by simp [qz_u, zf, hq, hr, hs, had3 1 (by decide), had3 2 (by decide), had3 52 (by decide), had3 53 (by decide), had6 1 (by decide), had6 2 (by decide), had6 52 (by decide), had6 53 (by decide), had6 70 (by decide)]) rfl rfl ⟨rfl, rfl⟩ ?_
  refine qz_aload_n hX 19 rfl rfl ?_
  refine qz_iconst hX 20 0 rfl (by decide) ?_
  refine qz_iload_n hX 21 rfl rfl ?_
  refine qz_mmax hX 22 240 rfl zv_Press_33 (by decide) ⟨Nat.le_of_ble_eq_true rfl, Nat.le_of_ble_eq_true rfl⟩ (by exact Nat.le_of_ble_eq_true rfl) (by decide) ?_
  refine qz_bipush hX 23 12 rfl (by decide) ?_
  refine qz_mnew hX 24 240 12 rfl za_Press_39 zw_int rfl rfl (by decide) ⟨Nat.le_of_ble_eq_true rfl, Nat.le_of_ble_eq_true rfl⟩ (fun q7 r8 => ?_)
  refine qz_put (fs := [.ref qr, .ref q1, .ref q4, .null, .int 0, .int 0, .int 0, .int 0, .int 0, .int 0, .int 0, .null, .null]) hX 25 52 rfl zp_Press_41 (fun _ => hm) (Nat.le_of_ble_eq_true rfl) (by simp [qz_u, zf, hq, hr, hs, had3 1 (by decide), had3 2 (by decide), had3 52 (by decide), had3 53 (by decide), had6 1 (by decide), had6 2 (by decide), had6 52 (by decide), had6 53 (by decide), had6 70 (by decide)]) rfl rfl ⟨rfl, rfl⟩ ?_
  refine qz_aload_n hX 26 rfl rfl ?_
  refine qz_bipush hX 27 16 rfl (by decide) ?_
  refine qz_newa (ty := .int) hX 28 0 16 rfl zw_int rfl rfl rfl (by decide) (by decide) rfl ⟨Nat.le_of_ble_eq_true rfl, Nat.le_of_ble_eq_true rfl⟩ (fun q9 => ?_)
  refine qz_put (fs := [.ref qr, .ref q1, .ref q4, .ref q7, .int 0, .int 0, .int 0, .int 0, .int 0, .int 0, .int 0, .null, .null]) hX 29 52 rfl zp_Press_44 (fun _ => hm) (Nat.le_of_ble_eq_true rfl) (by simp [qz_u, zf, hq, hr, hs, had3 1 (by decide), had3 2 (by decide), had3 52 (by decide), had3 53 (by decide), had6 1 (by decide), had6 2 (by decide), had6 52 (by decide), had6 53 (by decide), had6 70 (by decide)]) rfl rfl ⟨rfl, rfl⟩ ?_
  refine qz_aload_n hX 30 rfl rfl ?_
  refine qz_bipush hX 31 16 rfl (by decide) ?_
  refine qz_newa (ty := .int) hX 32 0 16 rfl zw_int rfl rfl rfl (by decide) (by decide) rfl ⟨Nat.le_of_ble_eq_true rfl, Nat.le_of_ble_eq_true rfl⟩ (fun q10 => ?_)
  refine qz_put (fs := [.ref qr, .ref q1, .ref q4, .ref q7, .int 0, .int 0, .int 0, .int 0, .int 0, .int 0, .int 0, .ref q9, .null]) hX 33 52 rfl zp_Press_48 (fun _ => hm) (Nat.le_of_ble_eq_true rfl) (by simp [qz_u, zf, hq, hr, hs, had3 1 (by decide), had3 2 (by decide), had3 52 (by decide), had3 53 (by decide), had6 1 (by decide), had6 2 (by decide), had6 52 (by decide), had6 53 (by decide), had6 70 (by decide)]) rfl rfl ⟨rfl, rfl⟩ ?_
  refine qz_aload_n hX 34 rfl rfl ?_
  refine qz_iconst hX 35 (-1) rfl (by decide) ?_
  refine qz_put (fs := [.ref qr, .ref q1, .ref q4, .ref q7, .int 0, .int 0, .int 0, .int 0, .int 0, .int 0, .int 0, .ref q9, .ref q10]) hX 36 52 rfl zp_Press_51 (fun _ => hm) (Nat.le_of_ble_eq_true rfl) (by simp [qz_u, zf, hq, hr, hs, had3 1 (by decide), had3 2 (by decide), had3 52 (by decide), had3 53 (by decide), had6 1 (by decide), had6 2 (by decide), had6 52 (by decide), had6 53 (by decide), had6 70 (by decide)]) rfl rfl ⟨rfl, rfl⟩ ?_
  refine qz_end 52 53 322 37 hX rfl hR ⟨Nat.le_of_ble_eq_true rfl, Nat.le_of_ble_eq_true rfl⟩ (fun i hi => ?_) (fun i _ h1 h2 => ?_) (fun i h1 h2 => ?_)
  · repeat (first | rw [qz_un (by omega)] | rw [if_pos (by omega)] | rw [if_neg (by omega)] | rw [had3 _ (by omega)] | rw [had6 _ (by omega)] | dsimp only)
  · repeat (first | rw [qz_un (by omega)] | rw [zf_out (by omega)] | rw [zf_in (by omega)] | rw [if_pos (by omega)] | rw [if_neg (by omega)] | dsimp only)
  · have hs : i = 52 ∨ (53 ≤ i ∧ i < 70) ∨ (70 ≤ i ∧ i < 79) ∨ i = 79 ∨ (80 ≤ i ∧ i < 320) ∨ i = 320 ∨ i = 321 := by omega
    rcases hs with rfl | hs | hs | rfl | hs | rfl | rfl
    · refine Or.inl ?_
      rw [zpo_52]
      simp [qz_u, zf, hq, hr, hs, had3 1 (by decide), had3 2 (by decide), had3 52 (by decide), had3 53 (by decide), had6 1 (by decide), had6 2 (by decide), had6 52 (by decide), had6 53 (by decide), had6 70 (by decide)]
    · refine Or.inr (fun q9 H hv => zpic_mono (ad := ad3) (fun j hj => ?_) ?_)
      · have hr := (by decide +kernel : ∀ i, i < 70 → (i = 53 ∨ 54 ≤ i) → ∀ j, j < qz_rl i → qm_rf i j < 70) i (by omega) (by omega) j hj
        symm
        repeat (first | rw [qz_un (by omega)] | rw [if_pos (by omega)] | rw [if_neg (by omega)] | rw [had3 _ (by omega)] | rw [had6 _ (by omega)] | dsimp only)
      · revert hv
        repeat (first | rw [qz_un (by omega)] | rw [zf_out (by omega)] | rw [zf_in (by omega)] | rw [if_pos (by omega)] | rw [if_neg (by omega)] | dsimp only)
        exact fun hv => hv
    · refine Or.inr (fun q9 H hv => zpic_mono (ad := ad6) (fun j hj => ?_) ?_)
      · have hr := (by decide +kernel : ∀ i, i < 79 → (i = 70 ∨ 71 ≤ i) → ∀ j, j < qz_rl i → qm_rf i j < 79) i (by omega) (by omega) j hj
        symm
        repeat (first | rw [qz_un (by omega)] | rw [if_pos (by omega)] | rw [if_neg (by omega)] | rw [had3 _ (by omega)] | rw [had6 _ (by omega)] | dsimp only)
      · revert hv
        repeat (first | rw [qz_un (by omega)] | rw [zf_out (by omega)] | rw [zf_in (by omega)] | rw [if_pos (by omega)] | rw [if_neg (by omega)] | dsimp only)
        exact fun hv => hv
    · refine Or.inr (fun q9 H hv => qz_arrR (fun j hj => ?_) hv)
      have hj : j < 240 := hj
      rw [(by decide +kernel : ∀ j, j < 240 → qm_rf 79 j = 80 + j) j hj, if_pos hj]
      refine congrArg some ?_
      symm
      repeat (first | rw [qz_un (by omega)] | rw [if_pos (by omega)] | rw [if_neg (by omega)] | rw [had3 _ (by omega)] | rw [had6 _ (by omega)] | dsimp only)
      exact congrArg r8 (by omega)
    · refine Or.inl ?_
      rw [zpic_i (N := 12) ((by decide +kernel : ∀ i, i < 320 → 80 ≤ i → qm_kd i = (1, 12)) i hs.2 hs.1) (by omega) (qz_s00 (by omega) (by rw [(by decide +kernel : ∀ i, i < 320 → 80 ≤ i → qm_kd i = (1, 12)) i hs.2 hs.1]; decide) (by omega))]
      repeat (first | rw [qz_un (by omega)] | rw [zf_out (by omega)] | rw [zf_in (by omega)] | rw [if_pos (by omega)] | rw [if_neg (by omega)] | dsimp only)
    · exact Or.inl rfl
    · exact Or.inl rfl
theorem zc_Press_322 {l : Launch} {G : qm_G} (ad : Nat → Nat) (E : Nat → va_E) (q qr qs : Nat) (v2 : Value) (hq : ad 322 = q) (hr : ad 323 = qr) (hs : ad 324 = qs) (hR0 : E 323 = .inr (4, [.int 0, .ref qs, v2])) (hS : E 324 = .inl (G.2.2 1, 8, .inl (qm_sv 405))) (hE : E 322 = .inr (3, [.null, .null, .null, .null, .int 0, .int 0, .int 0, .int 0, .int 0, .int 0, .int 0, .null, .null])) : qz_MV l G jy_Press_init prog_5_method_1_code 3 3 64 34 3631 (ad, E, 326) [.ref q, .ref qr, .int 5] (zpost G ad E 322 326 360) := by
  refine qz_met (by decide +kernel) jd_Press_init (fun v hv => by simp only [List.mem_cons, List.not_mem_nil, or_false] at hv; rcases hv with rfl | rfl | rfl <;> rfl) (by exact Nat.le_of_ble_eq_true rfl) (fun X hl hg hm hX hR => ?_)
  subst hl
  subst hg
  refine qz_aload_n hX 0 rfl rfl ?_
  refine qz_obj hX 1 rfl zo_Press zo_1 zo_2 ⟨by decide, by decide⟩ ?_
  refine qz_aload_n hX 2 rfl rfl ?_
  refine qz_aload_n hX 3 rfl rfl ?_
  refine qz_put (fs := [.null, .null, .null, .null, .int 0, .int 0, .int 0, .int 0, .int 0, .int 0, .int 0, .null, .null]) hX 4 322 rfl zp_Press_9 (fun _ => hm) (Nat.le_of_ble_eq_true rfl) (by simp [qz_u, zf, hq, hr, hs]) (by simp [qz_u, zf, hE, hq, hr, hs]) rfl ⟨rfl, rfl⟩ ?_
  refine qz_aload_n hX 5 rfl rfl ?_
  refine qz_new hX 6 rfl zn_Press_15 ⟨Nat.le_of_ble_eq_true rfl, Nat.le_of_ble_eq_true rfl⟩ (fun q1 => ?_)
  refine qz_dup hX 7 rfl ?_
  refine qz_aload_n hX 8 rfl rfl ?_
  refine qz_callI hX 9 rfl zi_Press_17 (zc_Flow_326 _ _ q1 qr (by simp [qz_u, zf, hq, hr, hs]) (by simp [qz_u, zf, hq, hr, hs]) (by simp [qz_u, zf])) ⟨rfl, by decide, by decide⟩ ⟨Nat.le_of_ble_eq_true rfl, Nat.le_of_ble_eq_true rfl⟩ rfl (by exact Nat.le_of_ble_eq_true rfl) (fun T2 hT2 => ?_)
  obtain ⟨ad3, had3, rfl⟩ := hT2
  refine qz_put (fs := [.ref qr, .null, .null, .null, .int 0, .int 0, .int 0, .int 0, .int 0, .int 0, .int 0, .null, .null]) hX 10 322 rfl zp_Press_20 (fun _ => hm) (Nat.le_of_ble_eq_true rfl) (by simp [qz_u, zf, hq, hr, hs, had3 322 (by decide), had3 323 (by decide), had3 324 (by decide), had3 326 (by decide)]) rfl rfl ⟨rfl, rfl⟩ ?_
  refine qz_aload_n hX 11 rfl rfl ?_
  refine qz_new hX 12 rfl zn_Press_24 ⟨Nat.le_of_ble_eq_true rfl, Nat.le_of_ble_eq_true rfl⟩ (fun q4 => ?_)
  refine qz_dup hX 13 rfl ?_
  refine qz_aload_n hX 14 rfl rfl ?_
  refine qz_aload_n hX 15 rfl rfl ?_
  refine qz_get (fs := [.ref qr, .ref q1, .null, .null, .int 0, .int 0, .int 0, .int 0, .int 0, .int 0, .int 0, .null, .null]) hX 16 322 rfl zg_Press_20 (Nat.le_of_ble_eq_true rfl) (by simp [qz_u, zf, hq, hr, hs, had3 322 (by decide), had3 323 (by decide), had3 324 (by decide), had3 326 (by decide)]) rfl rfl ?_
  refine qz_callI hX 17 rfl zi_Press_26 (zc_Fitter_343 _ _ q4 qr q1 qs v2 (by simp [qz_u, zf, hq, hr, hs, had3 322 (by decide), had3 323 (by decide), had3 324 (by decide), had3 326 (by decide)]) (by simp [qz_u, zf, hq, hr, hs, had3 322 (by decide), had3 323 (by decide), had3 324 (by decide), had3 326 (by decide)]) (by simp [qz_u, zf, hq, hr, hs, had3 322 (by decide), had3 323 (by decide), had3 324 (by decide), had3 326 (by decide)]) (by simp [qz_u, zf, hq, hr, hs, had3 322 (by decide), had3 323 (by decide), had3 324 (by decide), had3 326 (by decide)]) (by simp [qz_u, zf, hR0]) (by simp [qz_u, zf, hS]) (by simp [qz_u, zf])) ⟨rfl, by decide, by decide⟩ ⟨Nat.le_of_ble_eq_true rfl, Nat.le_of_ble_eq_true rfl⟩ rfl (by exact Nat.le_of_ble_eq_true rfl) (fun T5 hT5 => ?_)
  obtain ⟨ad6, had6, rfl⟩ := hT5
  refine qz_put (fs := [.ref qr, .ref q1, .null, .null, .int 0, .int 0, .int 0, .int 0, .int 0, .int 0, .int 0, .null, .null]) hX 18 322 rfl zp_Press_29 (fun _ => hm) (Nat.le_of_ble_eq_true rfl) (by simp [qz_u, zf, hq, hr, hs, had3 322 (by decide), had3 323 (by decide), had3 324 (by decide), had3 326 (by decide), had6 322 (by decide), had6 323 (by decide), had6 324 (by decide), had6 326 (by decide), had6 343 (by decide)]) rfl rfl ⟨rfl, rfl⟩ ?_
  refine qz_aload_n hX 19 rfl rfl ?_
  refine qz_iconst hX 20 0 rfl (by decide) ?_
  refine qz_iload_n hX 21 rfl rfl ?_
  refine qz_mmax hX 22 5 rfl zv_Press_33 (by decide) ⟨Nat.le_of_ble_eq_true rfl, Nat.le_of_ble_eq_true rfl⟩ (by exact Nat.le_of_ble_eq_true rfl) (by decide) ?_
  refine qz_bipush hX 23 12 rfl (by decide) ?_
  refine qz_mnew hX 24 5 12 rfl za_Press_39 zw_int rfl rfl (by decide) ⟨Nat.le_of_ble_eq_true rfl, Nat.le_of_ble_eq_true rfl⟩ (fun q7 r8 => ?_)
  refine qz_put (fs := [.ref qr, .ref q1, .ref q4, .null, .int 0, .int 0, .int 0, .int 0, .int 0, .int 0, .int 0, .null, .null]) hX 25 322 rfl zp_Press_41 (fun _ => hm) (Nat.le_of_ble_eq_true rfl) (by simp [qz_u, zf, hq, hr, hs, had3 322 (by decide), had3 323 (by decide), had3 324 (by decide), had3 326 (by decide), had6 322 (by decide), had6 323 (by decide), had6 324 (by decide), had6 326 (by decide), had6 343 (by decide)]) rfl rfl ⟨rfl, rfl⟩ ?_
  refine qz_aload_n hX 26 rfl rfl ?_
  refine qz_bipush hX 27 16 rfl (by decide) ?_
  refine qz_newa (ty := .int) hX 28 0 16 rfl zw_int rfl rfl rfl (by decide) (by decide) rfl ⟨Nat.le_of_ble_eq_true rfl, Nat.le_of_ble_eq_true rfl⟩ (fun q9 => ?_)
  refine qz_put (fs := [.ref qr, .ref q1, .ref q4, .ref q7, .int 0, .int 0, .int 0, .int 0, .int 0, .int 0, .int 0, .null, .null]) hX 29 322 rfl zp_Press_44 (fun _ => hm) (Nat.le_of_ble_eq_true rfl) (by simp [qz_u, zf, hq, hr, hs, had3 322 (by decide), had3 323 (by decide), had3 324 (by decide), had3 326 (by decide), had6 322 (by decide), had6 323 (by decide), had6 324 (by decide), had6 326 (by decide), had6 343 (by decide)]) rfl rfl ⟨rfl, rfl⟩ ?_
  refine qz_aload_n hX 30 rfl rfl ?_
  refine qz_bipush hX 31 16 rfl (by decide) ?_
  refine qz_newa (ty := .int) hX 32 0 16 rfl zw_int rfl rfl rfl (by decide) (by decide) rfl ⟨Nat.le_of_ble_eq_true rfl, Nat.le_of_ble_eq_true rfl⟩ (fun q10 => ?_)
  refine qz_put (fs := [.ref qr, .ref q1, .ref q4, .ref q7, .int 0, .int 0, .int 0, .int 0, .int 0, .int 0, .int 0, .ref q9, .null]) hX 33 322 rfl zp_Press_48 (fun _ => hm) (Nat.le_of_ble_eq_true rfl) (by simp [qz_u, zf, hq, hr, hs, had3 322 (by decide), had3 323 (by decide), had3 324 (by decide), had3 326 (by decide), had6 322 (by decide), had6 323 (by decide), had6 324 (by decide), had6 326 (by decide), had6 343 (by decide)]) rfl rfl ⟨rfl, rfl⟩ ?_
  refine qz_aload_n hX 34 rfl rfl ?_
  refine qz_iconst hX 35 (-1) rfl (by decide) ?_
  refine qz_put (fs := [.ref qr, .ref q1, .ref q4, .ref q7, .int 0, .int 0, .int 0, .int 0, .int 0, .int 0, .int 0, .ref q9, .ref q10]) hX 36 322 rfl zp_Press_51 (fun _ => hm) (Nat.le_of_ble_eq_true rfl) (by simp [qz_u, zf, hq, hr, hs, had3 322 (by decide), had3 323 (by decide), had3 324 (by decide), had3 326 (by decide), had6 322 (by decide), had6 323 (by decide), had6 324 (by decide), had6 326 (by decide), had6 343 (by decide)]) rfl rfl ⟨rfl, rfl⟩ ?_
  refine qz_end 322 326 360 37 hX rfl hR ⟨Nat.le_of_ble_eq_true rfl, Nat.le_of_ble_eq_true rfl⟩ (fun i hi => ?_) (fun i _ h1 h2 => ?_) (fun i h1 h2 => ?_)
  · repeat (first | rw [qz_un (by omega)] | rw [if_pos (by omega)] | rw [if_neg (by omega)] | rw [had3 _ (by omega)] | rw [had6 _ (by omega)] | dsimp only)
  · repeat (first | rw [qz_un (by omega)] | rw [zf_out (by omega)] | rw [zf_in (by omega)] | rw [if_pos (by omega)] | rw [if_neg (by omega)] | dsimp only)
  · have hs : i = 322 ∨ (326 ≤ i ∧ i < 343) ∨ (343 ≤ i ∧ i < 352) ∨ i = 352 ∨ (353 ≤ i ∧ i < 358) ∨ i = 358 ∨ i = 359 := by omega
    rcases hs with rfl | hs | hs | rfl | hs | rfl | rfl
    · refine Or.inl ?_
      rw [zpo_322]
      simp [qz_u, zf, hq, hr, hs, had3 322 (by decide), had3 323 (by decide), had3 324 (by decide), had3 326 (by decide), had6 322 (by decide), had6 323 (by decide), had6 324 (by decide), had6 326 (by decide), had6 343 (by decide)]
    · refine Or.inr (fun q9 H hv => zpic_mono (ad := ad3) (fun j hj => ?_) ?_)
      · have hr := (by decide +kernel : ∀ i, i < 343 → (i = 326 ∨ 327 ≤ i) → ∀ j, j < qz_rl i → qm_rf i j < 343) i (by omega) (by omega) j hj
        symm
        repeat (first | rw [qz_un (by omega)] | rw [if_pos (by omega)] | rw [if_neg (by omega)] | rw [had3 _ (by omega)] | rw [had6 _ (by omega)] | dsimp only)
      · revert hv
        repeat (first | rw [qz_un (by omega)] | rw [zf_out (by omega)] | rw [zf_in (by omega)] | rw [if_pos (by omega)] | rw [if_neg (by omega)] | dsimp only)
        exact fun hv => hv
    · refine Or.inr (fun q9 H hv => zpic_mono (ad := ad6) (fun j hj => ?_) ?_)
      · have hr := (by decide +kernel : ∀ i, i < 352 → (i = 343 ∨ 344 ≤ i) → ∀ j, j < qz_rl i → qm_rf i j < 352) i (by omega) (by omega) j hj
        symm
        repeat (first | rw [qz_un (by omega)] | rw [if_pos (by omega)] | rw [if_neg (by omega)] | rw [had3 _ (by omega)] | rw [had6 _ (by omega)] | dsimp only)
      · revert hv
        repeat (first | rw [qz_un (by omega)] | rw [zf_out (by omega)] | rw [zf_in (by omega)] | rw [if_pos (by omega)] | rw [if_neg (by omega)] | dsimp only)
        exact fun hv => hv
    · refine Or.inr (fun q9 H hv => qz_arrR (fun j hj => ?_) hv)
      have hj : j < 5 := hj
      rw [(by decide +kernel : ∀ j, j < 5 → qm_rf 352 j = 353 + j) j hj, if_pos hj]
      refine congrArg some ?_
      symm
      repeat (first | rw [qz_un (by omega)] | rw [if_pos (by omega)] | rw [if_neg (by omega)] | rw [had3 _ (by omega)] | rw [had6 _ (by omega)] | dsimp only)
      exact congrArg r8 (by omega)
    · refine Or.inl ?_
      rw [zpic_i (N := 12) ((by decide +kernel : ∀ i, i < 358 → 353 ≤ i → qm_kd i = (1, 12)) i hs.2 hs.1) (by omega) (qz_s00 (by omega) (by rw [(by decide +kernel : ∀ i, i < 358 → 353 ≤ i → qm_kd i = (1, 12)) i hs.2 hs.1]; decide) (by omega))]
      repeat (first | rw [qz_un (by omega)] | rw [zf_out (by omega)] | rw [zf_in (by omega)] | rw [if_pos (by omega)] | rw [if_neg (by omega)] | dsimp only)
    · exact Or.inl rfl
    · exact Or.inl rfl
