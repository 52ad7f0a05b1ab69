theorem zc_forgetQ {l : Launch} {G : qm_G} (ad : Nat → Nat) (E : Nat → va_E) (n a kn r s q qr qs qk : Nat) (hqa : ad a = q) (hqr : ad r = qr) (hqs : ad s = qs) (hqk : ad kn = qk) (ha : a < n) (hk : kn < n) (hr : r < n) (hs : s < n) (h1 : a ≠ kn) (h2 : a ≠ r) (h3 : a ≠ s) (h4 : kn ≠ r) (h5 : kn ≠ s) {b x2 x3 x5 x6 x7 : Int32} {v2 f1 f4 : Value} {g gs : Nat → Int32} (hE : E a = .inr (0, [.ref qr, f1, .int x2, .int x3, f4, .int x5, .int x6, .int x7, .ref qk, .int 1])) (hK : E kn = .inl (G.2.2 1, 1820, .inl g)) (hR0 : E r = .inr (4, [.int b, .ref qs, v2])) (hS : E s = .inl (G.2.2 1, 8, .inl gs)) : qz_MV l G jy_Fitter_forget prog_2_method_2_code 2 1 21 0 0 (ad, E, n) [.ref q] (fun T' => T' = (ad, qz_u (qz_u E kn (.inl (G.2.2 1, 1820, .inl (fun j => if j < 1820 then -1 else g j)))) a (.inr (0, [.ref qr, f1, .int (gs 6), .int (gs 5), f4, .int (-1), .int x6, .int x7, .ref qk, .int 0])), n)) := by
  subst hqa
  subst hqr
  subst hqs
  subst hqk
  exact zc_forget ad E n a kn r s ha hk hr hs h1 h2 h3 h4 h5 hE hK hR0 hS
theorem zpo_0 {G : qm_G} {ad : Nat → Nat} : zpic G ad 0 = .inr (8, [.ref (ad 1), .ref (ad 4), .ref (ad 6), .ref (ad 13), .ref (ad 45), .int 0, .ref (ad 52), .ref (ad 322), .ref (ad 360), .int 0, .int 0]) := rfl
theorem zpo_4 {G : qm_G} {ad : Nat → Nat} : zpic G ad 4 = .inr (5, [.ref (ad 5), .int 0]) := rfl
theorem zpo_6 {G : qm_G} {ad : Nat → Nat} : zpic G ad 6 = .inr (6, [.ref (ad 4), .ref (ad 7), .ref (ad 10), .ref (ad 11), .ref (ad 12), .int 0, .int 0, .int 0]) := rfl
theorem zpo_13 {G : qm_G} {ad : Nat → Nat} : zpic G ad 13 = .inr (2, [.ref (ad 14), .int 0, .int 0]) := rfl
theorem zpo_52 {G : qm_G} {ad : Nat → Nat} : zpic G ad 52 = .inr (3, [.ref (ad 1), .ref (ad 53), .ref (ad 70), .ref (ad 79), .int 0, .int 0, .int 0, .int 0, .int 0, .int (-1), .int 0, .ref (ad 320), .ref (ad 321)]) := rfl
theorem zpo_53 {G : qm_G} {ad : Nat → Nat} : zpic G ad 53 = .inr (1, [.int 0, .int 0, .int 0, .ref (ad 1), .ref (ad 54), .ref (ad 55), .ref (ad 56), .ref (ad 57), .ref (ad 58), .ref (ad 59), .ref (ad 60), .ref (ad 61), .ref (ad 62), .ref (ad 63), .ref (ad 64), .ref (ad 65), .ref (ad 66), .ref (ad 67), .ref (ad 68), .ref (ad 69)]) := rfl
theorem zpo_70 {G : qm_G} {ad : Nat → Nat} : zpic G ad 70 = .inr (0, [.ref (ad 1), .ref (ad 53), .int 1, .int 1, .ref (ad 71), .int (-1), .int 0, .int 0, .ref (ad 78), .int 0]) := rfl
theorem zpo_322 {G : qm_G} {ad : Nat → Nat} : zpic G ad 322 = .inr (3, [.ref (ad 323), .ref (ad 326), .ref (ad 343), .ref (ad 352), .int 0, .int 0, .int 0, .int 0, .int 0, .int (-1), .int 0, .ref (ad 358), .ref (ad 359)]) := rfl
theorem zpo_326 {G : qm_G} {ad : Nat → Nat} : zpic G ad 326 = .inr (1, [.int 0, .int 0, .int 0, .ref (ad 323), .ref (ad 327), .ref (ad 328), .ref (ad 329), .ref (ad 330), .ref (ad 331), .ref (ad 332), .ref (ad 333), .ref (ad 334), .ref (ad 335), .ref (ad 336), .ref (ad 337), .ref (ad 338), .ref (ad 339), .ref (ad 340), .ref (ad 341), .ref (ad 342)]) := rfl
theorem zpo_343 {G : qm_G} {ad : Nat → Nat} : zpic G ad 343 = .inr (0, [.ref (ad 323), .ref (ad 326), .int 1, .int 1, .ref (ad 344), .int (-1), .int 0, .int 0, .ref (ad 351), .int 0]) := rfl
theorem zpo_360 {G : qm_G} {ad : Nat → Nat} : zpic G ad 360 = .inr (7, [.ref (ad 53), .ref (ad 70), .ref (ad 361), .ref (ad 364)]) := rfl
theorem zc_Flow_53 {l : Launch} {G : qm_G} (ad : Nat → Nat) (E : Nat → va_E) (q qr : Nat) (hq : ad 53 = q) (hr : ad 1 = qr) (hE : E 53 = .inr (1, [.int 0, .int 0, .int 0, .null, .null, .null, .null, .null, .null, .null, .null, .null, .null, .null, .null, .null, .null, .null, .null, .null])) : qz_MV l G jy_Flow_init prog_3_method_1_code 2 1 20 16 1132 (ad, E, 54) [.ref q, .ref qr] (zpost G ad E 53 54 70) := by
  refine qz_met (by decide +kernel) jd_Flow_init (fun v hv => by simp only [List.mem_cons, List.not_mem_nil, or_false] at hv; rcases hv with rfl | rfl <;> rfl) (by exact Nat.le_of_ble_eq_true rfl) (fun X hl hg hm hX hR => ?_)
  subst hl
  subst hg
  refine qz_aload_n hX 0 rfl rfl ?_
  refine qz_obj hX 1 rfl zo_Flow zo_1 zo_2 ⟨by decide, by decide⟩ ?_
  refine qz_aload_n hX 2 rfl rfl ?_
  refine qz_aload_n hX 3 rfl rfl ?_
  refine qz_put (fs := [.int 0, .int 0, .int 0, .null, .null, .null, .null, .null, .null, .null, .null, .null, .null, .null, .null, .null, .null, .null, .null, .null]) hX 4 53 rfl zp_Flow_9 (fun _ => hm) (Nat.le_of_ble_eq_true rfl) (by simp [qz_u, zf, hq, hr]) (by simp [qz_u, zf, hE, hq, hr]) rfl ⟨rfl, rfl⟩ ?_
  refine qz_aload_n hX 5 rfl rfl ?_
  refine qz_bipush hX 6 16 rfl (by decide) ?_
  refine qz_newa (ty := .int) hX 7 0 16 rfl zw_int rfl rfl rfl (by decide) (by decide) rfl ⟨Nat.le_of_ble_eq_true rfl, Nat.le_of_ble_eq_true rfl⟩ (fun q1 => ?_)
  refine qz_put (fs := [.int 0, .int 0, .int 0, .ref qr, .null, .null, .null, .null, .null, .null, .null, .null, .null, .null, .null, .null, .null, .null, .null, .null]) hX 8 53 rfl zp_Flow_15 (fun _ => hm) (Nat.le_of_ble_eq_true rfl) (by simp [qz_u, zf, hq, hr]) rfl rfl ⟨rfl, rfl⟩ ?_
  refine qz_aload_n hX 9 rfl rfl ?_
  refine qz_bipush hX 10 91 rfl (by decide) ?_
  refine qz_newa (ty := .int) hX 11 0 91 rfl zw_int rfl rfl rfl (by decide) (by decide) rfl ⟨Nat.le_of_ble_eq_true rfl, Nat.le_of_ble_eq_true rfl⟩ (fun q2 => ?_)
  refine qz_put (fs := [.int 0, .int 0, .int 0, .ref qr, .ref q1, .null, .null, .null, .null, .null, .null, .null, .null, .null, .null, .null, .null, .null, .null, .null]) hX 12 53 rfl zp_Flow_19 (fun _ => hm) (Nat.le_of_ble_eq_true rfl) (by simp [qz_u, zf, hq, hr]) rfl rfl ⟨rfl, rfl⟩ ?_
  refine qz_aload_n hX 13 rfl rfl ?_
  refine qz_bipush hX 14 91 rfl (by decide) ?_
  refine qz_newa (ty := .int) hX 15 0 91 rfl zw_int rfl rfl rfl (by decide) (by decide) rfl ⟨Nat.le_of_ble_eq_true rfl, Nat.le_of_ble_eq_true rfl⟩ (fun q3 => ?_)
  refine qz_put (fs := [.int 0, .int 0, .int 0, .ref qr, .ref q1, .ref q2, .null, .null, .null, .null, .null, .null, .null, .null, .null, .null, .null, .null, .null, .null]) hX 16 53 rfl zp_Flow_22 (fun _ => hm) (Nat.le_of_ble_eq_true rfl) (by simp [qz_u, zf, hq, hr]) rfl rfl ⟨rfl, rfl⟩ ?_
  refine qz_aload_n hX 17 rfl rfl ?_
  refine qz_bipush hX 18 91 rfl (by decide) ?_
  refine qz_newa (ty := .int) hX 19 0 91 rfl zw_int rfl rfl rfl (by decide) (by decide) rfl ⟨Nat.le_of_ble_eq_true rfl, Nat.le_of_ble_eq_true rfl⟩ (fun q4 => ?_)
  refine qz_put (fs := [.int 0, .int 0, .int 0, .ref qr, .ref q1, .ref q2, .ref q3, .null, .null, .null, .null, .null, .null, .null, .null, .null, .null, .null, .null, .null]) hX 20 53 rfl zp_Flow_25 (fun _ => hm) (Nat.le_of_ble_eq_true rfl) (by simp [qz_u, zf, hq, hr]) rfl rfl ⟨rfl, rfl⟩ ?_
  refine qz_aload_n hX 21 rfl rfl ?_
  refine qz_bipush hX 22 91 rfl (by decide) ?_
  refine qz_newa (ty := .int) hX 23 0 91 rfl zw_int rfl rfl rfl (by decide) (by decide) rfl ⟨Nat.le_of_ble_eq_true rfl, Nat.le_of_ble_eq_true rfl⟩ (fun q5 => ?_)
  refine qz_put (fs := [.int 0, .int 0, .int 0, .ref qr, .ref q1, .ref q2, .ref q3, .ref q4, .null, .null, .null, .null, .null, .null, .null, .null, .null, .null, .null, .null]) hX 24 53 rfl zp_Flow_28 (fun _ => hm) (Nat.le_of_ble_eq_true rfl) (by simp [qz_u, zf, hq, hr]) rfl rfl ⟨rfl, rfl⟩ ?_
  refine qz_aload_n hX 25 rfl rfl ?_
  refine qz_bipush hX 26 91 rfl (by decide) ?_
  refine qz_newa (ty := .int) hX 27 0 91 rfl zw_int rfl rfl rfl (by decide) (by decide) rfl ⟨Nat.le_of_ble_eq_true rfl, Nat.le_of_ble_eq_true rfl⟩ (fun q6 => ?_)
  refine qz_put (fs := [.int 0, .int 0, .int 0, .ref qr, .ref q1, .ref q2, .ref q3, .ref q4, .ref q5, .null, .null, .null, .null, .null, .null, .null, .null, .null, .null, .null]) hX 28 53 rfl zp_Flow_31 (fun _ => hm) (Nat.le_of_ble_eq_true rfl) (by simp [qz_u, zf, hq, hr]) rfl rfl ⟨rfl, rfl⟩ ?_
  refine qz_aload_n hX 29 rfl rfl ?_
  refine qz_bipush hX 30 91 rfl (by decide) ?_
  refine qz_newa (ty := .int) hX 31 0 91 rfl zw_int rfl rfl rfl (by decide) (by decide) rfl ⟨Nat.le_of_ble_eq_true rfl, Nat.le_of_ble_eq_true rfl⟩ (fun q7 => ?_)
  refine qz_put (fs := [.int 0, .int 0, .int 0, .ref qr, .ref q1, .ref q2, .ref q3, .ref q4, .ref q5, .ref q6, .null, .null, .null, .null, .null, .null, .null, .null, .null, .null]) hX 32 53 rfl zp_Flow_34 (fun _ => hm) (Nat.le_of_ble_eq_true rfl) (by simp [qz_u, zf, hq, hr]) rfl rfl ⟨rfl, rfl⟩ ?_
  refine qz_aload_n hX 33 rfl rfl ?_
  refine qz_bipush hX 34 91 rfl (by decide) ?_
  refine qz_newa (ty := .int) hX 35 0 91 rfl zw_int rfl rfl rfl (by decide) (by decide) rfl ⟨Nat.le_of_ble_eq_true rfl, Nat.le_of_ble_eq_true rfl⟩ (fun q8 => ?_)
  refine qz_put (fs := [.int 0, .int 0, .int 0, .ref qr, .ref q1, .ref q2, .ref q3, .ref q4, .ref q5, .ref q6, .ref q7, .null, .null, .null, .null, .null, .null, .null, .null, .null]) hX 36 53 rfl zp_Flow_37 (fun _ => hm) (Nat.le_of_ble_eq_true rfl) (by simp [qz_u, zf, hq, hr]) rfl rfl ⟨rfl, rfl⟩ ?_
  refine qz_aload_n hX 37 rfl rfl ?_
  refine qz_bipush hX 38 91 rfl (by decide) ?_
  refine qz_newa (ty := .int) hX 39 0 91 rfl zw_int rfl rfl rfl (by decide) (by decide) rfl ⟨Nat.le_of_ble_eq_true rfl, Nat.le_of_ble_eq_true rfl⟩ (fun q9 => ?_)
  refine qz_put (fs := [.int 0, .int 0, .int 0, .ref qr, .ref q1, .ref q2, .ref q3, .ref q4, .ref q5, .ref q6, .ref q7, .ref q8, .null, .null, .null, .null, .null, .null, .null, .null]) hX 40 53 rfl zp_Flow_40 (fun _ => hm) (Nat.le_of_ble_eq_true rfl) (by simp [qz_u, zf, hq, hr]) rfl rfl ⟨rfl, rfl⟩ ?_
  refine qz_aload_n hX 41 rfl rfl ?_
  refine qz_bipush hX 42 91 rfl (by decide) ?_
  refine qz_newa (ty := .int) hX 43 0 91 rfl zw_int rfl rfl rfl (by decide) (by decide) rfl ⟨Nat.le_of_ble_eq_true rfl, Nat.le_of_ble_eq_true rfl⟩ (fun q10 => ?_)
  refine qz_put (fs := [.int 0, .int 0, .int 0, .ref qr, .ref q1, .ref q2, .ref q3, .ref q4, .ref q5, .ref q6, .ref q7, .ref q8, .ref q9, .null, .null, .null, .null, .null, .null, .null]) hX 44 53 rfl zp_Flow_43 (fun _ => hm) (Nat.le_of_ble_eq_true rfl) (by simp [qz_u, zf, hq, hr]) rfl rfl ⟨rfl, rfl⟩ ?_
  refine qz_aload_n hX 45 rfl rfl ?_
  refine qz_bipush hX 46 91 rfl (by decide) ?_
  refine qz_newa (ty := .int) hX 47 0 91 rfl zw_int rfl rfl rfl (by decide) (by decide) rfl ⟨Nat.le_of_ble_eq_true rfl, Nat.le_of_ble_eq_true rfl⟩ (fun q11 => ?_)
  refine qz_put (fs := [.int 0, .int 0, .int 0, .ref qr, .ref q1, .ref q2, .ref q3, .ref q4, .ref q5, .ref q6, .ref q7, .ref q8, .ref q9, .ref q10, .null, .null, .null, .null, .null, .null]) hX 48 53 rfl zp_Flow_46 (fun _ => hm) (Nat.le_of_ble_eq_true rfl) (by simp [qz_u, zf, hq, hr]) rfl rfl ⟨rfl, rfl⟩ ?_
  refine qz_aload_n hX 49 rfl rfl ?_
  refine qz_bipush hX 50 91 rfl (by decide) ?_
  refine qz_newa (ty := .boolean) hX 51 1 91 rfl zw_bool rfl rfl rfl (by decide) (by decide) rfl ⟨Nat.le_of_ble_eq_true rfl, Nat.le_of_ble_eq_true rfl⟩ (fun q12 => ?_)
  refine qz_put (fs := [.int 0, .int 0, .int 0, .ref qr, .ref q1, .ref q2, .ref q3, .ref q4, .ref q5, .ref q6, .ref q7, .ref q8, .ref q9, .ref q10, .ref q11, .null, .null, .null, .null, .null]) hX 52 53 rfl zp_Flow_49 (fun _ => hm) (Nat.le_of_ble_eq_true rfl) (by simp [qz_u, zf, hq, hr]) rfl rfl ⟨rfl, rfl⟩ ?_
  refine qz_aload_n hX 53 rfl rfl ?_
  refine qz_bipush hX 54 17 rfl (by decide) ?_
  refine qz_newa (ty := .int) hX 55 0 17 rfl zw_int rfl rfl rfl (by decide) (by decide) rfl ⟨Nat.le_of_ble_eq_true rfl, Nat.le_of_ble_eq_true rfl⟩ (fun q13 => ?_)
  refine qz_put (fs := [.int 0, .int 0, .int 0, .ref qr, .ref q1, .ref q2, .ref q3, .ref q4, .ref q5, .ref q6, .ref q7, .ref q8, .ref q9, .ref q10, .ref q11, .ref q12, .null, .null, .null, .null]) hX 56 53 rfl zp_Flow_53 (fun _ => hm) (Nat.le_of_ble_eq_true rfl) (by simp [qz_u, zf, hq, hr]) rfl rfl ⟨rfl, rfl⟩ ?_
  refine qz_aload_n hX 57 rfl rfl ?_
  refine qz_bipush hX 58 17 rfl (by decide) ?_
  refine qz_newa (ty := .int) hX 59 0 17 rfl zw_int rfl rfl rfl (by decide) (by decide) rfl ⟨Nat.le_of_ble_eq_true rfl, Nat.le_of_ble_eq_true rfl⟩ (fun q14 => ?_)
  refine qz_put (fs := [.int 0, .int 0, .int 0, .ref qr, .ref q1, .ref q2, .ref q3, .ref q4, .ref q5, .ref q6, .ref q7, .ref q8, .ref q9, .ref q10, .ref q11, .ref q12, .ref q13, .null, .null, .null]) hX 60 53 rfl zp_Flow_56 (fun _ => hm) (Nat.le_of_ble_eq_true rfl) (by simp [qz_u, zf, hq, hr]) rfl rfl ⟨rfl, rfl⟩ ?_
  refine qz_aload_n hX 61 rfl rfl ?_
  refine qz_bipush hX 62 17 rfl (by decide) ?_
  refine qz_newa (ty := .int) hX 63 0 17 rfl zw_int rfl rfl rfl (by decide) (by decide) rfl ⟨Nat.le_of_ble_eq_true rfl, Nat.le_of_ble_eq_true rfl⟩ (fun q15 => ?_)
  refine qz_put (fs := [.int 0, .int 0, .int 0, .ref qr, .ref q1, .ref q2, .ref q3, .ref q4, .ref q5, .ref q6, .ref q7, .ref q8, .ref q9, .ref q10, .ref q11, .ref q12, .ref q13, .ref q14, .null, .null]) hX 64 53 rfl zp_Flow_59 (fun _ => hm) (Nat.le_of_ble_eq_true rfl) (by simp [qz_u, zf, hq, hr]) rfl rfl ⟨rfl, rfl⟩ ?_
  refine qz_aload_n hX 65 rfl rfl ?_
  refine qz_bipush hX 66 64 rfl (by decide) ?_
  refine qz_newa (ty := .int) hX 67 0 64 rfl zw_int rfl rfl rfl (by decide) (by decide) rfl ⟨Nat.le_of_ble_eq_true rfl, Nat.le_of_ble_eq_true rfl⟩ (fun q16 => ?_)
  refine qz_put (fs := [.int 0, .int 0, .int 0, .ref qr, .ref q1, .ref q2, .ref q3, .ref q4, .ref q5, .ref q6, .ref q7, .ref q8, .ref q9, .ref q10, .ref q11, .ref q12, .ref q13, .ref q14, .ref q15, .null]) hX 68 53 rfl zp_Flow_62 (fun _ => hm) (Nat.le_of_ble_eq_true rfl) (by simp [qz_u, zf, hq, hr]) rfl rfl ⟨rfl, rfl⟩ ?_
  refine qz_end 53 54 70 69 hX rfl hR ⟨Nat.le_of_ble_eq_true rfl, Nat.le_of_ble_eq_true rfl⟩ (fun i hi => ?_) (fun i _ h1 h2 => ?_) (fun i h1 h2 => ?_)
  · repeat (first | rw [qz_un (by omega)] | rw [if_pos (by omega)] | rw [if_neg (by omega)] | dsimp only)
  · repeat (first | rw [qz_un (by omega)] | rw [zf_out (by omega)] | rw [zf_in (by omega)] | rw [if_pos (by omega)] | rw [if_neg (by omega)] | dsimp only)
  · have hs : i = 53 ∨ i = 54 ∨ i = 55 ∨ i = 56 ∨ i = 57 ∨ i = 58 ∨ i = 59 ∨ i = 60 ∨ i = 61 ∨ i = 62 ∨ i = 63 ∨ i = 64 ∨ i = 65 ∨ i = 66 ∨ i = 67 ∨ i = 68 ∨ i = 69 := by omega
    rcases hs with rfl | rfl | rfl | rfl | rfl | rfl | rfl | rfl | rfl | rfl | rfl | rfl | rfl | rfl | rfl | rfl | rfl
    · refine Or.inl ?_
      rw [zpo_53]
      simp [qz_u, zf, hq, hr]
    · exact Or.inl rfl
    · exact Or.inl rfl
    · exact Or.inl rfl
    · exact Or.inl rfl
    · exact Or.inl rfl
    · exact Or.inl rfl
    · exact Or.inl rfl
    · exact Or.inl rfl
    · exact Or.inl rfl
    · exact Or.inl rfl
    · exact Or.inl rfl
    · exact Or.inl rfl
    · exact Or.inl rfl
    · exact Or.inl rfl
    · exact Or.inl rfl
    · exact Or.inl rfl
theorem zc_Flow_326 {l : Launch} {G : qm_G} (ad : Nat → Nat) (E : Nat → va_E) (q qr : Nat) (hq : ad 326 = q) (hr : ad 323 = qr) (hE : E 326 = .inr (1, [.int 0, .int 0, .int 0, .null, .null, .null, .null, .null, .null, .null, .null, .null, .null, .null, .null, .null, .null, .null, .null, .null])) : qz_MV l G jy_Flow_init prog_3_method_1_code 2 1 20 16 1132 (ad, E, 327) [.ref q, .ref qr] (zpost G ad E 326 327 343) := by
  refine qz_met (by decide +kernel) jd_Flow_init (fun v hv => by simp only [List.mem_cons, List.not_mem_nil, or_false] at hv; rcases hv with rfl | rfl <;> rfl) (by exact Nat.le_of_ble_eq_true rfl) (fun X hl hg hm hX hR => ?_)
  subst hl
  subst hg
  refine qz_aload_n hX 0 rfl rfl ?_
  refine qz_obj hX 1 rfl zo_Flow zo_1 zo_2 ⟨by decide, by decide⟩ ?_
  refine qz_aload_n hX 2 rfl rfl ?_
  refine qz_aload_n hX 3 rfl rfl ?_
  refine qz_put (fs := [.int 0, .int 0, .int 0, .null, .null, .null, .null, .null, .null, .null, .null, .null, .null, .null, .null, .null, .null, .null, .null, .null]) hX 4 326 rfl zp_Flow_9 (fun _ => hm) (Nat.le_of_ble_eq_true rfl) (by simp [qz_u, zf, hq, hr]) (by simp [qz_u, zf, hE, hq, hr]) rfl ⟨rfl, rfl⟩ ?_
  refine qz_aload_n hX 5 rfl rfl ?_
  refine qz_bipush hX 6 16 rfl (by decide) ?_
  refine qz_newa (ty := .int) hX 7 0 16 rfl zw_int rfl rfl rfl (by decide) (by decide) rfl ⟨Nat.le_of_ble_eq_true rfl, Nat.le_of_ble_eq_true rfl⟩ (fun q1 => ?_)
  refine qz_put (fs := [.int 0, .int 0, .int 0, .ref qr, .null, .null, .null, .null, .null, .null, .null, .null, .null, .null, .null, .null, .null, .null, .null, .null]) hX 8 326 rfl zp_Flow_15 (fun _ => hm) (Nat.le_of_ble_eq_true rfl) (by simp [qz_u, zf, hq, hr]) rfl rfl ⟨rfl, rfl⟩ ?_
  refine qz_aload_n hX 9 rfl rfl ?_
  refine qz_bipush hX 10 91 rfl (by decide) ?_
  refine qz_newa (ty := .int) hX 11 0 91 rfl zw_int rfl rfl rfl (by decide) (by decide) rfl ⟨Nat.le_of_ble_eq_true rfl, Nat.le_of_ble_eq_true rfl⟩ (fun q2 => ?_)
  refine qz_put (fs := [.int 0, .int 0, .int 0, .ref qr, .ref q1, .null, .null, .null, .null, .null, .null, .null, .null, .null, .null, .null, .null, .null, .null, .null]) hX 12 326 rfl zp_Flow_19 (fun _ => hm) (Nat.le_of_ble_eq_true rfl) (by simp [qz_u, zf, hq, hr]) rfl rfl ⟨rfl, rfl⟩ ?_
  refine qz_aload_n hX 13 rfl rfl ?_
  refine qz_bipush hX 14 91 rfl (by decide) ?_
  refine qz_newa (ty := .int) hX 15 0 91 rfl zw_int rfl rfl rfl (by decide) (by decide) rfl ⟨Nat.le_of_ble_eq_true rfl, Nat.le_of_ble_eq_true rfl⟩ (fun q3 => ?_)
  refine qz_put (fs := [.int 0, .int 0, .int 0, .ref qr, .ref q1, .ref q2, .null, .null, .null, .null, .null, .null, .null, .null, .null, .null, .null, .null, .null, .null]) hX 16 326 rfl zp_Flow_22 (fun _ => hm) (Nat.le_of_ble_eq_true rfl) (by simp [qz_u, zf, hq, hr]) rfl rfl ⟨rfl, rfl⟩ ?_
  refine qz_aload_n hX 17 rfl rfl ?_
  refine qz_bipush hX 18 91 rfl (by decide) ?_
  refine qz_newa (ty := .int) hX 19 0 91 rfl zw_int rfl rfl rfl (by decide) (by decide) rfl ⟨Nat.le_of_ble_eq_true rfl, Nat.le_of_ble_eq_true rfl⟩ (fun q4 => ?_)
  refine qz_put (fs := [.int 0, .int 0, .int 0, .ref qr, .ref q1, .ref q2, .ref q3, .null, .null, .null, .null, .null, .null, .null, .null, .null, .null, .null, .null, .null]) hX 20 326 rfl zp_Flow_25 (fun _ => hm) (Nat.le_of_ble_eq_true rfl) (by simp [qz_u, zf, hq, hr]) rfl rfl ⟨rfl, rfl⟩ ?_
  refine qz_aload_n hX 21 rfl rfl ?_
  refine qz_bipush hX 22 91 rfl (by decide) ?_
  refine qz_newa (ty := .int) hX 23 0 91 rfl zw_int rfl rfl rfl (by decide) (by decide) rfl ⟨Nat.le_of_ble_eq_true rfl, Nat.le_of_ble_eq_true rfl⟩ (fun q5 => ?_)
  refine qz_put (fs := [.int 0, .int 0, .int 0, .ref qr, .ref q1, .ref q2, .ref q3, .ref q4, .null, .null, .null, .null, .null, .null, .null, .null, .null, .null, .null, .null]) hX 24 326 rfl zp_Flow_28 (fun _ => hm) (Nat.le_of_ble_eq_true rfl) (by simp [qz_u, zf, hq, hr]) rfl rfl ⟨rfl, rfl⟩ ?_
  refine qz_aload_n hX 25 rfl rfl ?_
  refine qz_bipush hX 26 91 rfl (by decide) ?_
  refine qz_newa (ty := .int) hX 27 0 91 rfl zw_int rfl rfl rfl (by decide) (by decide) rfl ⟨Nat.le_of_ble_eq_true rfl, Nat.le_of_ble_eq_true rfl⟩ (fun q6 => ?_)
  refine qz_put (fs := [.int 0, .int 0, .int 0, .ref qr, .ref q1, .ref q2, .ref q3, .ref q4, .ref q5, .null, .null, .null, .null, .null, .null, .null, .null, .null, .null, .null]) hX 28 326 rfl zp_Flow_31 (fun _ => hm) (Nat.le_of_ble_eq_true rfl) (by simp [qz_u, zf, hq, hr]) rfl rfl ⟨rfl, rfl⟩ ?_
  refine qz_aload_n hX 29 rfl rfl ?_
  refine qz_bipush hX 30 91 rfl (by decide) ?_
  refine qz_newa (ty := .int) hX 31 0 91 rfl zw_int rfl rfl rfl (by decide) (by decide) rfl ⟨Nat.le_of_ble_eq_true rfl, Nat.le_of_ble_eq_true rfl⟩ (fun q7 => ?_)
  refine qz_put (fs := [.int 0, .int 0, .int 0, .ref qr, .ref q1, .ref q2, .ref q3, .ref q4, .ref q5, .ref q6, .null, .null, .null, .null, .null, .null, .null, .null, .null, .null]) hX 32 326 rfl zp_Flow_34 (fun _ => hm) (Nat.le_of_ble_eq_true rfl) (by simp [qz_u, zf, hq, hr]) rfl rfl ⟨rfl, rfl⟩ ?_
  refine qz_aload_n hX 33 rfl rfl ?_
  refine qz_bipush hX 34 91 rfl (by decide) ?_
  refine qz_newa (ty := .int) hX 35 0 91 rfl zw_int rfl rfl rfl (by decide) (by decide) rfl ⟨Nat.le_of_ble_eq_true rfl, Nat.le_of_ble_eq_true rfl⟩ (fun q8 => ?_)
  refine qz_put (fs := [.int 0, .int 0, .int 0, .ref qr, .ref q1, .ref q2, .ref q3, .ref q4, .ref q5, .ref q6, .ref q7, .null, .null, .null, .null, .null, .null, .null, .null, .null]) hX 36 326 rfl zp_Flow_37 (fun _ => hm) (Nat.le_of_ble_eq_true rfl) (by simp [qz_u, zf, hq, hr]) rfl rfl ⟨rfl, rfl⟩ ?_
  refine qz_aload_n hX 37 rfl rfl ?_
  refine qz_bipush hX 38 91 rfl (by decide) ?_
  refine qz_newa (ty := .int) hX 39 0 91 rfl zw_int rfl rfl rfl (by decide) (by decide) rfl ⟨Nat.le_of_ble_eq_true rfl, Nat.le_of_ble_eq_true rfl⟩ (fun q9 => ?_)
  refine qz_put (fs := [.int 0, .int 0, .int 0, .ref qr, .ref q1, .ref q2, .ref q3, .ref q4, .ref q5, .ref q6, .ref q7, .ref q8, .null, .null, .null, .null, .null, .null, .null, .null]) hX 40 326 rfl zp_Flow_40 (fun _ => hm) (Nat.le_of_ble_eq_true rfl) (by simp [qz_u, zf, hq, hr]) rfl rfl ⟨rfl, rfl⟩ ?_
  refine qz_aload_n hX 41 rfl rfl ?_
  refine qz_bipush hX 42 91 rfl (by decide) ?_
  refine qz_newa (ty := .int) hX 43 0 91 rfl zw_int rfl rfl rfl (by decide) (by decide) rfl ⟨Nat.le_of_ble_eq_true rfl, Nat.le_of_ble_eq_true rfl⟩ (fun q10 => ?_)
  refine qz_put (fs := [.int 0, .int 0, .int 0, .ref qr, .ref q1, .ref q2, .ref q3, .ref q4, .ref q5, .ref q6, .ref q7, .ref q8, .ref q9, .null, .null, .null, .null, .null, .null, .null]) hX 44 326 rfl zp_Flow_43 (fun _ => hm) (Nat.le_of_ble_eq_true rfl) (by simp [qz_u, zf, hq, hr]) rfl rfl ⟨rfl, rfl⟩ ?_
  refine qz_aload_n hX 45 rfl rfl ?_
  refine qz_bipush hX 46 91 rfl (by decide) ?_
  refine qz_newa (ty := .int) hX 47 0 91 rfl zw_int rfl rfl rfl (by decide) (by decide) rfl ⟨Nat.le_of_ble_eq_true rfl, Nat.le_of_ble_eq_true rfl⟩ (fun q11 => ?_)
  refine qz_put (fs := [.int 0, .int 0, .int 0, .ref qr, .ref q1, .ref q2, .ref q3, .ref q4, .ref q5, .ref q6, .ref q7, .ref q8, .ref q9, .ref q10, .null, .null, .null, .null, .null, .null]) hX 48 326 rfl zp_Flow_46 (fun _ => hm) (Nat.le_of_ble_eq_true rfl) (by simp [qz_u, zf, hq, hr]) rfl rfl ⟨rfl, rfl⟩ ?_
  refine qz_aload_n hX 49 rfl rfl ?_
  refine qz_bipush hX 50 91 rfl (by decide) ?_
  refine qz_newa (ty := .boolean) hX 51 1 91 rfl zw_bool rfl rfl rfl (by decide) (by decide) rfl ⟨Nat.le_of_ble_eq_true rfl, Nat.le_of_ble_eq_true rfl⟩ (fun q12 => ?_)
  refine qz_put (fs := [.int 0, .int 0, .int 0, .ref qr, .ref q1, .ref q2, .ref q3, .ref q4, .ref q5, .ref q6, .ref q7, .ref q8, .ref q9, .ref q10, .ref q11, .null, .null, .null, .null, .null]) hX 52 326 rfl zp_Flow_49 (fun _ => hm) (Nat.le_of_ble_eq_true rfl) (by simp [qz_u, zf, hq, hr]) rfl rfl ⟨rfl, rfl⟩ ?_
  refine qz_aload_n hX 53 rfl rfl ?_
  refine qz_bipush hX 54 17 rfl (by decide) ?_
  refine qz_newa (ty := .int) hX 55 0 17 rfl zw_int rfl rfl rfl (by decide) (by decide) rfl ⟨Nat.le_of_ble_eq_true rfl, Nat.le_of_ble_eq_true rfl⟩ (fun q13 => ?_)
  refine qz_put (fs := [.int 0, .int 0, .int 0, .ref qr, .ref q1, .ref q2, .ref q3, .ref q4, .ref q5, .ref q6, .ref q7, .ref q8, .ref q9, .ref q10, .ref q11, .ref q12, .null, .null, .null, .null]) hX 56 326 rfl zp_Flow_53 (fun _ => hm) (Nat.le_of_ble_eq_true rfl) (by simp [qz_u, zf, hq, hr]) rfl rfl ⟨rfl, rfl⟩ ?_
  refine qz_aload_n hX 57 rfl rfl ?_
  refine qz_bipush hX 58 17 rfl (by decide) ?_
  refine qz_newa (ty := .int) hX 59 0 17 rfl zw_int rfl rfl rfl (by decide) (by decide) rfl ⟨Nat.le_of_ble_eq_true rfl, Nat.le_of_ble_eq_true rfl⟩ (fun q14 => ?_)
  refine qz_put (fs := [.int 0, .int 0, .int 0, .ref qr, .ref q1, .ref q2, .ref q3, .ref q4, .ref q5, .ref q6, .ref q7, .ref q8, .ref q9, .ref q10, .ref q11, .ref q12, .ref q13, .null, .null, .null]) hX 60 326 rfl zp_Flow_56 (fun _ => hm) (Nat.le_of_ble_eq_true rfl) (by simp [qz_u, zf, hq, hr]) rfl rfl ⟨rfl, rfl⟩ ?_
  refine qz_aload_n hX 61 rfl rfl ?_
  refine qz_bipush hX 62 17 rfl (by decide) ?_
  refine qz_newa (ty := .int) hX 63 0 17 rfl zw_int rfl rfl rfl (by decide) (by decide) rfl ⟨Nat.le_of_ble_eq_true rfl, Nat.le_of_ble_eq_true rfl⟩ (fun q15 => ?_)
  refine qz_put (fs := [.int 0, .int 0, .int 0, .ref qr, .ref q1, .ref q2, .ref q3, .ref q4, .ref q5, .ref q6, .ref q7, .ref q8, .ref q9, .ref q10, .ref q11, .ref q12, .ref q13, .ref q14, .null, .null]) hX 64 326 rfl zp_Flow_59 (fun _ => hm) (Nat.le_of_ble_eq_true rfl) (by simp [qz_u, zf, hq, hr]) rfl rfl ⟨rfl, rfl⟩ ?_
  refine qz_aload_n hX 65 rfl rfl ?_
  refine qz_bipush hX 66 64 rfl (by decide) ?_
  refine qz_newa (ty := .int) hX 67 0 64 rfl zw_int rfl rfl rfl (by decide) (by decide) rfl ⟨Nat.le_of_ble_eq_true rfl, Nat.le_of_ble_eq_true rfl⟩ (fun q16 => ?_)
  refine qz_put (fs := [.int 0, .int 0, .int 0, .ref qr, .ref q1, .ref q2, .ref q3, .ref q4, .ref q5, .ref q6, .ref q7, .ref q8, .ref q9, .ref q10, .ref q11, .ref q12, .ref q13, .ref q14, .ref q15, .null]) hX 68 326 rfl zp_Flow_62 (fun _ => hm) (Nat.le_of_ble_eq_true rfl) (by simp [qz_u, zf, hq, hr]) rfl rfl ⟨rfl, rfl⟩ ?_
  refine qz_end 326 327 343 69 hX rfl hR ⟨Nat.le_of_ble_eq_true rfl, Nat.le_of_ble_eq_true rfl⟩ (fun i hi => ?_) (fun i _ h1 h2 => ?_) (fun i h1 h2 => ?_)
  · repeat (first | rw [qz_un (by omega)] | rw [if_pos (by omega)] | rw [if_neg (by omega)] | dsimp only)
  · repeat (first | rw [qz_un (by omega)] | rw [zf_out (by omega)] | rw [zf_in (by omega)] | rw [if_pos (by omega)] | rw [if_neg (by omega)] | dsimp only)
  · have hs : i = 326 ∨ i = 327 ∨ i = 328 ∨ i = 329 ∨ i = 330 ∨ i = 331 ∨ i = 332 ∨ i = 333 ∨ i = 334 ∨ i = 335 ∨ i = 336 ∨ i = 337 ∨ i = 338 ∨ i = 339 ∨ i = 340 ∨ i = 341 ∨ i = 342 := by omega
    rcases hs with rfl | rfl | rfl | rfl | rfl | rfl | rfl | rfl | rfl | rfl | rfl | rfl | rfl | rfl | rfl | rfl | rfl
    · refine Or.inl ?_
      rw [zpo_326]
      simp [qz_u, zf, hq, hr]
    · exact Or.inl rfl
    · exact Or.inl rfl
    · exact Or.inl rfl
    · exact Or.inl rfl
    · exact Or.inl rfl
    · exact Or.inl rfl
    · exact Or.inl rfl
    · exact Or.inl rfl
    · exact Or.inl rfl
    · exact Or.inl rfl
    · exact Or.inl rfl
    · exact Or.inl rfl
    · exact Or.inl rfl
    · exact Or.inl rfl
    · exact Or.inl rfl
    · exact Or.inl rfl
theorem zc_Tape_4 {l : Launch} {G : qm_G} (ad : Nat → Nat) (E : Nat → va_E) (q : Nat) (hq : ad 4 = q) (hE : E 4 = .inr (5, [.null, .int 0])) : qz_MV l G jy_Tape_init prog_7_method_1_code 1 1 20 1 400 (ad, E, 5) [.ref q] (zpost G ad E 4 5 6) := by
  refine qz_met (by decide +kernel) jd_Tape_init (fun v hv => by simp only [List.mem_cons, List.not_mem_nil, or_false] at hv; rcases hv with rfl; rfl) (by exact Nat.le_of_ble_eq_true rfl) (fun X hl hg hm hX hR => ?_)
  subst hl
  subst hg
  refine qz_aload_n hX 0 rfl rfl ?_
  refine qz_obj hX 1 rfl zo_Tape zo_1 zo_2 ⟨by decide, by decide⟩ ?_
  refine qz_aload_n hX 2 rfl rfl ?_
  refine qz_sipush hX 3 400 rfl (by decide) ?_
  refine qz_newa (ty := .int) hX 4 0 400 rfl zw_int rfl rfl rfl (by decide) (by decide) rfl ⟨Nat.le_of_ble_eq_true rfl, Nat.le_of_ble_eq_true rfl⟩ (fun q1 => ?_)
  refine qz_put (fs := [.null, .int 0]) hX 5 4 rfl zp_Tape_9 (fun _ => hm) (Nat.le_of_ble_eq_true rfl) (by simp [qz_u, zf, hq]) (by simp [qz_u, zf, hE, hq]) rfl ⟨rfl, rfl⟩ ?_
  refine qz_end 4 5 6 6 hX rfl hR ⟨Nat.le_of_ble_eq_true rfl, Nat.le_of_ble_eq_true rfl⟩ (fun i hi => ?_) (fun i _ h1 h2 => ?_) (fun i h1 h2 => ?_)
  · repeat (first | rw [qz_un (by omega)] | rw [if_pos (by omega)] | rw [if_neg (by omega)] | dsimp only)
  · repeat (first | rw [qz_un (by omega)] | rw [zf_out (by omega)] | rw [zf_in (by omega)] | rw [if_pos (by omega)] | rw [if_neg (by omega)] | dsimp only)
  · have hs : i = 4 ∨ i = 5 := by omega
    rcases hs with rfl | rfl
    · refine Or.inl ?_
      rw [zpo_4]
      simp [qz_u, zf, hq]
    · exact Or.inl rfl
theorem zc_Walker_360 {l : Launch} {G : qm_G} (ad : Nat → Nat) (E : Nat → va_E) (q qp qf qt : Nat) (v0 w3 w4 w5 w6 w7 w8 w9 w10 w11 w12 : Value) (hq : ad 360 = q) (hp : ad 52 = qp) (hf : ad 53 = qf) (ht : ad 70 = qt) (hP : E 52 = .inr (3, [v0, .ref qf, .ref qt, w3, w4, w5, w6, w7, w8, w9, w10, w11, w12])) (hE : E 360 = .inr (7, [.null, .null, .null, .null])) : qz_MV l G jy_Walker_init prog_9_method_1_code 2 1 20 6 3826 (ad, E, 361) [.ref q, .ref qp] (zpost G ad E 360 361 367) := by
  refine qz_met (by decide +kernel) jd_Walker_init (fun v hv => by simp only [List.mem_cons, List.not_mem_nil, or_false] at hv; rcases hv with rfl | rfl <;> rfl) (by exact Nat.le_of_ble_eq_true rfl) (fun X hl hg hm hX hR => ?_)
  subst hl
  subst hg
  refine qz_aload_n hX 0 rfl rfl ?_
  refine qz_obj hX 1 rfl zo_Walker zo_1 zo_2 ⟨by decide, by decide⟩ ?_
  refine qz_aload_n hX 2 rfl rfl ?_
  refine qz_aload_n hX 3 rfl rfl ?_
  refine qz_get (fs := [v0, .ref qf, .ref qt, w3, w4, w5, w6, w7, w8, w9, w10, w11, w12]) hX 4 52 rfl zg_Walker_9 (Nat.le_of_ble_eq_true rfl) (by simp [qz_u, zf, hq, hp, hf, ht]) (by simp [qz_u, zf, hP]) rfl ?_
  refine qz_put (fs := [.null, .null, .null, .null]) hX 5 360 rfl zp_Walker_15 (fun _ => hm) (Nat.le_of_ble_eq_true rfl) (by simp [qz_u, zf, hq, hp, hf, ht]) (by simp [qz_u, zf, hE, hq, hp, hf, ht]) rfl ⟨rfl, rfl⟩ ?_
  refine qz_aload_n hX 6 rfl rfl ?_
  refine qz_aload_n hX 7 rfl rfl ?_
  refine qz_get (fs := [v0, .ref qf, .ref qt, w3, w4, w5, w6, w7, w8, w9, w10, w11, w12]) hX 8 52 rfl zg_Walker_18 (Nat.le_of_ble_eq_true rfl) (by simp [qz_u, zf, hq, hp, hf, ht]) (by simp [qz_u, zf, hP]) rfl ?_
  refine qz_put (fs := [.ref qf, .null, .null, .null]) hX 9 360 rfl zp_Walker_22 (fun _ => hm) (Nat.le_of_ble_eq_true rfl) (by simp [qz_u, zf, hq, hp, hf, ht]) rfl rfl ⟨rfl, rfl⟩ ?_
  refine qz_aload_n hX 10 rfl rfl ?_
  refine qz_iconst hX 11 2 rfl (by decide) ?_
  refine qz_bipush hX 12 91 rfl (by decide) ?_
  refine qz_mnew hX 13 2 91 rfl za_Walker_23 zw_int rfl rfl (by decide) ⟨Nat.le_of_ble_eq_true rfl, Nat.le_of_ble_eq_true rfl⟩ (fun q1 r2 => ?_)
  refine qz_put (fs := [.ref qf, .ref qt, .null, .null]) hX 14 360 rfl zp_Walker_25 (fun _ => hm) (Nat.le_of_ble_eq_true rfl) (by simp [qz_u, zf, hq, hp, hf, ht]) rfl rfl ⟨rfl, rfl⟩ ?_
  refine qz_aload_n hX 15 rfl rfl ?_
  refine qz_iconst hX 16 2 rfl (by decide) ?_
  refine qz_sipush hX 17 1820 rfl (by decide) ?_
  refine qz_mnew hX 18 2 1820 rfl za_Walker_23 zw_int rfl rfl (by decide) ⟨Nat.le_of_ble_eq_true rfl, Nat.le_of_ble_eq_true rfl⟩ (fun q3 r4 => ?_)
  refine qz_put (fs := [.ref qf, .ref qt, .ref q1, .null]) hX 19 360 rfl zp_Walker_28 (fun _ => hm) (Nat.le_of_ble_eq_true rfl) (by simp [qz_u, zf, hq, hp, hf, ht]) rfl rfl ⟨rfl, rfl⟩ ?_
  refine qz_end 360 361 367 20 hX rfl hR ⟨Nat.le_of_ble_eq_true rfl, Nat.le_of_ble_eq_true rfl⟩ (fun i hi => ?_) (fun i _ h1 h2 => ?_) (fun i h1 h2 => ?_)
  · repeat (first | rw [qz_un (by omega)] | rw [if_pos (by omega)] | rw [if_neg (by omega)] | dsimp only)
  · repeat (first | rw [qz_un (by omega)] | rw [zf_out (by omega)] | rw [zf_in (by omega)] | rw [if_pos (by omega)] | rw [if_neg (by omega)] | dsimp only)
  · have hs : i = 360 ∨ i = 361 ∨ (362 ≤ i ∧ i < 364) ∨ i = 364 ∨ (365 ≤ i ∧ i < 367) := by omega
    rcases hs with rfl | rfl | hs | rfl | hs
    · refine Or.inl ?_
      rw [zpo_360]
      simp [qz_u, zf, hq, hp, hf, ht]
    · refine Or.inr (fun q9 H hv => qz_arrR (fun j hj => ?_) hv)
      have hj : j < 2 := hj
      rw [(by decide +kernel : ∀ j, j < 2 → qm_rf 361 j = 362 + j) j hj, if_pos hj]
      refine congrArg some ?_
      symm
      repeat (first | rw [qz_un (by omega)] | rw [if_pos (by omega)] | rw [if_neg (by omega)] | dsimp only)
      exact congrArg r2 (by omega)
    · refine Or.inl ?_
      rw [zpic_i (N := 91) ((by decide +kernel : ∀ i, i < 364 → 362 ≤ i → qm_kd i = (1, 91)) i hs.2 hs.1) (by omega) (qz_s00 (by omega) (by rw [(by decide +kernel : ∀ i, i < 364 → 362 ≤ i → qm_kd i = (1, 91)) i hs.2 hs.1]; decide) (by omega))]
      repeat (first | rw [qz_un (by omega)] | rw [zf_out (by omega)] | rw [zf_in (by omega)] | rw [if_pos (by omega)] | rw [if_neg (by omega)] | dsimp only)
    · refine Or.inr (fun q9 H hv => qz_arrR (fun j hj => ?_) hv)
      have hj : j < 2 := hj
      rw [(by decide +kernel : ∀ j, j < 2 → qm_rf 364 j = 365 + j) j hj, if_pos hj]
      refine congrArg some ?_
      symm
      repeat (first | rw [qz_un (by omega)] | rw [if_pos (by omega)] | rw [if_neg (by omega)] | dsimp only)
      exact congrArg r4 (by omega)
    · refine Or.inl ?_
      rw [zpic_i (N := 1820) ((by decide +kernel : ∀ i, i < 367 → 365 ≤ i → qm_kd i = (1, 1820)) i hs.2 hs.1) (by omega) (qz_s00 (by omega) (by rw [(by decide +kernel : ∀ i, i < 367 → 365 ≤ i → qm_kd i = (1, 1820)) i hs.2 hs.1]; decide) (by omega))]
      repeat (first | rw [qz_un (by omega)] | rw [zf_out (by omega)] | rw [zf_in (by omega)] | rw [if_pos (by omega)] | rw [if_neg (by omega)] | dsimp only)
