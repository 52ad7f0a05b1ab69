/-! ===== the law's loop ===== -/
section
variable {X : qm_X} {b L n : Nat} {xs : Nat → Int32} {σ : qm_Mem} {τ : iMem} {st : List Value}
theorem zl_bool (hK : zl_K X b L xs) {pc : Nat} {x : Int32} {ρ : List (Option Value)} (hD : qm_Db code [(pc, .ifCond .eq 7, 3, pc + 3), (pc + 3, .iconst 1, 1, pc + 4), (pc + 4, .goto 4, 3, pc + 7), (pc + 7, .iconst 0, 1, pc + 8)] = true) (h : qm_J X (pc + 8) ρ (.int (if x = 0 then 0 else 1) :: st) σ) : qm_J X pc ρ (.int x :: st) σ := by
  have hX := zl_x hK hD
  have h1 : x = 0 → qm_J X (pc + 7) ρ st σ := fun e => by
    rw [if_pos e] at h
    exact qj_of (fun m => qb_iconst hX 3 0 rfl rfl) h
  have h2 : ¬ x = 0 → qm_J X (pc + 3) ρ st σ := fun e => by
    rw [if_neg e] at h
    exact qj_of (fun m => qb_iconst hX 1 1 rfl rfl) (qj_goto hX 2 rfl (by omega) h)
  exact fun H locs ls hH hS hL => lv_if_eq (qk_ex hX) (qk_by hX) (qk_d hX (k := 0) rfl) (by omega) (fun c => h1 c H locs ls hH hS hL) (fun c => h2 c H locs ls hH hS hL)
theorem zl_tie (hK : zl_K X b L xs) (hG : qm_GI (qx_G X)) (hn : n + 6 ≤ L) (hr : iRel σ τ) (hI : Inv τ) (h : ∀ σ2 τ2, iRel σ2 τ2 → Inv τ2 → qm_J X 1192 (zl_ρ X b n) [] σ2) : qm_J X 316 (zl_ρ X b n) [] σ := by
  obtain ⟨z, hz, hz2⟩ : ∃ z : Int32, (if xs (n + 2) = 0 then (0 : Int32) else 1) = z ∧ (z.toInt = 0 ∨ z.toInt = 1) := ⟨_, rfl, by
    by_cases e : xs (n + 2) = 0
    · rw [if_pos e]; exact Or.inl rfl
    · rw [if_neg e]; exact Or.inr rfl⟩
  obtain ⟨r, σ1, σ2, τ2, e1, e2, e3, e4⟩ := act_w hr (act_tie hI (xs (n + 1)).toInt z.toInt hz2) (is_Top_tie (this := 0) (p1 := xs (n + 1)) (p2 := z) rfl rfl) (is_Model_tie (this := 367) (p1 := xs (n + 1)) (p2 := z) rfl rfl)
  have d1 : qm_Db code [(316, .aload_n 1, 1, 317)] = true := by decide +kernel
  have d2 : qm_Db code [(335, .invokevirtual 33, 3, 338), (338, .aload_n 2, 1, 339)] = true := by decide +kernel
  have d3 : qm_Db code [(357, .invokevirtual 37, 3, 360), (360, .if_icmp .eq 832, 3, 363)] = true := by decide +kernel
  refine qj_of (fun m => qb_aload_n (zl_x hK d1) 0 rfl rfl) ?_
  refine zl_arg1 hK (pc := 317) (j := 1) (by decide +kernel) (by decide) hn ?_
  refine zl_arg1 hK (pc := 322) (j := 2) (by decide +kernel) (by decide) hn ?_
  refine zl_bool hK (pc := 327) (by decide +kernel) ?_
  rw [hz]
  refine zl_call (st := []) (As := [.int (xs (n + 1)), .int z]) (zl_x hK d2) 0 rfl zv_Top_tie (jm_Top_tie hG 0 (xs (n + 1)) z (by decide +kernel)) (ci := 8) (by decide +kernel) (r := (qr_Top, qt_Top, 11)) ⟨rfl, rfl, rfl, by decide, by decide⟩ rfl (by decide) e1 ?_
  refine qj_of (fun m => qb_aload_n (zl_x hK d2) 1 rfl rfl) ?_
  refine zl_arg1 hK (pc := 339) (j := 1) (by decide +kernel) (by decide) hn ?_
  refine zl_arg1 hK (pc := 344) (j := 2) (by decide +kernel) (by decide) hn ?_
  refine zl_bool hK (pc := 349) (by decide +kernel) ?_
  rw [hz]
  refine zl_call (st := [.int r]) (As := [.int (xs (n + 1)), .int z]) (zl_x hK d3) 0 rfl zv_Model_tie (jm_Model_tie hG 367 (xs (n + 1)) z (by decide +kernel)) (ci := 9) (by decide +kernel) (r := (qr_Model, qt_Model, 54)) ⟨rfl, rfl, rfl, by decide, by decide⟩ rfl (by exact Nat.le_of_ble_eq_true rfl) e2 ?_
  have hX := zl_x hK d3
  intro H locs ls hH hS hL
  exact lv_icmp_eq (tgt := 1192) (qk_ex hX) (qk_by hX) (qk_d hX (k := 1) rfl) (by omega) (fun _ => h σ2 τ2 e3 e4 H locs ls hH hS hL) (fun c => absurd rfl c)
def zl_tg : List Nat := [184, 247, 270, 283, 316, 365, 398, 431, 454, 477, 490, 513, 536, 569, 602, 635, 648, 681, 714, 747, 780, 813, 836, 879, 912, 945, 968, 991, 1024, 1057, 1090, 1123, 1146, 1169]
theorem zl_body (hK : zl_K X b L xs) (hG : qm_GI (qx_G X)) (hn : n + 6 ≤ L) (hr : iRel σ τ) (hI : Inv τ) (h : ∀ σ2 τ2, iRel σ2 τ2 → Inv τ2 → qm_J X 1192 (zl_ρ X b n) [] σ2) : ∀ j, j < 34 → qm_J X (zl_tg.getD j 0) (zl_ρ X b n) [] σ
  | 0, _ => zl_feed hK hG hn hr hI h
  | 1, _ => zl_end hK hG hn hr hI h
  | 2, _ => zl_tell hK hG hn hr hI h
  | 3, _ => zl_set hK hG hn hr hI h
  | 4, _ => zl_tie hK hG hn hr hI h
  | 5, _ => zl_space hK hG hn hr hI h
  | 6, _ => zl_swap hK hG hn hr hI h
  | 7, _ => zl_again hK hG hn hr hI h
  | 8, _ => zl_drop hK hG hn hr hI h
  | 9, _ => zl_undo hK hG hn hr hI h
  | 10, _ => zl_keep hK hG hn hr hI h
  | 11, _ => zl_back hK hG hn hr hI h
  | 12, _ => zl_block hK hG hn hr hI h
  | 13, _ => zl_piece hK hG hn hr hI h
  | 14, _ => zl_section hK hG hn hr hI h
  | 15, _ => zl_pour hK hG hn hr hI h
  | 16, _ => zl_column hK hG hn hr hI h
  | 17, _ => zl_where hK hG hn hr hI h
  | 18, _ => zl_note hK hG hn hr hI h
  | 19, _ => zl_span hK hG hn hr hI h
  | 20, _ => zl_fits hK hG hn hr hI h
  | 21, _ => zl_least hK hG hn hr hI h
  | 22, _ => zl_reach hK hG hn hr hI h
  | 23, _ => zl_trial hK hG hn hr hI h
  | 24, _ => zl_costs hK hG hn hr hI h
  | 25, _ => zl_tall hK hG hn hr hI h
  | 26, _ => zl_loose hK hG hn hr hI h
  | 27, _ => zl_page hK hG hn hr hI h
  | 28, _ => zl_ways hK hG hn hr hI h
  | 29, _ => zl_untie hK hG hn hr hI h
  | 30, _ => zl_narrow hK hG hn hr hI h
  | 31, _ => zl_even hK hG hn hr hI h
  | 32, _ => zl_order hK hG hn hr hI h
  | 33, _ => zl_count hK hG hn hr hI h
  | k + 34, hj => absurd hj (by omega)
def jl_loop : List qm_I := [(18, .iload_n 3, 1, 19), (19, .aload_n 0, 1, 20), (20, .arraylength, 1, 21), (21, .bipush 6, 2, 23), (23, .isub, 1, 24), (24, .if_icmp .gt 1174, 3, 27), (27, .aload_n 0, 1, 28), (28, .iload_n 3, 1, 29), (29, .iaload, 1, 30), (30, .bipush 63, 2, 32), (32, .iand, 1, 33), (33, .tableswitch 1159 0 33 #[151, 214, 237, 250, 283, 332, 365, 398, 421, 444, 457, 480, 503, 536, 569, 602, 615, 648, 681, 714, 747, 780, 803, 846, 879, 912, 935, 958, 991, 1024, 1057, 1090, 1113, 1136], 151, 184), (1192, .iinc 3 6, 3, 1195), (1195, .goto (-1177), 3, 1198), (1198, .iconst 1, 1, 1199), (1199, .ireturn, 1, 1200)]
theorem jd_loop : qm_Db code jl_loop = true := by decide +kernel
theorem zl_offs : ∀ j, j < 34 → (#[151, 214, 237, 250, 283, 332, 365, 398, 421, 444, 457, 480, 503, 536, 569, 602, 615, 648, 681, 714, 747, 780, 803, 846, 879, 912, 935, 958, 991, 1024, 1057, 1090, 1113, 1136] : Array Int)[j]? = some (((zl_tg.getD j 0 : Nat) : Int) - 33) := by decide
theorem zl_sub {L : Nat} (hL : L ≤ 3072) : (Int32.ofNat L - 6).toInt = (L : Int) - 6 := by
  have h6 : (6 : Int32).toInt = 6 := rfl
  rw [Int32.toInt_sub, zi_n (by omega), h6]
  exact Int.bmod_eq_of_le (by omega) (by omega)
theorem zl_head (hK : zl_K X b L xs) (hn : n ≤ L) (h1 : n + 6 ≤ L → qm_J X 27 (zl_ρ X b n) [] σ) (h2 : qm_J X 1198 (zl_ρ X b n) [] σ) : qm_J X 18 (zl_ρ X b n) [] σ := by
  have hX := zl_x hK jd_loop
  have hL : L ≤ 3072 := hK.2.2
  refine qj_of (fun m => qb_iload_n hX 0 rfl rfl) ?_
  refine qj_of (fun m => qb_aload_n hX 1 rfl rfl) ?_
  have hs : qm_J X 21 (zl_ρ X b n) [.int (Int32.ofNat L), .int (Int32.ofNat n)] σ → qm_J X 20 (zl_ρ X b n) [.ref b, .int (Int32.ofNat n)] σ := fun h H locs ls hH hS hLs =>
    va_slen (qk_ex hX) (qk_by hX) hK.2.1.1 hK.2.1.2.1 hK.2.1.2.2 hS (qk_d hX (k := 2) rfl) (h H locs ls hH hS hLs)
  refine hs ?_
  refine qj_of (fun m => qb_bipush hX 3 6 rfl rfl) ?_
  refine qj_of (fun m => qb_isub hX 4 rfl) ?_
  have e1 := zl_sub hL
  have e2 : (Int32.ofNat n).toInt = (n : Int) := zi_n (by omega)
  intro H locs ls hH hS hLs
  refine lv_icmp_gt (tgt := 1198) (qk_ex hX) (qk_by hX) (qk_d hX (k := 5) rfl) (by omega) (fun _ => h2 H locs ls hH hS hLs) (fun c => h1 ?_ H locs ls hH hS hLs)
  have c2 : ¬ ((Int32.ofNat L - 6).toInt < (Int32.ofNat n).toInt) := fun q => c (Int32.lt_iff_toInt_lt.mpr q)
  rw [e1, e2] at c2
  omega
theorem zl_step (hK : zl_K X b L xs) (hG : qm_GI (qx_G X)) (hn : n + 6 ≤ L) (hr : iRel σ τ) (hI : Inv τ) (h : ∀ σ2 τ2, iRel σ2 τ2 → Inv τ2 → qm_J X 18 (zl_ρ X b (n + 6)) [] σ2) : qm_J X 27 (zl_ρ X b n) [] σ := by
  have hX := zl_x hK jd_loop
  have hL : L ≤ 3072 := hK.2.2
  have h1 : ∀ σ2 τ2, iRel σ2 τ2 → Inv τ2 → qm_J X 1192 (zl_ρ X b n) [] σ2 := fun σ2 τ2 r2 i2 => by
    refine qb_iinc (g := fun y => mP y) (κ := fun a s => a = Int32.ofNat n + 6 ∧ s = σ2) hX 12 (x := Int32.ofNat n) 6 (fun y => [some (.ref b), some (.ref (qx_ad X 0)), some (.ref (qx_ad X 367)), some (.int y)]) rfl rfl (by decide) rfl (fun _ => rfl) (fun y σ0 a σ' e1 e2 => ?_) σ2 (Int32.ofNat n + 6) σ2 rfl ⟨rfl, rfl⟩
    cases e1
    obtain ⟨rfl, rfl⟩ := e2
    refine qj_goto hX 13 rfl (tgt := 18) (by omega) ?_
    have h3 := h _ τ2 r2 i2
    have e : Int32.ofNat n + 6 = Int32.ofNat (n + 6) := (Int32.ofNat_add n 6).symm
    rw [e]
    exact h3
  refine qj_of (fun m => qb_aload_n hX 6 rfl rfl) ?_
  refine qj_of (fun m => qb_iload_n hX 7 rfl rfl) ?_
  refine zl_ald hK hX 8 rfl (by omega) ?_
  refine qj_of (fun m => qb_bipush hX 9 63 rfl rfl) ?_
  refine qj_of (fun m => qb_iand hX 10 rfl) ?_
  generalize xs n &&& 63 = w
  by_cases hw : w.toInt < 0 ∨ 33 < w.toInt
  · exact fun H locs ls hH hS hLs => lv_tableOut (tgt := 1192) (qk_ex hX) (qk_by hX) (qk_d hX (k := 11) rfl) hw (by omega) (h1 σ τ hr hI H locs ls hH hS hLs)
  · obtain ⟨j, hj⟩ : ∃ j : Nat, w.toInt = j := ⟨w.toInt.toNat, by omega⟩
    have hj34 : j < 34 := by omega
    have hb := zl_body hK hG hn hr hI h1 j hj34
    have ho := zl_offs j hj34
    exact fun H locs ls hH hS hLs => lv_tableIn (tgt := zl_tg.getD j 0) (off := ((zl_tg.getD j 0 : Nat) : Int) - 33) (qk_ex hX) (qk_by hX) (qk_d hX (k := 11) rfl) (by omega) (by omega) (by rw [show (w.toInt - 0).toNat = j by omega]; exact ho) (by omega) (hb H locs ls hH hS hLs)
theorem zl_loop (hK : zl_K X b L xs) (hG : qm_GI (qx_G X)) (hend : ∀ n σ, qm_J X 1198 (zl_ρ X b n) [] σ) : ∀ (k n : Nat) (σ : qm_Mem) (τ : iMem), L ≤ n + k → n ≤ L → iRel σ τ → Inv τ → qm_J X 18 (zl_ρ X b n) [] σ := by
  intro k
  induction k with
  | zero => exact fun n σ τ hk hn hr hI => zl_head hK hn (fun q => by omega) (hend n σ)
  | succ k ih => exact fun n σ τ hk hn hr hI => zl_head hK hn (fun q => zl_step hK hG q hr hI (fun σ2 τ2 r2 i2 => ih (n + 6) σ2 τ2 (by omega) q r2 i2)) (hend n σ)
end
theorem whole_start {p : Program} {e : Env} {s : State} {m : MethodId} {below : List Frame} {meth : Method} {c : Code} (l : Launch) (hflags : l.flags = flags0) {b L : Nat} {xs : Nat → Int32} (hL : L ≤ 3072) (C0 : lw_At p s m meth c b L xs) : W p l e room_1 s m #[Value.ref b] below meth c s.heap [] 0 0 (lw_Z below #[Value.ref b] s) (entryFrame m ([Value.ref b] : List Value).toArray 4) := by
  obtain ⟨hx, hb, hr, hml, hown, hts, hX, hbl, hlocks, hgv⟩ := id C0
  obtain ⟨D, cid, ax, hax, hG⟩ := zx_G hts hgv
  have hO := zx_O hts
  have hq : ∀ w ∈ qm_tb, w.before #[Value.ref b] s = true := fun w hw => hts w (List.mem_filter.mp hw).1
  have h0 := hG ax (fun i _ => rfl)
  rw [lg_entry_eq]
  have hok : qz_ok (p, l, e, room_1, s, m, #[Value.ref b], below, meth, c, (ax, D, cid), (fun q => s.heap.size ≤ q), 0, 0, lw_Z below #[Value.ref b] s) "ColumnsLevelledLaw" code 4 13 552 600000 7302250 jl_law :=
    ⟨⟨hx, hb, hml, hown, hq⟩, jd_law, hlocks, h0.1, h0.2, fun q h => h, rfl, rfl, ⟨rfl, rfl⟩, hO⟩
  have key := zl_made (b := b) (ad0 := fun _ => 0) (E0 := fun _ => .inr (0, [])) hok (fun ad => by
    intro H locs ls hP hD hS hLs
    obtain ⟨g1, g2⟩ := zl_GI (G := (ax, D, cid)) (sz := s.heap.size) hD hax
    have h1 := hG (zl_G (ax, D, cid) ad).1 (fun i hi => if_neg (by omega))
    have hok1 : qm_ok (p, l, e, room_1, s, m, #[Value.ref b], below, meth, c, zl_G (ax, D, cid) ad, (fun q => s.heap.size ≤ q), 405, 32456, lw_Z below #[Value.ref b] s) "ColumnsLevelledLaw" code 4 13 552 jl_law :=
      ⟨⟨hx, hb, hml, hown, hq⟩, jd_law, hlocks, h1.1, h1.2, g1, ⟨g2, fun q h => h⟩, rfl, rfl, Nat.le_of_ble_eq_true rfl, Nat.le_of_ble_eq_true rfl⟩
    have hK1 : zl_K (p, l, e, room_1, s, m, #[Value.ref b], below, meth, c, zl_G (ax, D, cid) ad, (fun q => s.heap.size ≤ q), 405, 32456, lw_Z below #[Value.ref b] s) b L xs :=
      ⟨⟨_, hok1⟩, ⟨hX, hbl, fun q => by have q : s.heap.size ≤ b := q; omega⟩, hL⟩
    have hX1 := zl_x hK1 jd_loop
    refine zl_loop hK1 g1 (fun n σ H locs ls hH hS hLs => ?_) L 0 qz_s0 qz_t0 (by omega) (by omega) qz_rel t0_Inv H locs ls (zl_H hP) hS hLs
    refine lv_iconst (v := 1) (qk_ex hX1) (qk_by hX1) (qk_d hX1 (k := 14) rfl) rfl ?_
    refine va_forget (fun q hq => hS.2.2 q hq) ?_
    refine W.widen (k := 600000) (n := 7302250) (Nat.le_of_ble_eq_true rfl) (Nat.le_of_ble_eq_true rfl) ?_
    exact lw_ret hx hb hr hlocks (qk_d hX1 (k := 15) rfl))
  exact key s.heap [] _ (fun k q h => (by cases h)) ⟨(fun i j p q h => (by cases h)), (fun k q h => (by cases h))⟩ va_S.rf (by show qm_L _ c.maxLocals _; rw [hml]; exact qm_entry [.ref b] 4 (fun v hv => by rw [List.mem_singleton.mp hv]; rfl) (Nat.le_of_ble_eq_true rfl))
