/-! ===== how even ===== -/
noncomputable def usC (R : aRun) (c : Int → Int) : Int := tx R (c 3) (c 4) + (if ol R (c 3) (c 4) + c 5 ≤ 0 then 0 else rs R 6) + sta R (c 3) (c 4) (c 5) (c 7) * rs R 5
section
variable {τ : iMem} {R : aRun}
theorem usC_in (hw : WF R) {C : Int → Int → Int} {i : Int} (h : okC R C i) : (0 ≤ C i 3 ∧ C i 3 ≤ C i 4 ∧ C i 4 ≤ np R) ∧ (0 ≤ tx R (C i 3) (C i 4) ∧ tx R (C i 3) (C i 4) ≤ 22000) ∧ (0 ≤ C i 5 ∧ C i 5 < 20) ∧ (0 ≤ ol R (C i 3) (C i 4) ∧ ol R (C i 3) (C i 4) ≤ 1800) ∧ (0 ≤ sta R (C i 3) (C i 4) (C i 5) (C i 7) ∧ sta R (C i 3) (C i 4) (C i 5) (C i 7) ≤ 1820) ∧ (0 ≤ C i 7 ∧ C i 7 ≤ 2000) ∧ (0 ≤ sta R (C i 3) (C i 4) (C i 5) (C i 7) * rs R 5 ∧ sta R (C i 3) (C i 4) (C i 5) (C i 7) * rs R 5 ≤ 5460) ∧ (0 ≤ usC R (C i) ∧ usC R (C i) ≤ 30000) ∧ st R (C i 3) (C i 4) (C i 5) (C i 7) = sta R (C i 3) (C i 4) (C i 5) (C i 7) := by
  obtain ⟨o1, o2, o3, o4, o5, o6, o7, o8, o9⟩ := h
  have hb := bg_in hw (C i 2 + 1)
  have hb2 := bg_in hw (C i 2)
  have a1 := tx_in hw (p := C i 3) (e := C i 4) (by omega) (by omega)
  have a2 := ol_in hw (p := C i 3) (e := C i 4) (by omega) (by omega)
  have hst := st_lo hw (p := C i 3) (e := C i 4) (c := C i 5) (h := C i 7) (by omega) (by omega) o5.1 o6.2 o7
  have a3 := lo_in hw (p := C i 3) (e := C i 4) (c := C i 5) (h := C i 7) (by omega) (by omega) o5.1 o5.2 o6.2
  have e8 : sta R (C i 3) (C i 4) (C i 5) (C i 7) = ol R (C i 3) (C i 4) + C i 5 - lo R (C i 3) (C i 4) (C i 5) (C i 7) := rfl
  have h5 := hw.2.1.2.2.2.2.2.1
  have h6 := hw.2.1.2.2.2.2.2.2.1
  have hs : 0 ≤ sta R (C i 3) (C i 4) (C i 5) (C i 7) ∧ sta R (C i 3) (C i 4) (C i 5) (C i 7) ≤ 1820 := by omega
  have hm : 0 ≤ sta R (C i 3) (C i 4) (C i 5) (C i 7) * rs R 5 := Int.mul_nonneg hs.1 (by omega)
  have hm2 : sta R (C i 3) (C i 4) (C i 5) (C i 7) * rs R 5 ≤ 1820 * 3 := Int.mul_le_mul hs.2 h5.2 (by omega) (by omega)
  have hr : 0 ≤ (if ol R (C i 3) (C i 4) + C i 5 ≤ 0 then 0 else rs R 6) ∧ (if ol R (C i 3) (C i 4) + C i 5 ≤ 0 then 0 else rs R 6) ≤ 9 := by split <;> omega
  refine ⟨by omega, a1, by omega, by omega, hs, by omega, by omega, ?_, by omega⟩
  unfold usC
  omega
theorem ip_cellG {pr ft fl ru ra sp : Nat} {nr i k : Int} {Q : Int → iMem → Prop} (hp : isPress pr ft fl ru ra sp nr) (h0 : 0 ≤ i) (h1 : i < τ pr 4) (h2 : i < nr) (k0 : 0 ≤ k) (k1 : k < 12) : ip (iz_Press_cell pr i k) Q τ ↔ Q (τ (ra + 1 + i.toNat) k) τ := by
  have hrow := pr_row hp h0 h2
  unfold iz_Press_cell
  rw [pr_3 hp, pr_l hp, ip_ifF (by omega), ip_ifF (by omega), ip_B, ip_Gt, ip_ifF (by omega), ip_B, ip_Lr, pr_l hp]
  refine (and_iff_right ⟨by omega, by omega⟩).trans ?_
  rw [hrow.1, ip_B, ip_at k0 (by rw [hrow.2]; exact k1), ip_P]
theorem ip_usedG {pr ft fl ru ra sp : Nat} {nr i : Int} {P : aP} {Q : Int → iMem → Prop} (hp : isPress pr ft fl ru ra sp nr) (hw : WF R) (hR : RunC τ ru R) (hr : isRun ru) (hP : PrC R pr ra nr τ P) (hk : okC R (pC P) i) (h0 : 0 ≤ i) (h1 : i < pcn P) (h2 : i < nr) : ip (iz_Press_used pr i) Q τ ↔ Q (usC R (pC P i)) τ := by
  have hu := usC_in hw hk
  obtain ⟨r0, r1, r2, r3, r4, r5, r6, r7, r8, r9⟩ := hP.2 i h0 h1 h2
  have h4 : i < τ pr 4 := by rw [hP.1.1]; exact h1
  have h5 := hw.2.1.2.2.2.2.2.1
  have h6 := hw.2.1.2.2.2.2.2.2.1
  have hrr : 0 ≤ (if ol R (pC P i 3) (pC P i 4) + pC P i 5 ≤ 0 then 0 else rs R 6) ∧ (if ol R (pC P i 3) (pC P i 4) + pC P i 5 ≤ 0 then 0 else rs R 6) ≤ 9 := by split <;> omega
  unfold iz_Press_used
  rw [ip_B, ip_cellG hp h0 h4 h2 (by omega) (by omega), r7, ip_B, ip_cellG hp h0 h4 h2 (by omega) (by omega), r6, ip_B, ip_A]
  refine (and_iff_right ⟨by omega, by omega⟩).trans ?_
  rw [ip_ifP, ip_B, pr_0 hp]
  have key : ∀ f : Int → iM Int, ip (if (if ol R (pC P i 3) (pC P i 4) + pC P i 5 ≤ 0 then (0 : Int) else 1) = 0 then iP 0 else iB (iz_Run_setting ru 6) fun x5 => iP x5) (fun a τ' => ip (f a) Q τ') τ ↔ ip (f (if ol R (pC P i 3) (pC P i 4) + pC P i 5 ≤ 0 then 0 else rs R 6)) Q τ := by
    intro f
    by_cases z : ol R (pC P i 3) (pC P i 4) + pC P i 5 ≤ 0
    · rw [if_pos z, if_pos z, ip_ifT rfl, ip_P]
    · rw [if_neg z, if_neg z, ip_ifF (by omega), ip_B, ip_settingC hr hR (by omega) (by omega), ip_P]
  rw [key, ip_B, ip_cellG hp h0 h4 h2 (by omega) (by omega), r5, ip_B, ip_cellG hp h0 h4 h2 (by omega) (by omega), r8, ip_B, ip_settingC hr hR (by omega) (by omega), ip_A, ip_A, ip_A]
  refine (and_iff_right ⟨by omega, by omega⟩).trans ((and_iff_right ⟨by omega, by omega⟩).trans ((and_iff_right ⟨by omega, by omega⟩).trans ?_))
  rw [ip_P]
  exact Iff.rfl
theorem ip_looseG {i : Int} {P : aP} {Q : Int → iMem → Prop} (hw : WF R) (hx : Mx R τ) (hP : colM τ i (pC P i)) (hk : okC R (pC P) i) (h0 : 0 ≤ i) (h1 : i < 300) : ip (iz_Model_looseOf 367 i) Q τ ↔ Q (pC P i 7 - usC R (pC P i)) τ := by
  have hu := usC_in hw hk
  obtain ⟨m0, m1, m2, m3, m4, m5, m6, m7, m8⟩ := hP
  have h5 := hw.2.1.2.2.2.2.2.1
  have h6 := hw.2.1.2.2.2.2.2.2.1
  have hrr : 0 ≤ (if ol R (pC P i 3) (pC P i 4) + pC P i 5 ≤ 0 then 0 else rs R 6) ∧ (if ol R (pC P i 3) (pC P i 4) + pC P i 5 ≤ 0 then 0 else rs R 6) ≤ 9 := by split <;> omega
  have hlin : ∀ f : Int → iM Int, ip (iz_Model_linesIn 367 i) (fun a τ' => ip (f a) Q τ') τ ↔ ip (f (sta R (pC P i 3) (pC P i 4) (pC P i 5) (pC P i 7))) Q τ := by
    intro f
    unfold iz_Model_linesIn
    simp (disch := omega) only [ip_B, ip_Ld, m_26, m_27, m_28, m_30, l_391, l_392, l_393, l_395, m3, m4, m5, m7]
    refine (and_iff_right (by omega)).trans ((and_iff_right (by omega)).trans ((and_iff_right (by omega)).trans ((and_iff_right (by omega)).trans ?_)))
    rw [ip_standsOf hw hx.1 hx.2 (by omega) (by omega) (by omega) (by omega) (by omega) (by omega) (by omega), ip_P, hu.2.2.2.2.2.2.2.2]
  unfold iz_Model_looseOf iz_Model_isNoted
  rw [ip_B, ip_Ld, m_30, l_395]
  refine (and_iff_right ⟨by omega, by omega⟩).trans ?_
  rw [m7, ip_B, ip_Ld, m_26, l_391]
  refine (and_iff_right ⟨by omega, by omega⟩).trans ?_
  rw [m3, ip_B, ip_Ld, m_27, l_392]
  refine (and_iff_right ⟨by omega, by omega⟩).trans ?_
  rw [m4, ip_B, ip_textOf hw hx.1 hx.2 hu.1.1 hu.1.2.1 hu.1.2.2, ip_B, ip_B, ip_Ld, l_391]
  refine (and_iff_right ⟨by omega, by omega⟩).trans ?_
  rw [m3, ip_B, ip_Ld, l_392]
  refine (and_iff_right ⟨by omega, by omega⟩).trans ?_
  rw [m4, ip_B, ip_ownOf hw hx.2 hu.1.1 hu.1.2.1 hu.1.2.2, ip_B, ip_Ld, m_28, l_393]
  refine (and_iff_right ⟨by omega, by omega⟩).trans ?_
  rw [m5, ip_A]
  refine (and_iff_right ⟨by omega, by omega⟩).trans ?_
  rw [ip_ifP, ip_B]
  have key : ∀ f : Int → iM Int, ip (if (if ol R (pC P i 3) (pC P i 4) + pC P i 5 ≤ 0 then (0 : Int) else 1) = 0 then iP 0 else iB (iLd (qm_rf 367 0) 6) fun x7 => iP x7) (fun a τ' => ip (f a) Q τ') τ ↔ ip (f (if ol R (pC P i 3) (pC P i 4) + pC P i 5 ≤ 0 then 0 else rs R 6)) Q τ := by
    intro f
    by_cases z : ol R (pC P i 3) (pC P i 4) + pC P i 5 ≤ 0
    · rw [if_pos z, if_pos z, ip_ifT rfl, ip_P]
    · rw [if_neg z, if_neg z, ip_ifF (by omega), ip_B, ip_Ld, m_0, l_368]
      refine (and_iff_right ⟨by omega, by omega⟩).trans ?_
      rw [rm_s hx.1 (k := 6) (by omega) (by omega), ip_P]
  rw [key, ip_B, ip_Ld, m_0, l_368]
  refine (and_iff_right ⟨by omega, by omega⟩).trans ?_
  have hcomm : rs R 5 * sta R (pC P i 3) (pC P i 4) (pC P i 5) (pC P i 7) = sta R (pC P i 3) (pC P i 4) (pC P i 5) (pC P i 7) * rs R 5 := Int.mul_comm _ _
  rw [rm_s hx.1 (k := 5) (by omega) (by omega), ip_B, hlin, ip_A, ip_A, ip_A, ip_A, hcomm]
  refine (and_iff_right ⟨by omega, by omega⟩).trans ((and_iff_right ⟨by omega, by omega⟩).trans ((and_iff_right ⟨by omega, by omega⟩).trans ((and_iff_right ⟨by omega, by omega⟩).trans ?_)))
  rw [ip_P]
  have : pC P i 7 - tx R (pC P i 3) (pC P i 4) - (if ol R (pC P i 3) (pC P i 4) + pC P i 5 ≤ 0 then 0 else rs R 6) - sta R (pC P i 3) (pC P i 4) (pC P i 5) (pC P i 7) * rs R 5 = pC P i 7 - usC R (pC P i) := by unfold usC; omega
  rw [this]
/-- page and free don't matter -/
theorem lvlN_alike {s h : Int} {P P' : aP} (h1 : pcn P = pcn P') (h2 : pat P = pat P') (h3 : pca P = pca P') (h4 : ∀ j, 0 ≤ j → j < pcn P → ∀ f, f = 3 ∨ f = 4 ∨ f = 5 ∨ f = 7 → pC P j f = pC P' j f) : ∀ i : Nat, pcn (lvlN R s h i P) = pcn (lvlN R s h i P') ∧ pat (lvlN R s h i P) = pat (lvlN R s h i P') ∧ pca (lvlN R s h i P) = pca (lvlN R s h i P') ∧ ∀ j, 0 ≤ j → j < pcn (lvlN R s h i P) → ∀ f, f = 3 ∨ f = 4 ∨ f = 5 ∨ f = 7 → pC (lvlN R s h i P) j f = pC (lvlN R s h i P') j f := by
  intro i
  induction i with
  | zero => exact ⟨h1, h2, h3, h4⟩
  | succ i ih =>
    obtain ⟨g1, g2, g3, g4⟩ := ih
    rw [lvlN_s, lvlN_s]
    refine ⟨?_, ?_, ?_, fun j j0 j1 f hf => ?_⟩
    · show pcn (lvlN R s h i P) + 1 = pcn (lvlN R s h i P') + 1
      omega
    · show lateL R s (pat (lvlN R s h i P)) (pca (lvlN R s h i P)) h ((rs R 0).toNat - 1 - i) = lateL R s (pat (lvlN R s h i P')) (pca (lvlN R s h i P')) h ((rs R 0).toNat - 1 - i)
      rw [g2, g3]
    · show lo R (pat (lvlN R s h i P)) (lateL R s (pat (lvlN R s h i P)) (pca (lvlN R s h i P)) h ((rs R 0).toNat - 1 - i)) (pca (lvlN R s h i P)) h = lo R (pat (lvlN R s h i P')) (lateL R s (pat (lvlN R s h i P')) (pca (lvlN R s h i P')) h ((rs R 0).toNat - 1 - i)) (pca (lvlN R s h i P')) h
      rw [g2, g3]
    · have j1 : j < pcn (lvlN R s h i P) + 1 := j1
      by_cases c : j = pcn (lvlN R s h i P)
      · have e1 : ∀ lv to, pC (putP R s i to h lv (lvlN R s h i P)) j f = (if f = 0 then ppg (lvlN R s h i P) else if f = 1 then (i : Int) else if f = 2 then s else if f = 3 then pat (lvlN R s h i P) else if f = 4 then to else if f = 5 then pca (lvlN R s h i P) else if f = 6 then rs R 1 - pfr (lvlN R s h i P) else if f = 7 then h else lv) := fun lv to => if_pos c
        have e2 : ∀ lv to, pC (putP R s i to h lv (lvlN R s h i P')) j f = (if f = 0 then ppg (lvlN R s h i P') else if f = 1 then (i : Int) else if f = 2 then s else if f = 3 then pat (lvlN R s h i P') else if f = 4 then to else if f = 5 then pca (lvlN R s h i P') else if f = 6 then rs R 1 - pfr (lvlN R s h i P') else if f = 7 then h else lv) := fun lv to => if_pos (c.trans g1)
        rw [e1, e2, g2, g3]
        rcases hf with rfl | rfl | rfl | rfl
        · rfl
        · rfl
        · rfl
        · rfl
      · have e1 : ∀ lv to, pC (putP R s i to h lv (lvlN R s h i P)) j f = pC (lvlN R s h i P) j f := fun lv to => if_neg c
        have e2 : ∀ lv to, pC (putP R s i to h lv (lvlN R s h i P')) j f = pC (lvlN R s h i P') j f := fun lv to => if_neg (fun q => c (q.trans g1.symm))
        rw [e1, e2]
        exact g4 j j0 (by omega) f hf
noncomputable def dfN (f : Int → Int) : Nat → Int × Int
  | 0 => (100000, 0)
  | n + 1 => (if (dfN f n).1 ≤ f n then (dfN f n).1 else f n, if f n ≤ (dfN f n).2 then (dfN f n).2 else f n)
theorem dfN_in {f : Int → Int} {m : Int} (hf : ∀ i, 0 ≤ i → i < m → 0 ≤ f i ∧ f i ≤ 30000) : ∀ n : Nat, (n : Int) ≤ m → (0 ≤ (dfN f n).1 ∧ (dfN f n).1 ≤ 100000) ∧ (0 ≤ (dfN f n).2 ∧ (dfN f n).2 ≤ 30000) := by
  intro n
  induction n with
  | zero => intro _; exact ⟨⟨by show (0 : Int) ≤ 100000; omega, Int.le_refl _⟩, Int.le_refl _, by show (0 : Int) ≤ 30000; omega⟩
  | succ n ih =>
    intro h
    have ih := ih (by omega)
    have := hf (n : Int) (by omega) (by omega)
    show (0 ≤ (if (dfN f n).1 ≤ f n then (dfN f n).1 else f n) ∧ (if (dfN f n).1 ≤ f n then (dfN f n).1 else f n) ≤ 100000) ∧ (0 ≤ (if f n ≤ (dfN f n).2 then (dfN f n).2 else f n) ∧ (if f n ≤ (dfN f n).2 then (dfN f n).2 else f n) ≤ 30000)
    omega
/-- the columns LEVELLED alone -/
noncomputable def evP (R : aRun) (s : Int) : aP := lvl R s (lst R s (bg R s) 0 2000) (0, 0, rs R 1, bg R s, 0, fun _ _ => 0)
noncomputable def evV (R : aRun) (s : Int) : Int := if 0 ≤ s ∧ s < ns R then (if lst R s (bg R s) 0 2000 = -2 then -2 else (dfN (fun i => usC R (pC (evP R s) i)) (rs R 0).toNat).2 - (dfN (fun i => usC R (pC (evP R s) i)) (rs R 0).toNat).1) else -1
theorem ev_ok (hw : WF R) {s a b : Int} (h0 : 0 ≤ s) (h1 : s < ns R) (ha : 0 ≤ a ∧ a ≤ 39) (hb : 0 ≤ b ∧ b ≤ 400) (hl : lst R s (bg R s) 0 2000 ≠ -2) : okP R s (0, a, b, bg R s, 0, fun _ _ => 0) ∧ (0 ≤ lst R s (bg R s) 0 2000 ∧ lst R s (bg R s) 0 2000 ≤ 2000) ∧ 0 ≤ be R s (lst R s (bg R s) 0 2000) (rs R 0).toNat (bg R s) ∧ okP R s (lvl R s (lst R s (bg R s) 0 2000) (0, a, b, bg R s, 0, fun _ _ => 0)) ∧ pcn (lvl R s (lst R s (bg R s) 0 2000) (0, a, b, bg R s, 0, fun _ _ => 0)) = rs R 0 := by
  have hbs := bg_step hw s
  have hS := hw.2.1.1
  have hk : okP R s (0, a, b, bg R s, 0, fun _ _ => 0) := ⟨Int.le_refl _, ha, hb, ⟨Int.le_refl _, hbs.2.1⟩, en_begin h0 h1, ⟨Int.le_refl _, by show (0 : Int) < 20; omega⟩, fun i i0 i1 => by have i1 : i < 0 := i1; omega⟩
  rcases lst_or hw (s := s) (p := bg R s) (c := 0) (top := 2000) (by omega) (by omega) (by omega) with h | h
  · exact absurd h.1 hl
  · have l := lvlN_ok hw h0 h1 hk h.1.1.1 h.1.1.2 h.1.2.1 (rs R 0).toNat (Nat.le_refl _)
    refine ⟨hk, ⟨h.1.1.1, h.2⟩, h.1.2.1, l.1, ?_⟩
    have := l.2.2.1
    have e : pcn ((0, a, b, bg R s, 0, fun _ _ => 0) : aP) = 0 := rfl
    rw [e] at this
    show pcn (lvlN R s _ (rs R 0).toNat _) = rs R 0
    omega
theorem ev_us {s a b i : Int} (i0 : 0 ≤ i) (i1 : i < pcn (evP R s)) : usC R (pC (lvl R s (lst R s (bg R s) 0 2000) (0, a, b, bg R s, 0, fun _ _ => 0)) i) = usC R (pC (evP R s) i) := by
  have h := (lvlN_alike (R := R) (s := s) (h := lst R s (bg R s) 0 2000) (P := (0, 0, rs R 1, bg R s, 0, fun _ _ => 0)) (P' := (0, a, b, bg R s, 0, fun _ _ => 0)) rfl rfl rfl (fun j j0 j1 f _ => rfl) (rs R 0).toNat).2.2.2 i i0 i1
  have e3 := h 3 (by omega)
  have e4 := h 4 (by omega)
  have e5 := h 5 (by omega)
  have e7 := h 7 (by omega)
  show usC R (pC (lvlN R s _ (rs R 0).toNat _) i) = usC R (pC (lvlN R s _ (rs R 0).toNat _) i)
  unfold usC
  rw [e3, e4, e5, e7]
end
