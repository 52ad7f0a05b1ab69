/-! ===== what is asked of what is poured ===== -/
theorem tS_8 {R : aRun} (hw : WF R) : tS R (ns R) ≤ 8 := by
  have key : ∀ n : Nat, (n : Int) ≤ rn R → 2 * tS R (sc R n) + (if bg R (sc R n) < fs R n then 1 else 0) ≤ n := by
    intro n
    induction n with
    | zero =>
      intro _
      rw [show ((0 : Nat) : Int) = 0 from rfl, sc_0, fs_0, bg_0]
      exact Int.le_refl _
    | succ n ih =>
      intro hn
      have ih := ih (by omega)
      have hb := hw.2.2.1 n (by omega) (by omega)
      have hs := sc_in (R := R) (b := (n : Int)) (by omega)
      rw [show ((n + 1 : Nat) : Int) = (n : Int) + 1 by omega, fs_s (by omega), sc_s (by omega)]
      by_cases c : rc R n 0 = 4
      · have hz : rc R n 1 = 0 := (hb.2.2.1 c).1
        have eb := bg_at (R := R) (b := (n : Int)) (by omega) (by omega) c
        have et : tS R (sc R n + 1) = tS R (sc R n) + (if bg R (sc R n) < bg R (sc R n + 1) then 1 else 0) := sI_s hs.1
        rw [if_pos c, et, eb, hz, Int.add_zero, if_neg (show ¬ fs R n < fs R n by omega)]
        by_cases d : bg R (sc R n) < fs R n
        · rw [if_pos d] at ih ⊢; omega
        · rw [if_neg d] at ih ⊢; omega
      · rw [if_neg c, Int.add_zero]
        have : (if bg R (sc R n) < fs R n + rc R n 1 then (1 : Int) else 0) ≤ 1 := by split <;> omega
        have : 0 ≤ (if bg R (sc R n) < fs R n then (1 : Int) else 0) := by split <;> omega
        omega
  have hn0 := hw.1.1
  have hn16 := hw.1.2
  by_cases z : rn R ≤ 0
  · have : ns R = 0 := by unfold ns; rw [if_pos z]
    rw [this]
    show (0 : Int) ≤ 8
    omega
  · have h := key (rn R).toNat (by omega)
    rw [show (((rn R).toNat : Nat) : Int) = rn R by omega] at h
    have hs := sc_in (R := R) hn0
    have en : ns R = sc R (rn R) + 1 := by unfold ns; rw [if_neg z]
    have et : tS R (sc R (rn R) + 1) = tS R (sc R (rn R)) + (if bg R (sc R (rn R)) < bg R (sc R (rn R) + 1) then 1 else 0) := sI_s hs.1
    have eb : bg R (sc R (rn R) + 1) = np R := bg_end hn0 (by omega)
    rw [en, et, eb]
    unfold np
    by_cases d : bg R (sc R (rn R)) < fs R (rn R)
    · rw [if_pos d] at h ⊢; omega
    · rw [if_neg d] at h ⊢; omega
theorem pou_240 {R : aRun} (hw : WF R) : 0 ≤ pcn (pou R).1 ∧ pcn (pou R).1 ≤ 240 := by
  have h := pou_ok hw
  have h8 := tS_8 hw
  have h1 := h.2.2.2.1
  have h2 := h.1.2.1
  exact ⟨h.1.1, by omega⟩
def InvB (τ : iMem) : Prop := FlZ 326 τ ∧ FtL 343 τ ∧ (0 ≤ τ 322 5 ∧ τ 322 5 ≤ 39) ∧ (0 ≤ τ 322 6 ∧ τ 322 6 ≤ 400)
def InvX (R : aRun) (τ : iMem) : Prop := WF R ∧ InvA R τ ∧ InvB τ ∧ RunM τ 368 0 R
theorem InvB.frame {τ τ' : iMem} (h : InvB τ) (hf : ∀ a k, (a = 322 ∧ (k = 5 ∨ k = 6)) ∨ (326 ≤ a ∧ a ≤ 351) → τ' a k = τ a k) : InvB τ' := by
  refine ⟨?_, h.2.1.frame (hf _ _ (by omega)) (fun k => hf _ _ (by omega)), ?_⟩
  · have h1 := h.1
    unfold FlZ at *
    rw [hf _ _ (by omega), hf _ _ (by omega), hf _ _ (by omega)]
    exact h1
  · rw [hf 322 5 (by omega), hf 322 6 (by omega)]
    exact h.2.2
/-- what questions write -/
def mz (a : Nat) (k : Int) : Prop := (a = 367 ∧ (k = 13 ∨ k = 16 ∨ (32 ≤ k ∧ k ≤ 37))) ∨ (372 ≤ a ∧ a ≤ 402)
def zw (a : Nat) (k : Int) : Prop := qw a k ∨ (322 ≤ a ∧ a ≤ 366) ∨ mz a k
theorem InvX.m {R : aRun} {τ τ' : iMem} (h : InvX R τ) (hf : ∀ a k, ¬ mz a k → τ' a k = τ a k) : InvX R τ' :=
  ⟨h.1, h.2.1.frame (fun a k hk => hf a k (by unfold mz; omega)), h.2.2.1.frame (fun a k _ => hf a k (by unfold mz; omega)), h.2.2.2.frame (fun k => hf _ _ (by unfold mz; omega))⟩
theorem InvX.c {R : aRun} {τ τ' : iMem} (h : InvX R τ) (hA : InvA R τ') (hf : ∀ a k, ¬ qw a k → τ' a k = τ a k) : InvX R τ' :=
  ⟨h.1, hA, h.2.2.1.frame (fun a k _ => hf a k (by unfold qw; omega)), h.2.2.2.frame (fun k => hf _ _ (by unfold qw; omega))⟩
/-- a question answered alike -/
def two (R : aRun) (m n : iM Int) (τ : iMem) : Prop := ip m (fun r τ1 => ip n (fun r' τ2 => r' = r ∧ InvX R τ2 ∧ ∀ a k, ¬ zw a k → τ2 a k = τ a k) τ1) τ
section
variable {τ : iMem} {R : aRun}
/-- what is poured on both sides -/
theorem two_poured (hI : InvX R τ) {m : Nat → iM Int} {n : Int → iM Int} {Fn : Int → Prop}
    (hm : ∀ (τ1 : iMem) (Q : Int → iMem → Prop), Cx R 70 53 1 τ1 → PoC R 52 79 320 240 τ1 (pou R) → (∀ r, Fn r → Q r τ1) → ip (m 52) Q τ1)
    (hn : ∀ (τ1 : iMem) (Q : Int → iMem → Prop), Mx R τ1 → PoM R τ1 (pou R) → (∀ r, Fn r → Q r τ1) → ip (n (ans R)) Q τ1)
    (h1 : ∀ r r', Fn r → Fn r' → r' = r) : two R (iB (iK 13 (iz_Top_pouredNow 0)) m) (iB (iz_Model_pours 367) n) τ := by
  unfold two
  rw [ip_B, ip_K]
  refine ip_pouredNow hI.1 hI.2.1 (fun τ1 w1 w2 w3 w4 => ⟨t_k, ?_⟩)
  refine hm τ1 _ w2 w3 (fun r hr => ?_)
  have hX := hI.c w1 w4
  rw [ip_B]
  refine ip_pours hX.1 hX.2.2.2 (fun τ2 v1 v2 v3 => ?_)
  refine hn τ2 _ v1 v2 (fun r' hr' => ?_)
  have v4 : ∀ a k, ¬ mz a k → τ2 a k = τ1 a k := fun a k h => v3 a k (by unfold mz at h; unfold mlw pmw; omega)
  exact ⟨h1 r r' hr hr', hX.m v4, fun a k h => (v4 a k (fun z => h (Or.inr (Or.inr z)))).trans (w4 a k (fun z => h (Or.inl z)))⟩
theorem two_pour (hI : InvX R τ) : two R (iz_Top_pour 0) (iz_Model_pour 367) τ := by
  unfold iz_Top_pour iz_Model_pour
  refine two_poured (Fn := fun r => r = ans R) hI (fun τ1 Q w1 w2 hQ => ?_) (fun τ1 Q w1 w2 hQ => ?_) (fun r r' e e' => e'.trans e.symm)
  · rw [ip_B]
    refine ip_answer isPress_52 hI.1 w1 w2 ?_
    rw [ip_P]
    exact hQ _ rfl
  · rw [ip_P]
    exact hQ _ rfl
/-- a cell of a column, as told -/
noncomputable def cf (R : aRun) (i k : Int) : Int :=
  if k = 0 then pC (pou R).1 i 0 else if k = 1 then pC (pou R).1 i 1 else if k = 2 then pC (pou R).1 i 2 else if k = 3 then pC (pou R).1 i 3 else if k = 4 then pC (pou R).1 i 4
  else if k = 5 then tx R (pC (pou R).1 i 3) (pC (pou R).1 i 4) else if k = 6 then pC (pou R).1 i 5 else if k = 7 then ol R (pC (pou R).1 i 3) (pC (pou R).1 i 4)
  else if k = 8 then sta R (pC (pou R).1 i 3) (pC (pou R).1 i 4) (pC (pou R).1 i 5) (pC (pou R).1 i 7) else if k = 9 then pC (pou R).1 i 6 else if k = 10 then pC (pou R).1 i 7 else pC (pou R).1 i 8
theorem ip_pcell {i k : Int} {Q : Int → iMem → Prop} (hw : WF R) (hP : PoC R 52 79 320 240 τ (pou R)) (h0 : 0 ≤ i) (h1 : i < pcn (pou R).1) (k0 : 0 ≤ k) (k1 : k < 12) : ip (iz_Press_cell 52 i k) Q τ ↔ Q (cf R i k) τ := by
  have h240 := pou_240 hw
  have hrow := pr_row isPress_52 (i := i) h0 (by omega)
  have hr := hP.2.1 i h0 h1 (by omega)
  unfold iz_Press_cell
  rw [pr_3 isPress_52, pr_l isPress_52, ip_ifF (by omega), ip_ifF (by omega), ip_B, ip_Gt, hP.1.1, ip_ifF (by omega), ip_B, ip_Lr, pr_l isPress_52]
  refine (and_iff_right ⟨by omega, by omega⟩).trans ?_
  rw [hrow.1, ip_B, ip_at k0 (by rw [hrow.2]; exact k1), ip_P]
  have e : τ (79 + 1 + i.toNat) k = cf R i k := by
    obtain ⟨r0, r1, r2, r3, r4, r5, r6, r7, r8, r9, r10, r11⟩ := hr
    have hc : k = 0 ∨ k = 1 ∨ k = 2 ∨ k = 3 ∨ k = 4 ∨ k = 5 ∨ k = 6 ∨ k = 7 ∨ k = 8 ∨ k = 9 ∨ k = 10 ∨ k = 11 := by omega
    rcases hc with rfl | rfl | rfl | rfl | rfl | rfl | rfl | rfl | rfl | rfl | rfl | rfl
    · exact r0
    · exact r1
    · exact r2
    · exact r3
    · exact r4
    · exact r5
    · exact r6
    · exact r7
    · exact r8
    · exact r9
    · exact r10
    · exact r11
  rw [e]
theorem okC_at (hw : WF R) {i : Int} (h0 : 0 ≤ i) (h1 : i < pcn (pou R).1) : okC R (pC (pou R).1) i := (pou_ok hw).1.2.2.2 i h0 h1
/-- the other one's lines in a column -/
theorem ip_MlinesIn {i : Int} {Q : Int → iMem → Prop} (hw : WF R) (hx : Mx R τ) (hP : PoM R τ (pou R)) (h0 : 0 ≤ i) (h1 : i < pcn (pou R).1) : ip (iz_Model_linesIn 367 i) Q τ ↔ Q (cf R i 8) τ := by
  have h240 := pou_240 hw
  obtain ⟨o1, o2, o3, o4, o5, o6, o7, o8, o9⟩ := okC_at hw h0 h1
  have hb := bg_in hw (pC (pou R).1 i 2 + 1)
  have hb2 := bg_in hw (pC (pou R).1 i 2)
  obtain ⟨c0, c1, c2, c3, c4, c5, c6, c7, c8⟩ := hP.2.1 i h0 h1
  have hst := st_lo hw (p := pC (pou R).1 i 3) (e := pC (pou R).1 i 4) (c := pC (pou R).1 i 5) (h := pC (pou R).1 i 7) (by omega) (by omega) o5.1 o6.2 o7
  unfold iz_Model_linesIn
  simp (disch := omega) only [ip_B, ip_Ld, m_26, m_27, m_28, m_30, l_391, l_392, l_393, l_395, c3, c4, c5, c7]
  refine (and_iff_right (by omega)).trans ((and_iff_right (by omega)).trans ((and_iff_right (by omega)).trans ((and_iff_right (by omega)).trans ?_)))
  rw [ip_standsOf hw hx.1 hx.2 (by omega) o4.2.1 (by omega) o5.1 (by omega) o6.1 o6.2, ip_P]
  have e : st R (pC (pou R).1 i 3) (pC (pou R).1 i 4) (pC (pou R).1 i 5) (pC (pou R).1 i 7) = cf R i 8 := by
    show _ = sta R _ _ _ _
    unfold sta
    omega
  rw [e]
theorem two_column (hI : InvX R τ) (i k : Int) : two R (iz_Top_column 0 i k) (iz_Model_column 367 i k) τ := by
  have hw := hI.1
  have h240 := pou_240 hw
  unfold iz_Top_column iz_Model_column
  refine two_poured (Fn := fun r => r = if i = -1 ∧ k = 0 then pcn (pou R).1 else if (0 ≤ i ∧ i < pcn (pou R).1) ∧ 0 ≤ k ∧ k < 12 then cf R i k else -1) hI (fun τ1 Q w1 w2 hQ => ?_) (fun τ1 Q w1 w2 hQ => ?_) (fun r r' e e' => e'.trans e.symm)
  · have hQ := hQ _ rfl
    rw [ip_B]
    by_cases c0 : i = -1 ∧ k = 0
    · rw [if_pos c0] at hQ
      rw [ip_ifF (by omega), ip_ifF (by omega), ip_B, ip_Gt, w2.1.1, ip_P]
      simp only [Sum.elim_inr, ip_P]
      exact hQ
    · rw [if_neg c0] at hQ
      have rest : ip (if i < 0 then iP (-1) else iB (iGt 52 4) fun x4 => if x4 ≤ i then iP (-1) else if k < 0 then iP (-1) else if k < 12 then iB (iz_Press_cell 52 i k) fun x5 => iP x5 else iP (-1)) Q τ1 := by
        by_cases c1 : i < 0
        · rw [if_neg (by omega)] at hQ
          rw [ip_ifT c1, ip_P]; exact hQ
        · rw [ip_ifF c1, ip_B, ip_Gt, w2.1.1]
          by_cases c2 : pcn (pou R).1 ≤ i
          · rw [if_neg (by omega)] at hQ
            rw [ip_ifT c2, ip_P]; exact hQ
          · rw [ip_ifF c2]
            by_cases c3 : k < 0
            · rw [if_neg (by omega)] at hQ
              rw [ip_ifT c3, ip_P]; exact hQ
            · rw [ip_ifF c3]
              by_cases c4 : k < 12
              · rw [if_pos (by omega)] at hQ
                rw [ip_ifT c4, ip_B, ip_pcell hw w2 (by omega) (by omega) (by omega) c4, ip_P]
                exact hQ
              · rw [if_neg (by omega)] at hQ
                rw [ip_ifF c4, ip_P]; exact hQ
      by_cases d1 : i = -1
      · rw [ip_ifF (by omega), ip_ifT (by omega), ip_P]
        simp only [Sum.elim_inl]
        exact rest
      · rw [ip_ifT d1, ip_P]
        simp only [Sum.elim_inl]
        exact rest
  · have hQ := hQ _ rfl
    rw [ip_B]
    by_cases c0 : i = -1 ∧ k = 0
    · rw [if_pos c0] at hQ
      rw [ip_ifF (by omega), ip_ifF (by omega), ip_B, ip_Gt, w2.1.1, ip_P]
      simp only [Sum.elim_inr, ip_P]
      exact hQ
    · rw [if_neg c0] at hQ
      have lift : ∀ m : iM Int, ip m Q τ1 → ip (if ¬ i = -1 then iP (Sum.inl ()) else if ¬ k = 0 then iP (Sum.inl ()) else iB (iGt 367 32) fun x3 => iP (Sum.inr x3)) (fun (a : Unit ⊕ Int) τ' => ip (Sum.elim (fun s2 => m) iP a) Q τ') τ1 := by
        intro m hm
        by_cases d1 : i = -1
        · rw [ip_ifF (by omega), ip_ifT (by omega), ip_P]
          simp only [Sum.elim_inl]
          exact hm
        · rw [ip_ifT d1, ip_P]
          simp only [Sum.elim_inl]
          exact hm
      refine lift _ ?_
      rw [ip_B, ip_Gt, w2.1.1, ip_A]
      refine ⟨⟨by omega, by omega⟩, ?_⟩
      rw [ip_B, ip_in]
      by_cases c1 : i < 0 ∨ pcn (pou R).1 - 1 < i
      · rw [if_neg (by omega)] at hQ
        rw [if_pos c1, ip_ifF (by omega), ip_P]
        exact hQ
      · obtain ⟨o1, o2, o3, o4, o5, o6, o7, o8, o9⟩ := okC_at hw (i := i) (by omega) (by omega)
        have hb := bg_in hw (pC (pou R).1 i 2 + 1)
        have hb2 := bg_in hw (pC (pou R).1 i 2)
        obtain ⟨m0, m1, m2, m3, m4, m5, m6, m7, m8⟩ := w2.2.1 i (by omega) (by omega)
        rw [if_neg c1, ip_ifT (by omega)]
        by_cases c2 : 0 ≤ k ∧ k < 12
        · rw [if_pos (by omega)] at hQ
          have hc : k = 0 ∨ k = 1 ∨ k = 2 ∨ k = 3 ∨ k = 4 ∨ k = 5 ∨ k = 6 ∨ k = 7 ∨ k = 8 ∨ k = 9 ∨ k = 10 ∨ k = 11 := by omega
          rcases hc with rfl | rfl | rfl | rfl | rfl | rfl | rfl | rfl | rfl | rfl | rfl | rfl
          · rw [ip_ifT rfl, ip_B, ip_Ld, m_23, l_388]
            refine ⟨⟨by omega, by omega⟩, ?_⟩
            rw [m0, ip_P]; exact hQ
          · rw [ip_ifF (by omega), ip_ifT rfl, ip_B, ip_Ld, m_24, l_389]
            refine ⟨⟨by omega, by omega⟩, ?_⟩
            rw [m1, ip_P]; exact hQ
          · rw [ip_ifF (by omega), ip_ifF (by omega), ip_ifT rfl, ip_B, ip_Ld, m_25, l_390]
            refine ⟨⟨by omega, by omega⟩, ?_⟩
            rw [m2, ip_P]; exact hQ
          · rw [ip_ifF (by omega), ip_ifF (by omega), ip_ifF (by omega), ip_ifT rfl, ip_B, ip_Ld, m_26, l_391]
            refine ⟨⟨by omega, by omega⟩, ?_⟩
            rw [m3, ip_P]; exact hQ
          · rw [ip_ifF (by omega), ip_ifF (by omega), ip_ifF (by omega), ip_ifF (by omega), ip_ifT rfl, ip_B, ip_Ld, m_27, l_392]
            refine ⟨⟨by omega, by omega⟩, ?_⟩
            rw [m4, ip_P]; exact hQ
          · rw [ip_ifF (by omega), ip_ifF (by omega), ip_ifF (by omega), ip_ifF (by omega), ip_ifF (by omega), ip_ifT rfl, ip_B, ip_Ld, m_26, l_391]
            refine ⟨⟨by omega, by omega⟩, ?_⟩
            rw [m3, ip_B, ip_Ld, m_27, l_392]
            refine ⟨⟨by omega, by omega⟩, ?_⟩
            rw [m4, ip_B, ip_textOf hw w1.1 w1.2 (by omega) o4.2.1 (by omega), ip_P]; exact hQ
          · rw [ip_ifF (by omega), ip_ifF (by omega), ip_ifF (by omega), ip_ifF (by omega), ip_ifF (by omega), ip_ifF (by omega), ip_ifT rfl, ip_B, ip_Ld, m_28, l_393]
            refine ⟨⟨by omega, by omega⟩, ?_⟩
            rw [m5, ip_P]; exact hQ
          · rw [ip_ifF (by omega), ip_ifF (by omega), ip_ifF (by omega), ip_ifF (by omega), ip_ifF (by omega), ip_ifF (by omega), ip_ifF (by omega), ip_ifT rfl, ip_B, ip_Ld, m_26, l_391]
            refine ⟨⟨by omega, by omega⟩, ?_⟩
            rw [m3, ip_B, ip_Ld, m_27, l_392]
            refine ⟨⟨by omega, by omega⟩, ?_⟩
            rw [m4, ip_B, ip_ownOf hw w1.2 (by omega) o4.2.1 (by omega), ip_P]; exact hQ
          · rw [ip_ifF (by omega), ip_ifF (by omega), ip_ifF (by omega), ip_ifF (by omega), ip_ifF (by omega), ip_ifF (by omega), ip_ifF (by omega), ip_ifF (by omega), ip_ifT rfl, ip_B, ip_MlinesIn hw w1 w2 (by omega) (by omega), ip_P]; exact hQ
          · rw [ip_ifF (by omega), ip_ifF (by omega), ip_ifF (by omega), ip_ifF (by omega), ip_ifF (by omega), ip_ifF (by omega), ip_ifF (by omega), ip_ifF (by omega), ip_ifF (by omega), ip_ifT rfl, ip_B, ip_Ld, m_29, l_394]
            refine ⟨⟨by omega, by omega⟩, ?_⟩
            rw [m6, ip_P]; exact hQ
          · rw [ip_ifF (by omega), ip_ifF (by omega), ip_ifF (by omega), ip_ifF (by omega), ip_ifF (by omega), ip_ifF (by omega), ip_ifF (by omega), ip_ifF (by omega), ip_ifF (by omega), ip_ifF (by omega), ip_ifT rfl, ip_B, ip_Ld, m_30, l_395]
            refine ⟨⟨by omega, by omega⟩, ?_⟩
            rw [m7, ip_P]; exact hQ
          · rw [ip_ifF (by omega), ip_ifF (by omega), ip_ifF (by omega), ip_ifF (by omega), ip_ifF (by omega), ip_ifF (by omega), ip_ifF (by omega), ip_ifF (by omega), ip_ifF (by omega), ip_ifF (by omega), ip_ifF (by omega), ip_ifT rfl, ip_B, ip_Ld, m_31, l_396]
            refine ⟨⟨by omega, by omega⟩, ?_⟩
            rw [m8]
            have e8 : cf R i 11 = pC (pou R).1 i 8 := rfl
            rw [e8] at hQ
            rcases o9 with z | z
            · rw [z] at hQ ⊢
              rw [ip_ifT rfl, ip_P]; exact hQ
            · rw [z] at hQ ⊢
              rw [ip_ifF (by omega), ip_P]; exact hQ
        · rw [if_neg (by omega)] at hQ
          rw [ip_ifF (by omega), ip_ifF (by omega), ip_ifF (by omega), ip_ifF (by omega), ip_ifF (by omega), ip_ifF (by omega), ip_ifF (by omega), ip_ifF (by omega), ip_ifF (by omega), ip_ifF (by omega), ip_ifF (by omega), ip_ifF (by omega), ip_P]
          exact hQ
end
