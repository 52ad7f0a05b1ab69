/-! ===== what is asked of what is poured ===== -/
theorem tS_8 {R : aRun} (hw : WF R) : tS R (ns R) ≤ 8 := by
  have key : ∀ n : Nat, (n : Int) ≤ rn R → 2 * tS R (sc R n) + (if bg R (sc R n) < fs R n then 1 else 0) ≤ n := by
    intro n
    induction n with
    | zero =>
      intro _
      rw [show ((0 : Nat) : Int) = 0 from rfl, sc_0, fs_0, bg_0]
      exact Int.le_refl _
    | succ n ih =>
      intro hn
      have ih := ih (by omega)
      have hb := hw.2.2.1 n (by omega) (by omega)
      have hs := sc_in (R := R) (b := (n : Int)) (by omega)
      rw [show ((n + 1 : Nat) : Int) = (n : Int) + 1 by omega, fs_s (by omega), sc_s (by omega)]
      by_cases c : rc R n 0 = 4
      · have hz : rc R n 1 = 0 := (hb.2.2.1 c).1
        have eb := bg_at (R := R) (b := (n : Int)) (by omega) (by omega) c
        have et : tS R (sc R n + 1) = tS R (sc R n) + (if bg R (sc R n) < bg R (sc R n + 1) then 1 else 0) := sI_s hs.1
        rw [if_pos c, et, eb, hz, Int.add_zero, if_neg (show ¬ fs R n < fs R n by omega)]
        by_cases d : bg R (sc R n) < fs R n
        · rw [if_pos d] at ih ⊢; omega
        · rw [if_neg d] at ih ⊢; omega
      · rw [if_neg c, Int.add_zero]
        have : (if bg R (sc R n) < fs R n + rc R n 1 then (1 : Int) else 0) ≤ 1 := by split <;> omega
        have : 0 ≤ (if bg R (sc R n) < fs R n then (1 : Int) else 0) := by split <;> omega
        omega
  have hn0 := hw.1.1
  have hn16 := hw.1.2
  by_cases z : rn R ≤ 0
  · have : ns R = 0 := by unfold ns; rw [if_pos z]
    rw [this]
    show (0 : Int) ≤ 8
    omega
  · have h := key (rn R).toNat (by omega)
    rw [show (((rn R).toNat : Nat) : Int) = rn R by omega] at h
    have hs := sc_in (R := R) hn0
    have en : ns R = sc R (rn R) + 1 := by unfold ns; rw [if_neg z]
    have et : tS R (sc R (rn R) + 1) = tS R (sc R (rn R)) + (if bg R (sc R (rn R)) < bg R (sc R (rn R) + 1) then 1 else 0) := sI_s hs.1
    have eb : bg R (sc R (rn R) + 1) = np R := bg_end hn0 (by omega)
    rw [en, et, eb]
    unfold np
    by_cases d : bg R (sc R (rn R)) < fs R (rn R)
    · rw [if_pos d] at h ⊢; omega
    · rw [if_neg d] at h ⊢; omega
theorem pou_240 {R : aRun} (hw : WF R) : 0 ≤ pcn (pou R).1 ∧ pcn (pou R).1 ≤ 240 := by
  have h := pou_ok hw
  have h8 := tS_8 hw
  have h1 := h.2.2.2.1
  have h2 := h.1.2.1
  exact ⟨h.1.1, by omega⟩
def InvB (τ : iMem) : Prop := FlZ 326 τ ∧ FtL 343 τ ∧ (0 ≤ τ 322 5 ∧ τ 322 5 ≤ 39) ∧ (0 ≤ τ 322 6 ∧ τ 322 6 ≤ 400)
def InvX (R : aRun) (τ : iMem) : Prop := WF R ∧ InvA R τ ∧ InvB τ
theorem InvB.frame {τ τ' : iMem} (h : InvB τ) (hf : ∀ a k, (a = 322 ∧ (k = 5 ∨ k = 6)) ∨ (326 ≤ a ∧ a ≤ 351) → τ' a k = τ a k) : InvB τ' := by
  refine ⟨?_, h.2.1.frame (hf _ _ (by omega)) (fun k => hf _ _ (by omega)), ?_⟩
  · have h1 := h.1
    unfold FlZ at *
    rw [hf _ _ (by omega), hf _ _ (by omega), hf _ _ (by omega)]
    exact h1
  · rw [hf 322 5 (by omega), hf 322 6 (by omega)]
    exact h.2.2
/-- what questions write -/
def mz (a : Nat) (k : Int) : Prop := (a = 367 ∧ (k = 13 ∨ k = 16 ∨ (32 ≤ k ∧ k ≤ 37))) ∨ (372 ≤ a ∧ a ≤ 402)
def zw (a : Nat) (k : Int) : Prop := qw a k ∨ (322 ≤ a ∧ a ≤ 366) ∨ mz a k
theorem InvX.c {R : aRun} {τ τ' : iMem} (h : InvX R τ) (hA : InvA R τ') (hf : ∀ a k, ¬ qw a k → τ' a k = τ a k) : InvX R τ' :=
  ⟨h.1, hA, h.2.2.frame (fun a k _ => hf a k (by unfold qw; omega))⟩
/-- one side's answer -/
def gv (R : aRun) (m : iM Int) (v : Int) (τ : iMem) : Prop := ip m (fun r τ1 => r = v ∧ InvX R τ1 ∧ ∀ a k, ¬ zw a k → τ1 a k = τ a k) τ
theorem gv_to {R : aRun} {τ : iMem} {m m' : iM Int} {v : Int} (h : ∀ Q : Int → iMem → Prop, ip m' Q τ → ip m Q τ) (g : gv R m' v τ) : gv R m v τ := h _ g
theorem gv_poured {R : aRun} {τ : iMem} (hI : InvX R τ) {m : Nat → iM Int} {v : Int} (hm : ∀ (τ1 : iMem) (Q : Int → iMem → Prop), Cx R 70 53 1 τ1 → PoC R 52 79 320 240 τ1 (pou R) → Q v τ1 → ip (m 52) Q τ1) : gv R (iB (iK 13 (iz_Top_pouredNow 0)) m) v τ := by
  unfold gv
  rw [ip_B, ip_K]
  refine ip_pouredNow hI.1 hI.2.1 (fun τ1 w1 w2 w3 w4 => ⟨t_k, ?_⟩)
  have hf : ∀ a k, ¬ zw a k → τ1 a k = τ a k := fun a k h => w4 a k (fun z => h (Or.inl z))
  exact hm τ1 _ w2 w3 ⟨rfl, hI.c w1 w4, hf⟩
section
variable {τ : iMem} {R : aRun}
theorem gv_pour (hI : InvX R τ) : gv R (iz_Top_pour 0) (ans R) τ := by
  unfold iz_Top_pour
  refine gv_poured hI (fun τ1 Q w1 w2 hQ => ?_)
  · rw [ip_B]
    refine ip_answer isPress_52 hI.1 w1 w2 ?_
    rw [ip_P]
    exact hQ
/-- a cell of a column, as told -/
noncomputable def cf (R : aRun) (i k : Int) : Int :=
  if k = 0 then pC (pou R).1 i 0 else if k = 1 then pC (pou R).1 i 1 else if k = 2 then pC (pou R).1 i 2 else if k = 3 then pC (pou R).1 i 3 else if k = 4 then pC (pou R).1 i 4
  else if k = 5 then tx R (pC (pou R).1 i 3) (pC (pou R).1 i 4) else if k = 6 then pC (pou R).1 i 5 else if k = 7 then ol R (pC (pou R).1 i 3) (pC (pou R).1 i 4)
  else if k = 8 then sta R (pC (pou R).1 i 3) (pC (pou R).1 i 4) (pC (pou R).1 i 5) (pC (pou R).1 i 7) else if k = 9 then pC (pou R).1 i 6 else if k = 10 then pC (pou R).1 i 7 else pC (pou R).1 i 8
theorem ip_pcell {i k : Int} {Q : Int → iMem → Prop} (hw : WF R) (hP : PoC R 52 79 320 240 τ (pou R)) (h0 : 0 ≤ i) (h1 : i < pcn (pou R).1) (k0 : 0 ≤ k) (k1 : k < 12) : ip (iz_Press_cell 52 i k) Q τ ↔ Q (cf R i k) τ := by
  have h240 := pou_240 hw
  have hrow := pr_row isPress_52 (i := i) h0 (by omega)
  have hr := hP.2.1 i h0 h1 (by omega)
  unfold iz_Press_cell
  rw [pr_3 isPress_52, pr_l isPress_52, ip_ifF (by omega), ip_ifF (by omega), ip_B, ip_Gt, hP.1.1, ip_ifF (by omega), ip_B, ip_Lr, pr_l isPress_52]
  refine (and_iff_right ⟨by omega, by omega⟩).trans ?_
  rw [hrow.1, ip_B, ip_at k0 (by rw [hrow.2]; exact k1), ip_P]
  have e : τ (79 + 1 + i.toNat) k = cf R i k := by
    obtain ⟨r0, r1, r2, r3, r4, r5, r6, r7, r8, r9, r10, r11⟩ := hr
    have hc : k = 0 ∨ k = 1 ∨ k = 2 ∨ k = 3 ∨ k = 4 ∨ k = 5 ∨ k = 6 ∨ k = 7 ∨ k = 8 ∨ k = 9 ∨ k = 10 ∨ k = 11 := by omega
    rcases hc with rfl | rfl | rfl | rfl | rfl | rfl | rfl | rfl | rfl | rfl | rfl | rfl
    · exact r0
    · exact r1
    · exact r2
    · exact r3
    · exact r4
    · exact r5
    · exact r6
    · exact r7
    · exact r8
    · exact r9
    · exact r10
    · exact r11
  rw [e]
theorem okC_at (hw : WF R) {i : Int} (h0 : 0 ≤ i) (h1 : i < pcn (pou R).1) : okC R (pC (pou R).1) i := (pou_ok hw).1.2.2.2 i h0 h1
theorem gv_column (hI : InvX R τ) (i k : Int) : gv R (iz_Top_column 0 i k) (if i = -1 ∧ k = 0 then pcn (pou R).1 else if (0 ≤ i ∧ i < pcn (pou R).1) ∧ 0 ≤ k ∧ k < 12 then cf R i k else -1) τ := by
  have hw := hI.1
  have h240 := pou_240 hw
  unfold iz_Top_column
  refine gv_poured hI (fun τ1 Q w1 w2 hQ => ?_)
  · have hQ := hQ
    rw [ip_B]
    by_cases c0 : i = -1 ∧ k = 0
    · rw [if_pos c0] at hQ
      rw [ip_ifF (by omega), ip_ifF (by omega), ip_B, ip_Gt, w2.1.1, ip_P]
      simp only [Sum.elim_inr, ip_P]
      exact hQ
    · rw [if_neg c0] at hQ
      have rest : ip (if i < 0 then iP (-1) else iB (iGt 52 4) fun x4 => if x4 ≤ i then iP (-1) else if k < 0 then iP (-1) else if k < 12 then iB (iz_Press_cell 52 i k) fun x5 => iP x5 else iP (-1)) Q τ1 := by
        by_cases c1 : i < 0
        · rw [if_neg (by omega)] at hQ
          rw [ip_ifT c1, ip_P]; exact hQ
        · rw [ip_ifF c1, ip_B, ip_Gt, w2.1.1]
          by_cases c2 : pcn (pou R).1 ≤ i
          · rw [if_neg (by omega)] at hQ
            rw [ip_ifT c2, ip_P]; exact hQ
          · rw [ip_ifF c2]
            by_cases c3 : k < 0
            · rw [if_neg (by omega)] at hQ
              rw [ip_ifT c3, ip_P]; exact hQ
            · rw [ip_ifF c3]
              by_cases c4 : k < 12
              · rw [if_pos (by omega)] at hQ
                rw [ip_ifT c4, ip_B, ip_pcell hw w2 (by omega) (by omega) (by omega) c4, ip_P]
                exact hQ
              · rw [if_neg (by omega)] at hQ
                rw [ip_ifF c4, ip_P]; exact hQ
      by_cases d1 : i = -1
      · rw [ip_ifF (by omega), ip_ifT (by omega), ip_P]
        simp only [Sum.elim_inl]
        exact rest
      · rw [ip_ifT d1, ip_P]
        simp only [Sum.elim_inl]
        exact rest
end
