/-! ===== the class pours all ===== -/
def SpC (sp : Nat) (τ : iMem) (A : aA) : Prop := ∀ k, 0 ≤ k → k < aSp A → τ sp k = aPg A k ∧ τ (sp + 1) k = aAb A k
def PoC (R : aRun) (pr ra sp : Nat) (nr : Int) (τ : iMem) (A : aA) : Prop := (τ pr 4 = pcn A.1 ∧ τ pr 5 = ppg A.1 ∧ τ pr 6 = pfr A.1) ∧ (∀ i : Int, 0 ≤ i → i < pcn A.1 → i < nr → rowC R τ (ra + 1 + i.toNat) (pC A.1 i)) ∧ τ pr 9 = aSt A ∧ τ pr 10 = aSp A ∧ SpC sp τ A
theorem sh_in {R : aRun} (hw : WF R) {n : Int} (h0 : 0 ≤ n) (hs : n < ns R) : 0 ≤ sh R n ∧ sh R n ≤ 200 := by
  unfold sh
  by_cases c : n ≤ 0
  · rw [if_pos c]; omega
  · rw [if_neg c]
    have hsb := sbk_in hw.1.1 n
    by_cases z : sbk R n < rn R
    · exact (hw.2.2.1 _ hsb.1 z).2.2.2.2.2.1
    · exfalso
      have : sbk R n = rn R := by omega
      have hpos := rn_pos h0 hs
      unfold ns at hs
      rw [if_neg (by omega)] at hs
      have h1 : sI (fun b => if sc R (b + 1) < n then (1 : Int) else 0) (rn R) ≤ rn R - 1 := by
        have e := sI_s (f := fun b => if sc R (b + 1) < n then (1 : Int) else 0) (n := rn R - 1) (by omega)
        rw [show rn R - 1 + 1 = rn R by omega, if_neg (by omega)] at e
        have := sI_bound (f := fun b => if sc R (b + 1) < n then (1 : Int) else 0) (n := rn R - 1) (lo := 0) (hi := 1) (fun i _ _ => by (try dsimp only); split <;> omega) (by omega)
        omega
      unfold sbk at this
      omega
section
variable {τ : iMem} {pr ft fl ru ra sp : Nat} {nr : Int} {R : aRun} {s : Int}
theorem rowC.frame {R : aRun} {τ τ' : iMem} {a : Nat} {c : Int → Int} (h : rowC R τ a c) (hf : ∀ k, τ' a k = τ a k) : rowC R τ' a c := by
  unfold rowC at *
  rw [hf, hf, hf, hf, hf, hf, hf, hf, hf, hf, hf, hf]
  exact h
set_option maxHeartbeats 1000000 in
theorem ip_putSpan {B : aA} {Q : Unit → iMem → Prop} (hp : isPress pr ft fl ru ra sp nr) (hw : WF R) (hx : Cx R ft fl ru τ) (hP : PrC R pr ra nr τ B.1) (hk : okP R s B.1) (h0 : 0 < s) (hs : s < ns R) (h9 : τ pr 9 = -1) (h10 : τ pr 10 = aSp B) (hsp : aSp B = s - 1) (hS : SpC sp τ B)
    (hQ : ∀ τ', Cx R ft fl ru τ' → PrC R pr ra nr τ' (spanA R s B).1 → τ' pr 9 = aSt (spanA R s B) → τ' pr 10 = aSp (spanA R s B) → SpC sp τ' (spanA R s B) → (∀ a k, ¬ ((a = pr ∧ 4 ≤ k ∧ k ≤ 10) ∨ a = sp ∨ a = sp + 1) → τ' a k = τ a k) → Q () τ') : ip (iz_Press_putSpan pr s) Q τ := by
  have hf := pr_F hp
  have hff := ft_F hf
  have hfe := ft_e hf
  have hfa := fl_a hff
  have ho := pr_o hp
  have hr := fl_r hff
  have hH := hw.2.1.2.1
  have h7 := hw.2.1.2.2.2.2.2.2.2
  have hns := ns_in hw
  have hn := hw.1.2
  have hsh := sh_in hw (by omega : 0 ≤ s) hs
  obtain ⟨x1, x2, x3, x4⟩ := id hx
  obtain ⟨-, -, -, -, Bs⟩ := id x2
  obtain ⟨k1, k2, k3, k4, k5, k6, k7⟩ := id hk
  obtain ⟨⟨p4, p5, p6, p7, p8⟩, pR⟩ := id hP
  unfold iz_Press_putSpan
  rw [pr_1 hp, pr_0 hp, pr_11 hp, pr_12 hp, fl_18 hff, ip_B, ip_at (by omega) (by rw [fl_l15 hff]; omega), (Bs s (by omega) hs).2.2, ip_B, ip_settingC hr x1 (by omega) (by omega), ip_B, ip_Gt, p6, ip_B, ip_A]
  refine ⟨⟨by omega, by omega⟩, ?_⟩
  -- put
  have put : ∀ (P1 : aP) (τ1 : iMem), ¬ ((pfr B.1 < sh R s + rs R 7 ∧ pfr B.1 ≠ rs R 1) ∧ 39 ≤ ppg B.1) → P1 = spP R s B.1 → 0 ≤ pfr P1 → pfr P1 ≤ 400 → Cx R ft fl ru τ1 → PrC R pr ra nr τ1 P1 → τ1 pr 9 = -1 → (∀ a k, ¬ (a = pr ∧ 4 ≤ k ∧ k ≤ 10) → τ1 a k = τ a k) → ip (iA (s - 1) fun y2 => iB (iP y2) fun x6 => iB (iGt pr 9) fun x7 => if ¬ x7 = (-1) then iP () else if x6 < 0 then iP () else if 16 ≤ x6 then iP () else iB (iGt pr 5) fun x8 => iB (iSt sp x6 x8) fun _ => iB (iz_Run_setting ru 1) fun x9 => iB (iGt pr 6) fun x10 => iA (x9 - x10) fun y3 => iB (iSt (sp + 1) x6 y3) fun _ => iB (iPt pr 10 s) fun _ => iB (iGt pr 6) fun x11 => iA (x11 - sh R s) fun y4 => iB (iz_Math_max 0 y4) fun x12 => iB (iPt pr 6 x12) fun _ => iP ()) Q τ1 := by
    intro P1 τ1 hno e1 f0 f1 w1 w2 w9 wf
    have hsA : spanA R s B = (frP (if 0 < pfr P1 - sh R s then pfr P1 - sh R s else 0) P1, -1, s, up (aPg B) (s - 1) (ppg P1), up (aAb B) (s - 1) (rs R 1 - pfr P1)) := by
      unfold spanA
      rw [if_neg hno, e1]
    rw [hsA] at hQ
    have y1 := w2.1.2.1
    have y2 := w2.1.2.2.1
    have y3 : τ1 (ru + 1) 1 = rs R 1 := w1.1.2.1 1 (by omega) (by omega)
    rw [ip_A]
    refine ⟨⟨by omega, by omega⟩, ?_⟩
    rw [ip_B, ip_P, ip_B, ip_Gt, w9, ip_ifF (by omega), ip_ifF (by omega), ip_ifF (by omega)]
    simp (disch := omega) only [ip_B, ip_Gt, ip_St, ip_Pt, ip_A, ip_P, ip_max, ip_setting hr, (pr_ls hp).1, (pr_ls hp).2, iu_ne, iu_eq, y1, y2, y3, iR]
    repeat refine And.intro (by omega) ?_
    refine hQ _ (w1.frame hfe (fun a k hk => by simp (disch := omega) only [iu_ne])) ⟨⟨?_, ?_, ?_, ?_, ?_⟩, fun j j0 j1 j2 => ?_⟩ ?_ ?_ (fun k k0 k1 => ?_) (fun a k hk => ?_)
    · simp (disch := omega) only [iu_ne]; exact w2.1.1
    · simp (disch := omega) only [iu_ne]; exact w2.1.2.1
    · rw [iu_eq]; rfl
    · simp (disch := omega) only [iu_ne]; exact w2.1.2.2.2.1
    · simp (disch := omega) only [iu_ne]; exact w2.1.2.2.2.2
    · exact (w2.2 j j0 j1 j2).frame (fun k => by simp (disch := omega) only [iu_ne])
    · simp (disch := omega) only [iu_ne]; exact w9
    · simp (disch := omega) only [iu_ne, iu_eq]; rfl
    · have k1 : k < s := k1
      by_cases z : k = s - 1
      · subst z
        simp (disch := omega) only [iu_ne, iu_eq]
        exact ⟨(if_pos rfl).symm, (if_pos rfl).symm⟩
      · simp (disch := omega) only [iu_ne]
        rw [wf sp k (by omega), wf (sp + 1) k (by omega)]
        have := hS k k0 (by omega)
        exact ⟨this.1.trans (if_neg z).symm, this.2.trans (if_neg z).symm⟩
    · simp (disch := omega) only [iu_ne]
      exact wf a k (by omega)
  by_cases c1 : sh R s + rs R 7 ≤ pfr B.1
  · rw [ip_ifT c1, ip_P]
    exact put B.1 τ (fun q => by omega) (by unfold spP; rw [if_neg (by omega)]) k3.1 k3.2 hx hP h9 (fun _ _ _ => rfl)
  · rw [ip_ifF c1, ip_B, ip_pageIsFree (P := B.1) hp hx p6]
    by_cases c2 : pfr B.1 = rs R 1
    · rw [if_pos c2, ip_ifT (by omega), ip_P]
      exact put B.1 τ (fun q => q.1.2 c2) (by unfold spP; rw [if_neg (fun q => q.2 c2)]) k3.1 k3.2 hx hP h9 (fun _ _ _ => rfl)
    · rw [if_neg c2, ip_ifF (by omega), ip_B]
      refine ip_turnPage hp hx p5 p7 k2.1 ?_
      rw [ip_P]
      by_cases c3 : ppg B.1 < 39
      · rw [if_pos c3]
        refine put (pgP R B.1) _ (fun q => by omega) (by unfold spP; rw [if_pos ⟨by omega, c2⟩]) (by show 0 ≤ rs R 1; omega) (by show rs R 1 ≤ 400; omega) (hx.frame hfe (fun a k hk => by simp (disch := omega) only [iu_ne])) ⟨⟨?_, ?_, ?_, ?_, ?_⟩, fun j j0 j1 j2 => ?_⟩ ?_ (fun a k hk => ?_)
        · simp (disch := omega) only [iu_ne]; exact p4
        · simp (disch := omega) only [iu_ne, iu_eq]; rfl
        · rw [iu_eq]; rfl
        · simp (disch := omega) only [iu_ne]; exact p7
        · simp (disch := omega) only [iu_ne]; exact p8
        · exact (pR j j0 j1 j2).frame (fun k => by simp (disch := omega) only [iu_ne])
        · simp (disch := omega) only [iu_ne]; exact h9
        · simp (disch := omega) only [iu_ne]
      · rw [if_neg c3, ip_A]
        refine ⟨⟨by omega, by omega⟩, ?_⟩
        have hpat : 0 ≤ pat B.1 := by have := bg_in hw s; omega
        rw [ip_B, ip_P, ip_B, ip_Gt, iu_eq, ip_ifT (by omega), ip_P]
        have hsA : spanA R s B = (B.1, pat B.1, aSp B, aPg B, aAb B) := by
          unfold spanA
          exact if_pos ⟨⟨by omega, c2⟩, by omega⟩
        rw [hsA] at hQ
        refine hQ _ (hx.frame hfe (fun a k hk => by simp (disch := omega) only [iu_ne])) (hP.frame (fun k _ _ => by simp (disch := omega) only [iu_ne]) (fun a k _ _ => by simp (disch := omega) only [iu_ne])) ?_ ?_ (fun k k0 k1 => ?_) (fun a k hk => ?_)
        · rw [iu_eq]; rfl
        · rw [iu_ne (Or.inr (by omega))]; exact h10
        · simp (disch := omega) only [iu_ne]
          exact hS k k0 k1
        · simp (disch := omega) only [iu_ne]
theorem allN_st {A : aA} {n : Nat} (h : aSt (allN R A n) = -1) : allN R A (n + 1) = secA R n (if n = 0 then begA R n (allN R A n) else spanA R n (begA R n (allN R A n))) := by rw [allN_s, if_neg (by omega)]
set_option maxHeartbeats 1000000 in
theorem ip_pourAll {Q : Int → iMem → Prop} (hp : isPress pr ft fl ru ra sp nr) (hw : WF R) (hx : Cx R ft fl ru τ)
    (hQ : ∀ τ', Cx R ft fl ru τ' → PoC R pr ra sp nr τ' (pou R) → (∀ a k, ¬ pww pr ft ra sp nr a k → τ' a k = τ a k) → Q (ans R) τ') : ip (iz_Press_pourAll pr) Q τ := by
  have hf := pr_F hp
  have hff := ft_F hf
  have hfe := ft_e hf
  have hfa := fl_a hff
  have ho := pr_o hp
  have hr := fl_r hff
  have hH := hw.2.1.2.1
  have hns := ns_in hw
  have hn := hw.1.2
  have h90 := hw.2.2.2
  unfold iz_Press_pourAll
  have e1 : τ (ru + 1) 1 = rs R 1 := hx.1.2.1 1 (by omega) (by omega)
  rw [pr_0 hp, pr_1 hp, fl_16 hff, fl_17 hff]
  simp (disch := omega) only [ip_B, ip_Pt, ip_setting hr, iu_ne, e1]
  refine ip_mono (Q := fun _ τ' => Cx R ft fl ru τ' ∧ PoC R pr ra sp nr τ' (pou R) ∧ (∀ a k, ¬ pww pr ft ra sp nr a k → τ' a k = τ a k)) ?_ ?_
  · refine ip_W (fun n τ' => 0 ≤ n ∧ n ≤ ns R ∧ Cx R ft fl ru τ' ∧ PoC R pr ra sp nr τ' (allN R (ini R) n.toNat) ∧ (∀ a k, ¬ pww pr ft ra sp nr a k → τ' a k = τ a k)) (fun n _ => (ns R - n).toNat) ?_ ⟨Int.le_refl _, hns.1, hx.frame hfe (fun a k hk => by simp (disch := omega) only [iu_ne]), ⟨⟨?_, ?_, ?_⟩, fun i h0 h1 => ?_, ?_, ?_, fun k k0 k1 => ?_⟩, fun a k hk => ?_⟩
    · intro n τ' ⟨g0, g1, gx, gP, gf⟩
      obtain ⟨⟨q4, q5, q6⟩, qR, q9, q10, qS⟩ := id gP
      obtain ⟨x1, x2, x3, x4⟩ := id gx
      obtain ⟨B0, B1, -, -, Bs⟩ := id x2
      rw [ip_B, ip_Gt, B1]
      by_cases c1 : ns R ≤ n
      · have : n = ns R := by omega
        subst this
        rw [ip_ifT c1, ip_P]
        exact ⟨gx, gP, gf⟩
      · rw [ip_ifF c1, ip_B, ip_Gt, q9]
        by_cases c2 : aSt (allN R (ini R) n.toNat) = -1
        · have hok := allN_ok hw n.toNat (by omega)
          rw [show ((n.toNat : Nat) : Int) = n by omega] at hok
          have est := allN_st (R := R) (A := ini R) (n := n.toNat) c2
          rw [show ((n.toNat : Nat) : Int) = n by omega] at est
          have htn := tS_in (R := R) g0
          have hb := bg_step hw n
          have hbeg := okP_at hw g0 (by omega : n < ns R) hok.1
          generalize allN R (ini R) n.toNat = A at *
          rw [ip_ifF (by omega), ip_B, ip_at g0 (by rw [fl_l13 hff]; omega), (Bs n g0 (by omega)).1, ip_B, ip_Pt, ip_B, ip_Pt, ip_B]
          -- after the span
          refine ip_mono (Q := fun _ τ2 => Cx R ft fl ru τ2 ∧ PrC R pr ra nr τ2 (if n.toNat = 0 then begA R n A else spanA R n (begA R n A)).1 ∧ τ2 pr 9 = aSt (if n.toNat = 0 then begA R n A else spanA R n (begA R n A)) ∧ τ2 pr 10 = aSp (if n.toNat = 0 then begA R n A else spanA R n (begA R n A)) ∧ SpC sp τ2 (if n.toNat = 0 then begA R n A else spanA R n (begA R n A)) ∧ (∀ a k, ¬ pww pr ft ra sp nr a k → τ2 a k = τ a k)) ?_ ?_
          · have mx : Cx R ft fl ru (iu (iu τ' pr 7 (bg R n)) pr 8 0) := gx.frame hfe (fun a k hk => by simp (disch := omega) only [iu_ne])
            have mP : PrC R pr ra nr (iu (iu τ' pr 7 (bg R n)) pr 8 0) (begA R n A).1 := by
              refine ⟨⟨?_, ?_, ?_, ?_, ?_⟩, fun j j0 j1 j2 => ?_⟩
              · simp (disch := omega) only [iu_ne]; exact q4
              · simp (disch := omega) only [iu_ne]; exact q5
              · simp (disch := omega) only [iu_ne]; exact q6
              · simp (disch := omega) only [iu_ne, iu_eq]; rfl
              · rw [iu_eq]; rfl
              · exact (qR j j0 j1 j2).frame (fun k => by simp (disch := omega) only [iu_ne])
            have m9 : iu (iu τ' pr 7 (bg R n)) pr 8 0 pr 9 = aSt A := by simp (disch := omega) only [iu_ne]; exact q9
            have m10 : iu (iu τ' pr 7 (bg R n)) pr 8 0 pr 10 = aSp A := by simp (disch := omega) only [iu_ne]; exact q10
            have mS : SpC sp (iu (iu τ' pr 7 (bg R n)) pr 8 0) (begA R n A) := fun k k0 k1 => by simp (disch := omega) only [iu_ne]; exact qS k k0 k1
            have mf : ∀ a k, ¬ pww pr ft ra sp nr a k → iu (iu τ' pr 7 (bg R n)) pr 8 0 a k = τ a k := by
              intro a k hk
              have h2 := hk
              unfold pww prw at hk
              simp (disch := omega) only [iu_ne]
              exact gf a k h2
            by_cases c3 : n ≤ 0
            · rw [ip_ifT c3, ip_P, if_pos (by omega)]
              exact ⟨mx, mP, m9, m10, mS, mf⟩
            · rw [ip_ifF c3, ip_B, if_neg (by omega)]
              refine ip_putSpan hp hw mx mP hbeg (by omega) (by omega) (by rw [m9]; exact c2) m10 (by show aSp A = _; exact hok.2.2.2.2.1 c2 (by omega)) mS (fun τ2 w1 w2 w3 w4 w5 w6 => ?_)
              rw [ip_P]
              refine ⟨w1, w2, w3, w4, w5, fun a k hk => ?_⟩
              have h2 := hk
              unfold pww prw at hk
              rw [w6 a k (by omega)]
              exact mf a k h2
          · intro _ τ2 ⟨w1, w2, w3, w4, w5, w6⟩
            have hBok : okP R n (if n.toNat = 0 then begA R n A else spanA R n (begA R n A)).1 ∧ pcn (if n.toNat = 0 then begA R n A else spanA R n (begA R n A)).1 = pcn A.1 := by
              by_cases c3 : n.toNat = 0
              · rw [if_pos c3]; exact ⟨hbeg, rfl⟩
              · rw [if_neg c3]
                unfold spanA spP
                have eb : (begA R n A).1 = atP (bg R n) 0 A.1 := rfl
                rw [eb]
                obtain ⟨m1, m2, m3, m4, m5, m6, m7⟩ := id hbeg
                by_cases c4 : (pfr (atP (bg R n) 0 A.1) < sh R n + rs R 7 ∧ pfr (atP (bg R n) 0 A.1) ≠ rs R 1) ∧ 39 ≤ ppg (atP (bg R n) 0 A.1)
                · rw [if_pos c4]; exact ⟨hbeg, rfl⟩
                · rw [if_neg c4]
                  have hsh := sh_in hw g0 (by omega : n < ns R)
                  by_cases c5 : pfr (atP (bg R n) 0 A.1) < sh R n + rs R 7 ∧ pfr (atP (bg R n) 0 A.1) ≠ rs R 1
                  · rw [if_pos c5]
                    refine ⟨⟨m1, ⟨by show 0 ≤ ppg A.1 + 1; have : 0 ≤ ppg A.1 := m2.1; omega, by show ppg A.1 + 1 ≤ 39; have : ¬ 39 ≤ ppg A.1 := fun q => c4 ⟨c5, q⟩; omega⟩, ⟨?_, ?_⟩, m4, m5, m6, m7⟩, rfl⟩
                    · show 0 ≤ (if 0 < rs R 1 - sh R n then rs R 1 - sh R n else 0); split <;> omega
                    · show (if 0 < rs R 1 - sh R n then rs R 1 - sh R n else 0) ≤ 400; split <;> omega
                  · rw [if_neg c5]
                    refine ⟨⟨m1, m2, ⟨?_, ?_⟩, m4, m5, m6, m7⟩, rfl⟩
                    · show 0 ≤ (if 0 < pfr A.1 - sh R n then pfr A.1 - sh R n else 0); split <;> omega
                    · have m3 : 0 ≤ pfr A.1 ∧ pfr A.1 ≤ 400 := m3
                      show (if 0 < pfr A.1 - sh R n then pfr A.1 - sh R n else 0) ≤ 400; split <;> omega
            have hcnt : pcn A.1 ≤ 5 * 39 + 5 * 17 := by have := hok.2.2.2.1; have := hok.1.2.1; omega
            have hpg : ppg (if n.toNat = 0 then begA R n A else spanA R n (begA R n A)).1 ≤ 39 ∧ 0 ≤ ppg (if n.toNat = 0 then begA R n A else spanA R n (begA R n A)).1 := ⟨hBok.1.2.1.2, hBok.1.2.1.1⟩
            generalize (if n.toNat = 0 then begA R n A else spanA R n (begA R n A)) = B at *
            rw [ip_B, ip_Gt, w3, ip_B]
            refine ip_mono (Q := fun _ τ3 => Cx R ft fl ru τ3 ∧ PoC R pr ra sp nr τ3 (secA R n B) ∧ (∀ a k, ¬ pww pr ft ra sp nr a k → τ3 a k = τ a k)) ?_ ?_
            · have stay : (aSt B ≠ -1 ∨ bg R (n + 1) ≤ pat B.1) → PoC R pr ra sp nr τ2 (secA R n B) := by
                intro hh
                unfold secA
                rw [if_pos hh]
                exact ⟨⟨w2.1.1, w2.1.2.1, w2.1.2.2.1⟩, w2.2, w3, w4, w5⟩
              by_cases c3 : aSt B = -1
              · rw [ip_ifF (by omega), ip_B, ip_Gt, w2.1.2.2.2.1, ip_B, ip_at g0 (by rw [fl_l14 hff]; omega), ((w1.2.1).2.2.2.2 n g0 (by omega)).2.1]
                by_cases c4 : bg R (n + 1) ≤ pat B.1
                · rw [ip_ifT c4, ip_P]
                  exact ⟨w1, stay (Or.inr c4), w6⟩
                · rw [ip_ifF c4, ip_B]
                  refine ip_pourSection hp hw w1 w2 hBok.1 (by omega) g0 (by omega) (by rw [w3]; exact c3) (fun τ3 v1 v2 v3 v4 => ?_)
                  rw [ip_P]
                  have es : secA R n B = ((secN R n 41 B.1).1, (secN R n 41 B.1).2, aSp B, aPg B, aAb B) := by
                    unfold secA
                    rw [if_neg (by omega)]
                  rw [es]
                  refine ⟨v1, ⟨⟨v2.1.1, v2.1.2.1, v2.1.2.2.1⟩, v2.2, v3, ?_, fun k k0 k1 => ?_⟩, fun a k hk => ?_⟩
                  · rw [v4 pr 10 (by unfold fw; omega)]; exact w4
                  · rw [v4 sp k (by unfold fw; omega), v4 (sp + 1) k (by unfold fw; omega)]
                    exact w5 k k0 k1
                  · have h2 := hk
                    unfold pww prw at hk
                    rw [v4 a k (fun z => hk (by rcases z with z | z | z; exact Or.inl z; exact Or.inr (Or.inl (by omega)); exact Or.inr (Or.inr (Or.inl z))))]
                    exact w6 a k h2
              · rw [ip_ifT c3, ip_P]
                exact ⟨w1, stay (Or.inl c3), w6⟩
            · intro _ τ3 ⟨v1, v2, v3⟩
              rw [ip_A]
              refine ⟨⟨by omega, by omega⟩, ?_⟩
              rw [ip_B, ip_P, ip_P]
              simp only [Sum.elim_inl]
              refine ⟨⟨by omega, by omega, v1, ?_, v3⟩, by omega⟩
              rw [show (n + 1).toNat = n.toNat + 1 by omega, est]
              exact v2
        · rw [ip_ifT c2, ip_P]
          have est : pou R = allN R (ini R) n.toNat := by
            unfold pou
            have := allN_stay (R := R) (A := ini R) (n := n.toNat) c2 ((ns R).toNat - n.toNat)
            rwa [show n.toNat + ((ns R).toNat - n.toNat) = (ns R).toNat by omega] at this
          rw [est]
          exact ⟨gx, gP, gf⟩
    · simp (disch := omega) only [iu_ne, iu_eq]; rfl
    · simp (disch := omega) only [iu_ne, iu_eq]; rfl
    · simp (disch := omega) only [iu_ne, iu_eq]; rfl
    · have h1 : i < 0 := h1; omega
    · simp (disch := omega) only [iu_ne, iu_eq]; rfl
    · rw [iu_eq]; rfl
    · have k1 : k < 0 := k1; omega
    · unfold pww prw at hk
      simp (disch := omega) only [iu_ne]
  · intro _ τ1 ⟨w1, w2, w3⟩
    have hok := pou_ok hw
    unfold iz_Press_answer
    have hA : Q (ans R) τ1 := hQ τ1 w1 w2 w3
    unfold ans at hA
    rw [pr_1 hp, ip_B, ip_Gt, w2.2.2.1]
    by_cases c : aSt (pou R) = -1
    · rw [if_pos c] at hA
      rw [ip_ifT c, ip_B, ip_Gt, w1.2.1.2.1]
      by_cases d : ns R = 0
      · rw [if_pos d] at hA
        rw [ip_ifF (by omega), ip_P, ip_P]
        exact hA
      · rw [if_neg d] at hA
        rw [ip_ifT d, ip_B, ip_Gt, w2.1.2.1, ip_A]
        have := hok.1.2.1
        refine ⟨⟨by omega, by omega⟩, ?_⟩
        rw [ip_P, ip_P]
        exact hA
    · rw [if_neg c] at hA
      rw [ip_ifF c, ip_B, ip_Gt, w2.2.2.1, ip_A]
      have := hok.2.1
      refine ⟨⟨by omega, by omega⟩, ?_⟩
      rw [ip_P, ip_P]
      exact hA
end
