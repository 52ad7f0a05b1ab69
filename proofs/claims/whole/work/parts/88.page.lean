/-! ===== sums over columns ===== -/
theorem ip_sum {τ : iMem} {a cnt B : Int} {g : Int → Int} {step : (Int × Int) → iM ((Int × Int) ⊕ Int)} (hc : 0 ≤ cnt) (hc2 : cnt ≤ 300) (hB : 0 ≤ B) (hB2 : B ≤ 1000000) (hg : ∀ i, 0 ≤ i → i < cnt → -B ≤ g i ∧ g i ≤ B)
    (h1 : ∀ s, ip (step (s, cnt + a)) (fun r τ' => τ' = τ ∧ r = Sum.inr s) τ)
    (h2 : ∀ s i, 0 ≤ i → i < cnt → -400000000 ≤ s → s ≤ 400000000 → ip (step (s, i + a)) (fun r τ' => τ' = τ ∧ r = Sum.inl (s + g i, i + 1 + a)) τ) : ip (iW step (0, a)) (fun v τ' => τ' = τ ∧ v = sI g cnt) τ := by
  refine ip_W (fun (q : Int × Int) τ' => τ' = τ ∧ ∃ i, 0 ≤ i ∧ i ≤ cnt ∧ q = (sI g i, i + a)) (fun (q : Int × Int) _ => (cnt + a - q.2).toNat) ?_ ⟨rfl, 0, Int.le_refl _, hc, by rw [sI_0, Int.zero_add]⟩
  intro q τ' ⟨et, i, i0, i1, eq⟩
  subst et eq
  by_cases c : i = cnt
  · subst c
    refine ip_mono (h1 _) (fun r τ'' e => ?_)
    rw [e.2]
    exact ⟨e.1, rfl⟩
  · have hb := sI_bound (f := g) (n := i) (lo := -B) (hi := B) (fun j a b => hg j a (by omega)) i0
    have hm1 : -B * i ≥ -1000000 * 300 := by
      have h1 : B * i ≤ 1000000 * 300 := Int.mul_le_mul hB2 (by omega) i0 (by omega)
      rw [Int.neg_mul]; omega
    have hm2 : B * i ≤ 1000000 * 300 := Int.mul_le_mul hB2 (by omega) i0 (by omega)
    refine ip_mono (h2 _ i i0 (by omega) (by omega) (by omega)) (fun r τ'' e => ?_)
    rw [e.2]
    simp only [Sum.elim_inl]
    refine ⟨⟨e.1, i + 1, by omega, by omega, ?_⟩, by omega⟩
    rw [sI_s i0]
theorem iz_0 (x : Int) : x + 0 = x := Int.add_zero x
/-- a column's use -/
noncomputable def us (R : aRun) (i : Int) : Int := cf R i 5 + (if cf R i 7 + cf R i 6 ≤ 0 then 0 else rs R 6) + cf R i 8 * rs R 5
noncomputable def its (R : aRun) (i : Int) : Int := cf R i 10 - us R i
noncomputable def losN (R : aRun) : Nat → Int × (Int × Int)
  | 0 => (0, (0, -2))
  | n + 1 => ((losN R n).1 + its R n, if (losN R n).2.2 = -2 ∨ (losN R n).2.1 < its R n then (its R n, (n : Int)) else (losN R n).2)
section
variable {τ : iMem} {R : aRun}
theorem us_in (hw : WF R) {i : Int} (h0 : 0 ≤ i) (h1 : i < pcn (pou R).1) : (0 ≤ us R i ∧ us R i ≤ 30000) ∧ (0 ≤ cf R i 8 * rs R 5 ∧ cf R i 8 * rs R 5 ≤ 5460) ∧ (-30000 ≤ its R i ∧ its R i ≤ 30000) := by
  have hc := cf_in hw h0 h1
  have h5 := hw.2.1.2.2.2.2.2.1
  have h6 := hw.2.1.2.2.2.2.2.2.1
  have hm : 0 ≤ cf R i 8 * rs R 5 := Int.mul_nonneg hc.2.2.2.2.1.1 (by omega)
  have hm2 : cf R i 8 * rs R 5 ≤ 1820 * 3 := Int.mul_le_mul hc.2.2.2.2.1.2 h5.2 (by omega) (by omega)
  have hr : 0 ≤ (if cf R i 7 + cf R i 6 ≤ 0 then 0 else rs R 6) ∧ (if cf R i 7 + cf R i 6 ≤ 0 then 0 else rs R 6) ≤ 9 := by split <;> omega
  unfold its us
  omega
theorem ip_used {i : Int} {Q : Int → iMem → Prop} (hw : WF R) (hx : Cx R 70 53 1 τ) (hP : PoC R 52 79 320 240 τ (pou R)) (h0 : 0 ≤ i) (h1 : i < pcn (pou R).1) : ip (iz_Press_used 52 i) Q τ ↔ Q (us R i) τ := by
  have hc := cf_in hw h0 h1
  have hu := us_in hw h0 h1
  have h5 := hw.2.1.2.2.2.2.2.1
  have h6 := hw.2.1.2.2.2.2.2.2.1
  have hr := isRun_1
  have hrr : 0 ≤ (if cf R i 7 + cf R i 6 ≤ 0 then 0 else rs R 6) ∧ (if cf R i 7 + cf R i 6 ≤ 0 then 0 else rs R 6) ≤ 9 := by split <;> omega
  unfold iz_Press_used
  rw [ip_B, ip_pcell hw hP h0 h1 (by omega) (by omega), ip_B, ip_pcell hw hP h0 h1 (by omega) (by omega), ip_B, ip_A]
  refine (and_iff_right ⟨by omega, by omega⟩).trans ?_
  rw [ip_ifP, ip_B, pr_0 isPress_52]
  have key : ∀ f : Int → iM Int, ip (if (if cf R i 7 + cf R i 6 ≤ 0 then (0 : Int) else 1) = 0 then iP 0 else iB (iz_Run_setting 1 6) fun x5 => iP x5) (fun a τ' => ip (f a) Q τ') τ ↔ ip (f (if cf R i 7 + cf R i 6 ≤ 0 then 0 else rs R 6)) Q τ := by
    intro f
    by_cases z : cf R i 7 + cf R i 6 ≤ 0
    · rw [if_pos z, if_pos z, ip_ifT rfl, ip_P]
    · rw [if_neg z, if_neg z, ip_ifF (by omega), ip_B, ip_settingC hr hx.1 (by omega) (by omega), ip_P]
  rw [key, ip_B, ip_pcell hw hP h0 h1 (by omega) (by omega), ip_B, ip_pcell hw hP h0 h1 (by omega) (by omega), ip_B, ip_settingC hr hx.1 (by omega) (by omega), ip_A, ip_A, ip_A]
  refine (and_iff_right ⟨by omega, by omega⟩).trans ((and_iff_right ⟨by omega, by omega⟩).trans ((and_iff_right ⟨by omega, by omega⟩).trans ?_))
  rw [ip_P]
  exact Iff.rfl
theorem ip_looseOf {i : Int} {Q : Int → iMem → Prop} (hw : WF R) (hx : Mx R τ) (hP : PoM R τ (pou R)) (h0 : 0 ≤ i) (h1 : i < pcn (pou R).1) : ip (iz_Model_looseOf 367 i) Q τ ↔ Q (its R i) τ := by
  have h240 := pou_240 hw
  have hc := cf_in hw h0 h1
  have hu := us_in hw h0 h1
  have h5 := hw.2.1.2.2.2.2.2.1
  have h6 := hw.2.1.2.2.2.2.2.2.1
  have hrr : 0 ≤ (if cf R i 7 + cf R i 6 ≤ 0 then 0 else rs R 6) ∧ (if cf R i 7 + cf R i 6 ≤ 0 then 0 else rs R 6) ≤ 9 := by split <;> omega
  obtain ⟨m0, m1, m2, m3, m4, m5, m6, m7, m8⟩ := hP.2.1 i h0 h1
  have e4 : pC (pou R).1 i 4 = cf R i 4 := rfl
  have e3 : pC (pou R).1 i 3 = cf R i 3 := rfl
  have e5 : pC (pou R).1 i 5 = cf R i 6 := rfl
  have e7 : pC (pou R).1 i 7 = cf R i 10 := rfl
  have eo : ol R (cf R i 3) (cf R i 4) = cf R i 7 := rfl
  have et : tx R (cf R i 3) (cf R i 4) = cf R i 5 := rfl
  rw [e3] at m3
  rw [e4] at m4
  rw [e5] at m5
  rw [e7] at m7
  unfold iz_Model_looseOf iz_Model_isNoted
  rw [ip_B, ip_Ld, m_30, l_395]
  refine (and_iff_right ⟨by omega, by omega⟩).trans ?_
  rw [m7, ip_B, ip_Ld, m_26, l_391]
  refine (and_iff_right ⟨by omega, by omega⟩).trans ?_
  rw [m3, ip_B, ip_Ld, m_27, l_392]
  refine (and_iff_right ⟨by omega, by omega⟩).trans ?_
  rw [m4, ip_B, ip_textOf hw hx.1 hx.2 hc.1.1 hc.1.2.1 hc.1.2.2, et, ip_B, ip_B, ip_Ld, l_391]
  refine (and_iff_right ⟨by omega, by omega⟩).trans ?_
  rw [m3, ip_B, ip_Ld, l_392]
  refine (and_iff_right ⟨by omega, by omega⟩).trans ?_
  rw [m4, ip_B, ip_ownOf hw hx.2 hc.1.1 hc.1.2.1 hc.1.2.2, eo, ip_B, ip_Ld, m_28, l_393]
  refine (and_iff_right ⟨by omega, by omega⟩).trans ?_
  rw [m5, ip_A]
  refine (and_iff_right ⟨by omega, by omega⟩).trans ?_
  rw [ip_ifP, ip_B]
  have key : ∀ f : Int → iM Int, ip (if (if cf R i 7 + cf R i 6 ≤ 0 then (0 : Int) else 1) = 0 then iP 0 else iB (iLd (qm_rf 367 0) 6) fun x7 => iP x7) (fun a τ' => ip (f a) Q τ') τ ↔ ip (f (if cf R i 7 + cf R i 6 ≤ 0 then 0 else rs R 6)) Q τ := by
    intro f
    by_cases z : cf R i 7 + cf R i 6 ≤ 0
    · rw [if_pos z, if_pos z, ip_ifT rfl, ip_P]
    · rw [if_neg z, if_neg z, ip_ifF (by omega), ip_B, ip_Ld, m_0, l_368]
      refine (and_iff_right ⟨by omega, by omega⟩).trans ?_
      rw [rm_s hx.1 (k := 6) (by omega) (by omega), ip_P]
  rw [key, ip_B, ip_Ld, m_0, l_368]
  refine (and_iff_right ⟨by omega, by omega⟩).trans ?_
  have hcomm : rs R 5 * cf R i 8 = cf R i 8 * rs R 5 := Int.mul_comm _ _
  rw [rm_s hx.1 (k := 5) (by omega) (by omega), ip_B, ip_MlinesIn hw hx hP h0 h1, ip_A, ip_A, ip_A, ip_A, hcomm]
  refine (and_iff_right ⟨by omega, by omega⟩).trans ((and_iff_right ⟨by omega, by omega⟩).trans ((and_iff_right ⟨by omega, by omega⟩).trans ((and_iff_right ⟨by omega, by omega⟩).trans ?_)))
  rw [ip_P]
  have : cf R i 10 - cf R i 5 - (if cf R i 7 + cf R i 6 ≤ 0 then 0 else rs R 6) - cf R i 8 * rs R 5 = its R i := by unfold its us; omega
  rw [this]
theorem two_const {m n : iM Int} {c : Int} (hI : InvX R τ) (hm : ∀ Q : Int → iMem → Prop, Q c τ → ip m Q τ) (hn : ∀ Q : Int → iMem → Prop, Q c τ → ip n Q τ) : two R m n τ := by
  unfold two
  refine hm _ ?_
  refine hn _ ?_
  exact ⟨rfl, hI, fun _ _ _ => rfl⟩
theorem two_congr {m n m' n' : iM Int} (hm : ∀ (Q : Int → iMem → Prop) τ, ip m' Q τ → ip m Q τ) (hn : ∀ (Q : Int → iMem → Prop) τ, ip n' Q τ → ip n Q τ) (h : two R m' n' τ) : two R m n τ := by
  unfold two at *
  refine hm _ _ (ip_mono h (fun r τ1 h1 => hn _ _ h1))
theorem losN_in (hw : WF R) : ∀ n : Nat, (n : Int) ≤ pcn (pou R).1 → (-30000 * (n : Int) ≤ (losN R n).1 ∧ (losN R n).1 ≤ 30000 * (n : Int)) := by
  intro n
  induction n with
  | zero => intro _; exact ⟨Int.le_refl _, Int.le_refl _⟩
  | succ n ih =>
    intro h
    have := ih (by omega)
    have hu := us_in hw (i := (n : Int)) (by omega) (by omega)
    show -30000 * ((n + 1 : Nat) : Int) ≤ (losN R n).1 + its R n ∧ (losN R n).1 + its R n ≤ 30000 * ((n + 1 : Nat) : Int)
    omega
theorem ans_neg (hw : WF R) : (0 ≤ ans R ↔ aSt (pou R) = -1) := by
  have h := pou_ok hw
  have h1 := h.1.2.1
  have h2 := h.2.1
  unfold ans
  by_cases c : aSt (pou R) = -1
  · rw [if_pos c]
    refine ⟨fun _ => c, fun _ => ?_⟩
    split <;> omega
  · rw [if_neg c]
    exact ⟨fun q => by omega, fun q => absurd q c⟩
theorem two_loose (hI : InvX R τ) (k : Int) : two R (iz_Top_loose 0 k) (iz_Model_loose 367 k) τ := by
  have hw := hI.1
  have h240 := pou_240 hw
  have hneg := ans_neg hw
  by_cases hk : 0 ≤ k ∧ k ≤ 2
  · have key := two_poured (R := R) (τ := τ) (Fn := fun r => r = if aSt (pou R) = -1 then (if k = 0 then (losN R (pcn (pou R).1).toNat).1 else if k = 1 then (losN R (pcn (pou R).1).toNat).2.1 else (losN R (pcn (pou R).1).toNat).2.2) else ans R) hI
      (m := fun r1 => iB (iGt r1 9) fun x2 => if x2 = (-1) then iB (α := (Int × (Int × Int))) (iW (S := (Int × (Int × (Int × Int)))) (α := (Int × (Int × Int))) (fun s4 => iB (iGt r1 4) fun x5 => if x5 ≤ s4.2.2.2 then iP (Sum.inr (s4.1, (s4.2.1, s4.2.2.1))) else iB (iz_Press_cell r1 s4.2.2.2 10) fun x6 => iB (iz_Press_used r1 s4.2.2.2) fun x7 => iA (x6 - x7) fun y1 => iB (iP y1) fun x8 => iA (s4.1 + x8) fun y2 => iB (iP y2) fun x9 => iB (α := (Int × Int)) (iB (α := (Unit ⊕ (Int × Int))) (if s4.2.2.1 = (-2) then iP (Sum.inl ()) else if x8 ≤ s4.2.1 then iP (Sum.inr (s4.2.1, s4.2.2.1)) else iP (Sum.inl ())) (Sum.elim (fun s11 => iP (x8, s4.2.2.2)) iP)) fun s10 => iA (s4.2.2.2 + 1) fun y3 => iB (iP y3) fun x12 => iP (Sum.inl (x9, (s10.1, (s10.2, x12))))) (0, (0, ((-2), 0)))) fun s3 => if k = 0 then iP s3.1 else if k = 1 then iP s3.2.1 else iP s3.2.2 else iB (iz_Press_answer r1) fun x13 => iP x13)
      (n := fun x2 => if 0 ≤ x2 then iB (α := (Int × (Int × Int))) (iW (S := (Int × (Int × (Int × Int)))) (α := (Int × (Int × Int))) (fun s4 => iB (iGt 367 32) fun x5 => if x5 ≤ s4.2.2.2 then iP (Sum.inr (s4.1, (s4.2.1, s4.2.2.1))) else iB (iz_Model_looseOf 367 s4.2.2.2) fun x6 => iA (s4.1 + x6) fun y1 => iB (iP y1) fun x7 => iB (α := (Int × Int)) (iB (α := (Unit ⊕ (Int × Int))) (if s4.2.2.1 = (-2) then iP (Sum.inl ()) else if s4.2.1 < x6 then iP (Sum.inl ()) else iP (Sum.inr (s4.2.1, s4.2.2.1))) (Sum.elim (fun s9 => iP (x6, s4.2.2.2)) iP)) fun s8 => iA (s4.2.2.2 + 1) fun y2 => iB (iP y2) fun x10 => iP (Sum.inl (x7, (s8.1, (s8.2, x10))))) (0, (0, ((-2), 0)))) fun s3 => if ¬ k = 0 then if ¬ k = 1 then iP s3.2.2 else iP s3.2.1 else iP s3.1 else iP x2)
      (fun τ1 Q w1 w2 hQ => ?_) (fun τ1 Q w1 w2 hQ => ?_) (fun r r' e e' => e'.trans e.symm)
    · refine two_congr (fun Q τ' h => ?_) (fun Q τ' h => ?_) key
      · unfold iz_Top_loose
        rw [ip_ifF (by omega), ip_ifT (by omega)]
        exact h
      · unfold iz_Model_loose
        rw [ip_B, ip_in, if_neg (show ¬ (k < 0 ∨ 2 < k) by omega), ip_ifT (by omega)]
        exact h
    · have hQ := hQ _ rfl
      rw [ip_B, ip_Gt, w2.2.2.1]
      by_cases c : aSt (pou R) = -1
      · rw [if_pos c] at hQ
        rw [ip_ifT c, ip_B]
        refine ip_mono (Q := fun v τ' => τ' = τ1 ∧ v = losN R (pcn (pou R).1).toNat) ?_ (fun v τ' e => ?_)
        · refine ip_W (fun (q : Int × (Int × (Int × Int))) τ' => τ' = τ1 ∧ (0 ≤ q.2.2.2 ∧ q.2.2.2 ≤ pcn (pou R).1) ∧ (q.1, (q.2.1, q.2.2.1)) = losN R q.2.2.2.toNat) (fun (q : Int × (Int × (Int × Int))) _ => (pcn (pou R).1 - q.2.2.2).toNat) ?_ ⟨rfl, ⟨Int.le_refl _, h240.1⟩, rfl⟩
          intro q τ' ⟨et, b1, b2⟩
          obtain ⟨sm, mo, wh, i⟩ := q
          subst et
          dsimp only at b1 b2 ⊢
          rw [ip_B, ip_Gt, w2.1.1]
          by_cases z : pcn (pou R).1 ≤ i
          · rw [ip_ifT z, ip_P]
            exact ⟨rfl, by rw [b2, show i = pcn (pou R).1 by omega]⟩
          · have hu := us_in hw b1.1 (by omega : i < pcn (pou R).1)
            have hl := losN_in hw i.toNat (by omega)
            rw [← b2] at hl
            have hl : -30000 * ((i.toNat : Nat) : Int) ≤ sm ∧ sm ≤ 30000 * ((i.toNat : Nat) : Int) := hl
            have e1 : (losN R i.toNat).1 = sm := (congrArg Prod.fst b2).symm
            have e2 : (losN R i.toNat).2 = (mo, wh) := (congrArg Prod.snd b2).symm
            have en : losN R (i + 1).toNat = (sm + its R i, if wh = -2 ∨ mo < its R i then (its R i, i) else (mo, wh)) := by
              rw [show (i + 1).toNat = i.toNat + 1 by omega]
              show ((losN R i.toNat).1 + its R (i.toNat : Int), if (losN R i.toNat).2.2 = -2 ∨ (losN R i.toNat).2.1 < its R (i.toNat : Int) then (its R (i.toNat : Int), (i.toNat : Int)) else (losN R i.toNat).2) = _
              rw [e1, e2, show ((i.toNat : Nat) : Int) = i by omega]
            have ei : cf R i 10 - us R i = its R i := rfl
            rw [ip_ifF z, ip_B, ip_pcell hw w2 b1.1 (by omega) (by omega) (by omega), ip_B, ip_used hw w1 w2 b1.1 (by omega), ip_A, ei]
            refine ⟨⟨by omega, by omega⟩, ?_⟩
            rw [ip_B, ip_P, ip_A]
            refine ⟨⟨by omega, by omega⟩, ?_⟩
            rw [ip_B, ip_P, ip_B, ip_B]
            have tail : ∀ x y, (x, y) = (if wh = -2 ∨ mo < its R i then (its R i, i) else (mo, wh)) → ip (iA (i + 1) fun y3 => iB (iP y3) fun x12 => iP (Sum.inl (sm + its R i, (x, (y, x12))) : (Int × (Int × (Int × Int))) ⊕ (Int × (Int × Int)))) (fun r τ'' => Sum.elim (fun s' => (τ'' = τ' ∧ (0 ≤ s'.2.2.2 ∧ s'.2.2.2 ≤ pcn (pou R).1) ∧ (s'.1, (s'.2.1, s'.2.2.1)) = losN R s'.2.2.2.toNat) ∧ (pcn (pou R).1 - s'.2.2.2).toNat < (pcn (pou R).1 - i).toNat) (fun v => τ'' = τ' ∧ v = losN R (pcn (pou R).1).toNat) r) τ' := by
              intro x y hxy
              rw [ip_A]
              refine ⟨⟨by omega, by omega⟩, ?_⟩
              rw [ip_B, ip_P, ip_P]
              simp only [Sum.elim_inl]
              refine ⟨⟨trivial, ⟨by omega, by omega⟩, ?_⟩, by omega⟩
              rw [en, ← hxy]
            by_cases z1 : wh = -2
            · rw [ip_ifT z1, ip_P]
              simp only [Sum.elim_inl, ip_P]
              exact tail _ _ (by rw [if_pos (Or.inl z1)])
            · rw [ip_ifF z1]
              by_cases z2 : its R i ≤ mo
              · rw [ip_ifT z2, ip_P]
                simp only [Sum.elim_inr, ip_P]
                exact tail _ _ (by rw [if_neg (by omega)])
              · rw [ip_ifF z2, ip_P]
                simp only [Sum.elim_inl, ip_P]
                exact tail _ _ (by rw [if_pos (Or.inr (by omega))])
        · rw [e.1, e.2]
          by_cases z0 : k = 0
          · rw [if_pos z0] at hQ
            rw [ip_ifT z0, ip_P]; exact hQ
          · rw [if_neg z0] at hQ
            rw [ip_ifF z0]
            by_cases z1 : k = 1
            · rw [if_pos z1] at hQ
              rw [ip_ifT z1, ip_P]; exact hQ
            · rw [if_neg z1] at hQ
              rw [ip_ifF z1, ip_P]; exact hQ
      · rw [if_neg c] at hQ
        rw [ip_ifF c, ip_B]
        refine ip_answer isPress_52 hw w1 w2 ?_
        rw [ip_P]; exact hQ
    · have hQ := hQ _ rfl
      by_cases c : aSt (pou R) = -1
      · rw [if_pos c] at hQ
        rw [ip_ifT (hneg.mpr c), ip_B]
        refine ip_mono (Q := fun v τ' => τ' = τ1 ∧ v = losN R (pcn (pou R).1).toNat) ?_ (fun v τ' e => ?_)
        · refine ip_W (fun (q : Int × (Int × (Int × Int))) τ' => τ' = τ1 ∧ (0 ≤ q.2.2.2 ∧ q.2.2.2 ≤ pcn (pou R).1) ∧ (q.1, (q.2.1, q.2.2.1)) = losN R q.2.2.2.toNat) (fun (q : Int × (Int × (Int × Int))) _ => (pcn (pou R).1 - q.2.2.2).toNat) ?_ ⟨rfl, ⟨Int.le_refl _, h240.1⟩, rfl⟩
          intro q τ' ⟨et, b1, b2⟩
          obtain ⟨sm, mo, wh, i⟩ := q
          subst et
          dsimp only at b1 b2 ⊢
          rw [ip_B, ip_Gt, w2.1.1]
          by_cases z : pcn (pou R).1 ≤ i
          · rw [ip_ifT z, ip_P]
            exact ⟨rfl, by rw [b2, show i = pcn (pou R).1 by omega]⟩
          · have hu := us_in hw b1.1 (by omega : i < pcn (pou R).1)
            have hl := losN_in hw i.toNat (by omega)
            rw [← b2] at hl
            have hl : -30000 * ((i.toNat : Nat) : Int) ≤ sm ∧ sm ≤ 30000 * ((i.toNat : Nat) : Int) := hl
            have e1 : (losN R i.toNat).1 = sm := (congrArg Prod.fst b2).symm
            have e2 : (losN R i.toNat).2 = (mo, wh) := (congrArg Prod.snd b2).symm
            have en : losN R (i + 1).toNat = (sm + its R i, if wh = -2 ∨ mo < its R i then (its R i, i) else (mo, wh)) := by
              rw [show (i + 1).toNat = i.toNat + 1 by omega]
              show ((losN R i.toNat).1 + its R (i.toNat : Int), if (losN R i.toNat).2.2 = -2 ∨ (losN R i.toNat).2.1 < its R (i.toNat : Int) then (its R (i.toNat : Int), (i.toNat : Int)) else (losN R i.toNat).2) = _
              rw [e1, e2, show ((i.toNat : Nat) : Int) = i by omega]
            rw [ip_ifF z, ip_B, ip_looseOf hw w1 w2 b1.1 (by omega), ip_A]
            refine ⟨⟨by omega, by omega⟩, ?_⟩
            rw [ip_B, ip_P, ip_B, ip_B]
            have tail : ∀ x y, (x, y) = (if wh = -2 ∨ mo < its R i then (its R i, i) else (mo, wh)) → ip (iA (i + 1) fun y2 => iB (iP y2) fun x10 => iP (Sum.inl (sm + its R i, (x, (y, x10))) : (Int × (Int × (Int × Int))) ⊕ (Int × (Int × Int)))) (fun r τ'' => Sum.elim (fun s' => (τ'' = τ' ∧ (0 ≤ s'.2.2.2 ∧ s'.2.2.2 ≤ pcn (pou R).1) ∧ (s'.1, (s'.2.1, s'.2.2.1)) = losN R s'.2.2.2.toNat) ∧ (pcn (pou R).1 - s'.2.2.2).toNat < (pcn (pou R).1 - i).toNat) (fun v => τ'' = τ' ∧ v = losN R (pcn (pou R).1).toNat) r) τ' := by
              intro x y hxy
              rw [ip_A]
              refine ⟨⟨by omega, by omega⟩, ?_⟩
              rw [ip_B, ip_P, ip_P]
              simp only [Sum.elim_inl]
              refine ⟨⟨trivial, ⟨by omega, by omega⟩, ?_⟩, by omega⟩
              rw [en, ← hxy]
            by_cases z1 : wh = -2
            · rw [ip_ifT z1, ip_P]
              simp only [Sum.elim_inl, ip_P]
              exact tail _ _ (by rw [if_pos (Or.inl z1)])
            · rw [ip_ifF z1]
              by_cases z2 : mo < its R i
              · rw [ip_ifT z2, ip_P]
                simp only [Sum.elim_inl, ip_P]
                exact tail _ _ (by rw [if_pos (Or.inr z2)])
              · rw [ip_ifF z2, ip_P]
                simp only [Sum.elim_inr, ip_P]
                exact tail _ _ (by rw [if_neg (by omega)])
        · rw [e.1, e.2]
          by_cases z0 : k = 0
          · rw [if_pos z0] at hQ
            rw [ip_ifF (by omega), ip_P]; exact hQ
          · rw [if_neg z0] at hQ
            rw [ip_ifT z0]
            by_cases z1 : k = 1
            · rw [if_pos z1] at hQ
              rw [ip_ifF (by omega), ip_P]; exact hQ
            · rw [if_neg z1] at hQ
              rw [ip_ifT z1, ip_P]; exact hQ
      · rw [if_neg c] at hQ
        rw [ip_ifF (fun q => c (hneg.mp q)), ip_P]; exact hQ
  · refine two_const (c := -1) hI (fun Q hq => ?_) (fun Q hq => ?_)
    · unfold iz_Top_loose
      by_cases c : k < 0
      · rw [ip_ifT c, ip_P]; exact hq
      · rw [ip_ifF c, ip_ifF (by omega), ip_P]; exact hq
    · unfold iz_Model_loose
      rw [ip_B, ip_in, if_pos (show k < 0 ∨ 2 < k by omega), ip_ifF (by omega), ip_P]; exact hq
end
