/-! ===== sums over columns ===== -/
theorem ip_sum {τ : iMem} {a cnt B : Int} {g : Int → Int} {step : (Int × Int) → iM ((Int × Int) ⊕ Int)} (hc : 0 ≤ cnt) (hc2 : cnt ≤ 300) (hB : 0 ≤ B) (hB2 : B ≤ 1000000) (hg : ∀ i, 0 ≤ i → i < cnt → -B ≤ g i ∧ g i ≤ B)
    (h1 : ∀ s, ip (step (s, cnt + a)) (fun r τ' => τ' = τ ∧ r = Sum.inr s) τ)
    (h2 : ∀ s i, 0 ≤ i → i < cnt → -400000000 ≤ s → s ≤ 400000000 → ip (step (s, i + a)) (fun r τ' => τ' = τ ∧ r = Sum.inl (s + g i, i + 1 + a)) τ) : ip (iW step (0, a)) (fun v τ' => τ' = τ ∧ v = sI g cnt) τ := by
  refine ip_W (fun (q : Int × Int) τ' => τ' = τ ∧ ∃ i, 0 ≤ i ∧ i ≤ cnt ∧ q = (sI g i, i + a)) (fun (q : Int × Int) _ => (cnt + a - q.2).toNat) ?_ ⟨rfl, 0, Int.le_refl _, hc, by rw [sI_0, Int.zero_add]⟩
  intro q τ' ⟨et, i, i0, i1, eq⟩
  subst et eq
  by_cases c : i = cnt
  · subst c
    refine ip_mono (h1 _) (fun r τ'' e => ?_)
    rw [e.2]
    exact ⟨e.1, rfl⟩
  · have hb := sI_bound (f := g) (n := i) (lo := -B) (hi := B) (fun j a b => hg j a (by omega)) i0
    have hm1 : -B * i ≥ -1000000 * 300 := by
      have h1 : B * i ≤ 1000000 * 300 := Int.mul_le_mul hB2 (by omega) i0 (by omega)
      rw [Int.neg_mul]; omega
    have hm2 : B * i ≤ 1000000 * 300 := Int.mul_le_mul hB2 (by omega) i0 (by omega)
    refine ip_mono (h2 _ i i0 (by omega) (by omega) (by omega)) (fun r τ'' e => ?_)
    rw [e.2]
    simp only [Sum.elim_inl]
    refine ⟨⟨e.1, i + 1, by omega, by omega, ?_⟩, by omega⟩
    rw [sI_s i0]
theorem iz_0 (x : Int) : x + 0 = x := Int.add_zero x
/-- a column's use -/
noncomputable def us (R : aRun) (i : Int) : Int := cf R i 5 + (if cf R i 7 + cf R i 6 ≤ 0 then 0 else rs R 6) + cf R i 8 * rs R 5
noncomputable def its (R : aRun) (i : Int) : Int := cf R i 10 - us R i
noncomputable def losN (R : aRun) : Nat → Int × (Int × Int)
  | 0 => (0, (0, -2))
  | n + 1 => ((losN R n).1 + its R n, if (losN R n).2.2 = -2 ∨ (losN R n).2.1 < its R n then (its R n, (n : Int)) else (losN R n).2)
section
variable {τ : iMem} {R : aRun}
theorem us_in (hw : WF R) {i : Int} (h0 : 0 ≤ i) (h1 : i < pcn (pou R).1) : (0 ≤ us R i ∧ us R i ≤ 30000) ∧ (0 ≤ cf R i 8 * rs R 5 ∧ cf R i 8 * rs R 5 ≤ 5460) ∧ (-30000 ≤ its R i ∧ its R i ≤ 30000) := by
  have hc := cf_in hw h0 h1
  have h5 := hw.2.1.2.2.2.2.2.1
  have h6 := hw.2.1.2.2.2.2.2.2.1
  have hm : 0 ≤ cf R i 8 * rs R 5 := Int.mul_nonneg hc.2.2.2.2.1.1 (by omega)
  have hm2 : cf R i 8 * rs R 5 ≤ 1820 * 3 := Int.mul_le_mul hc.2.2.2.2.1.2 h5.2 (by omega) (by omega)
  have hr : 0 ≤ (if cf R i 7 + cf R i 6 ≤ 0 then 0 else rs R 6) ∧ (if cf R i 7 + cf R i 6 ≤ 0 then 0 else rs R 6) ≤ 9 := by split <;> omega
  unfold its us
  omega
theorem ip_used {i : Int} {Q : Int → iMem → Prop} (hw : WF R) (hx : Cx R 70 53 1 τ) (hP : PoC R 52 79 320 240 τ (pou R)) (h0 : 0 ≤ i) (h1 : i < pcn (pou R).1) : ip (iz_Press_used 52 i) Q τ ↔ Q (us R i) τ := by
  have hc := cf_in hw h0 h1
  have hu := us_in hw h0 h1
  have h5 := hw.2.1.2.2.2.2.2.1
  have h6 := hw.2.1.2.2.2.2.2.2.1
  have hr := isRun_1
  have hrr : 0 ≤ (if cf R i 7 + cf R i 6 ≤ 0 then 0 else rs R 6) ∧ (if cf R i 7 + cf R i 6 ≤ 0 then 0 else rs R 6) ≤ 9 := by split <;> omega
  unfold iz_Press_used
  rw [ip_B, ip_pcell hw hP h0 h1 (by omega) (by omega), ip_B, ip_pcell hw hP h0 h1 (by omega) (by omega), ip_B, ip_A]
  refine (and_iff_right ⟨by omega, by omega⟩).trans ?_
  rw [ip_ifP, ip_B, pr_0 isPress_52]
  have key : ∀ f : Int → iM Int, ip (if (if cf R i 7 + cf R i 6 ≤ 0 then (0 : Int) else 1) = 0 then iP 0 else iB (iz_Run_setting 1 6) fun x5 => iP x5) (fun a τ' => ip (f a) Q τ') τ ↔ ip (f (if cf R i 7 + cf R i 6 ≤ 0 then 0 else rs R 6)) Q τ := by
    intro f
    by_cases z : cf R i 7 + cf R i 6 ≤ 0
    · rw [if_pos z, if_pos z, ip_ifT rfl, ip_P]
    · rw [if_neg z, if_neg z, ip_ifF (by omega), ip_B, ip_settingC hr hx.1 (by omega) (by omega), ip_P]
  rw [key, ip_B, ip_pcell hw hP h0 h1 (by omega) (by omega), ip_B, ip_pcell hw hP h0 h1 (by omega) (by omega), ip_B, ip_settingC hr hx.1 (by omega) (by omega), ip_A, ip_A, ip_A]
  refine (and_iff_right ⟨by omega, by omega⟩).trans ((and_iff_right ⟨by omega, by omega⟩).trans ((and_iff_right ⟨by omega, by omega⟩).trans ?_))
  rw [ip_P]
  exact Iff.rfl
theorem losN_in (hw : WF R) : ∀ n : Nat, (n : Int) ≤ pcn (pou R).1 → (-30000 * (n : Int) ≤ (losN R n).1 ∧ (losN R n).1 ≤ 30000 * (n : Int)) := by
  intro n
  induction n with
  | zero => intro _; exact ⟨Int.le_refl _, Int.le_refl _⟩
  | succ n ih =>
    intro h
    have := ih (by omega)
    have hu := us_in hw (i := (n : Int)) (by omega) (by omega)
    show -30000 * ((n + 1 : Nat) : Int) ≤ (losN R n).1 + its R n ∧ (losN R n).1 + its R n ≤ 30000 * ((n + 1 : Nat) : Int)
    omega
theorem ans_neg (hw : WF R) : (0 ≤ ans R ↔ aSt (pou R) = -1) := by
  have h := pou_ok hw
  have h1 := h.1.2.1
  have h2 := h.2.1
  unfold ans
  by_cases c : aSt (pou R) = -1
  · rw [if_pos c]
    refine ⟨fun _ => c, fun _ => ?_⟩
    split <;> omega
  · rw [if_neg c]
    exact ⟨fun q => by omega, fun q => absurd q c⟩
theorem gv_loose (hI : InvX R τ) (h0 : pcn (pou R).1 = 0) (ha : aSt (pou R) = -1) : gv R (iz_Top_loose 0 2) (-2) τ := by
  unfold iz_Top_loose
  rw [if_neg (show ¬ (2 : Int) < 0 by omega), if_pos (show (2 : Int) ≤ 2 by omega)]
  refine gv_poured hI (fun τ1 Q w1 w2 hQ => ?_)
  · rw [ip_B, ip_Gt, w2.2.2.1, ip_ifT ha, ip_B]
    refine ip_mono (Q := fun v τ' => τ' = τ1 ∧ v = (0, (0, -2))) ?_ (fun v τ' e => ?_)
    · refine ip_W (fun (q : Int × (Int × (Int × Int))) τ' => τ' = τ1 ∧ q = (0, (0, (-2, 0)))) (fun _ _ => 0) ?_ ⟨rfl, rfl⟩
      intro q τ' ⟨et, b1⟩
      subst et b1
      dsimp only
      rw [ip_B, ip_Gt, w2.1.1, h0, ip_ifT (by omega), ip_P]
      exact ⟨rfl, rfl⟩
    · rw [e.1, e.2, ip_ifF (by omega), ip_ifF (by omega), ip_P]
      exact hQ
end
