/-! ===== asked of another RUN ===== -/
theorem p_0 : qm_rf 322 0 = 323 := pr_0 isPress_322
theorem l_406 : iLen 406 = 8 := by decide +kernel
theorem l_407 : iLen 407 = 8 := by decide +kernel
theorem r_323 : isRun 323 := fl_r (ft_F (pr_F isPress_322))
theorem rr_1 {o : Nat} (h : isRun o) : qm_rf o 1 = o + 1 := h.1.1
theorem rr_2 {o : Nat} (h : isRun o) : qm_rf o 2 = o + 2 := h.1.2
theorem rl_1 {o : Nat} (h : isRun o) : iLen (o + 1) = 8 := h.2.1.1
theorem rl_2 {o : Nat} (h : isRun o) : iLen (o + 2) = 256 := h.2.1.2
section
variable {τ : iMem} {R : aRun}
theorem ip_copyFrom {o p : Nat} {Q : Unit → iMem → Prop} (ho : isRun o) (hp : isRun p) (hop : o + 2 < p ∨ p + 2 < o) (hom : o + 2 < 405) (hR : RunC τ p R) (hn : rn R ≤ 16)
    (hQ : ∀ τ', RunC τ' o R → (∀ a k, ¬ ((a = o ∧ k = 0) ∨ a = o + 1 ∨ a = o + 2) → τ' a k = τ a k) → Q () τ') : ip (iz_Run_copyFrom o p) Q τ := by
  unfold iz_Run_copyFrom
  rw [ip_B, ip_Gt, ip_B, ip_Pt, ip_B, hR.1]
  refine ip_mono (Q := fun _ τ1 => (∀ k, 0 ≤ k → k < 8 → τ1 (o + 1) k = τ (p + 1) k) ∧ (∀ a k, a ≠ o + 1 → τ1 a k = iu τ o 0 (rn R) a k)) ?_ (fun _ τ1 e => ?_)
  · refine ip_W (fun i τ1 => (0 ≤ i ∧ i ≤ 8) ∧ (∀ k, 0 ≤ k → k < i → τ1 (o + 1) k = τ (p + 1) k) ∧ (∀ a k, a ≠ o + 1 → τ1 a k = iu τ o 0 (rn R) a k)) (fun i _ => (8 - i).toNat) ?_ ⟨⟨Int.le_refl _, by omega⟩, fun k k0 k1 => by omega, fun _ _ _ => rfl⟩
    intro i τ1 ⟨b1, b2, b3⟩
    by_cases c : 8 ≤ i
    · rw [ip_ifT c, ip_P]
      exact ⟨fun k k0 k1 => b2 k k0 (by omega), b3⟩
    · rw [ip_ifF c, ip_B, ip_Ld, rr_1 hp, rl_1 hp]
      refine ⟨⟨by omega, by omega⟩, ?_⟩
      rw [ip_B, ip_St, rr_1 ho, rl_1 ho]
      refine ⟨⟨⟨by omega, by omega⟩, by omega⟩, ?_⟩
      rw [ip_A]
      refine ⟨⟨by omega, by omega⟩, ?_⟩
      rw [ip_B, ip_P, ip_P]
      simp only [Sum.elim_inl]
      refine ⟨⟨⟨by omega, by omega⟩, fun k k0 k1 => ?_, fun a k h => ?_⟩, by omega⟩
      · by_cases d : k = i
        · subst d
          rw [iu_eq, b3 _ _ (by omega), iu_ne (Or.inl (by omega))]
        · rw [iu_ne (Or.inr d)]; exact b2 k k0 (by omega)
      · rw [iu_ne (Or.inl h)]; exact b3 a k h
  · rw [ip_B, rr_2 ho, rl_2 ho]
    refine ip_mono (Q := fun _ τ2 => (∀ k, 0 ≤ k → k < 256 → τ2 (o + 2) k = τ (p + 2) k) ∧ (∀ a k, a ≠ o + 2 → τ2 a k = τ1 a k)) ?_ (fun _ τ2 e2 => ?_)
    · refine ip_W (fun i τ2 => (0 ≤ i ∧ i ≤ 256) ∧ (∀ k, 0 ≤ k → k < i → τ2 (o + 2) k = τ (p + 2) k) ∧ (∀ a k, a ≠ o + 2 → τ2 a k = τ1 a k)) (fun i _ => (256 - i).toNat) ?_ ⟨⟨Int.le_refl _, by omega⟩, fun k k0 k1 => by omega, fun _ _ _ => rfl⟩
      intro i τ2 ⟨b1, b2, b3⟩
      by_cases c : 256 ≤ i
      · rw [ip_ifT c, ip_P]
        exact ⟨fun k k0 k1 => b2 k k0 (by omega), b3⟩
      · rw [ip_ifF c, ip_B, ip_Ld, rr_2 hp, rl_2 hp]
        refine ⟨⟨by omega, by omega⟩, ?_⟩
        rw [ip_B, ip_St, rl_2 ho]
        refine ⟨⟨⟨by omega, by omega⟩, by omega⟩, ?_⟩
        rw [ip_A]
        refine ⟨⟨by omega, by omega⟩, ?_⟩
        rw [ip_B, ip_P, ip_P]
        simp only [Sum.elim_inl]
        refine ⟨⟨⟨by omega, by omega⟩, fun k k0 k1 => ?_, fun a k h => ?_⟩, by omega⟩
        · by_cases d : k = i
          · subst d
            rw [iu_eq, b3 _ _ (by omega), e.2 _ _ (by omega), iu_ne (Or.inl (by omega))]
          · rw [iu_ne (Or.inr d)]; exact b2 k k0 (by omega)
        · rw [iu_ne (Or.inl h)]; exact b3 a k h
    · rw [ip_P]
      refine hQ τ2 ⟨?_, fun k k0 k1 => ?_, fun b w b0 b1 w0 w1 => ?_⟩ (fun a k h => ?_)
      · rw [e2.2 _ _ (by omega), e.2 _ _ (by omega), iu_eq]
      · rw [e2.2 _ _ (by omega), e.1 k k0 k1]; exact hR.2.1 k k0 k1
      · rw [e2.1 _ (by omega) (by omega)]; exact hR.2.2 b w b0 b1 w0 w1
      · rw [e2.2 _ _ (by omega), e.2 _ _ (by omega), iu_ne (by omega)]
/-! the model's -/
/-- the other one's RUN put back -/
theorem back_is {τ1 τ2 τ3 : iMem} (h1 : ∀ k, 0 ≤ k → k < 265 → τ1 372 k = τ 368 k) (h2 : ∀ k, τ2 372 k = τ1 372 k) (h3 : ∀ k, k < 0 ∨ 265 ≤ k → τ2 368 k = τ 368 k) (h4 : ∀ k, 0 ≤ k → k < 265 → τ3 368 k = τ2 372 k) (h5 : ∀ a k, ¬ (a = 368 ∧ 0 ≤ k ∧ k < 265) → τ3 a k = τ2 a k) : ∀ k, τ3 368 k = τ 368 k := by
  intro k
  by_cases c : 0 ≤ k ∧ k < 265
  · rw [h4 k c.1 c.2, h2, h1 k c.1 c.2]
  · rw [h5 368 k (by omega), h3 k (by omega)]
/-- the SETTINGS' bounds -/
def lwV (k : Int) : Int := if k = 1 then 10 else if k = 4 then 0 else if k = 6 then 0 else if k = 7 then 0 else 1
def hiV (k : Int) : Int := if k = 0 then 5 else if k = 1 then 400 else if k = 5 then 3 else if k = 7 then 60 else 9
def InvS (τ : iMem) : Prop := ∀ k, 0 ≤ k → k < 8 → τ 406 k = lwV k ∧ τ 407 k = hiV k
theorem InvS.frame {τ' : iMem} (h : InvS τ) (hf : ∀ a k, a = 406 ∨ a = 407 → τ' a k = τ a k) : InvS τ' := fun k k0 k1 => by
  rw [hf _ _ (Or.inl rfl), hf _ _ (Or.inr rfl)]; exact h k k0 k1
def okS (k v : Int) : Prop := (0 ≤ k ∧ k < 8) ∧ lwV k ≤ v ∧ v ≤ hiV k
theorem ip_takes {k v : Int} {Q : Int → iMem → Prop} (hS : InvS τ) (hQ : ∀ r, (r = 1 ∧ okS k v) ∨ (r = 0 ∧ ¬ okS k v) → Q r τ) : ip (iz_Run_takes k v) Q τ := by
  unfold iz_Run_takes
  unfold okS at hQ
  by_cases c1 : k < 0
  · rw [ip_ifT c1, ip_P]; exact hQ 0 (by omega)
  · rw [ip_ifF c1]
    by_cases c2 : 8 ≤ k
    · rw [ip_ifT c2, ip_P]; exact hQ 0 (by omega)
    · obtain ⟨s1, s2⟩ := hS k (by omega) (by omega)
      rw [ip_ifF c2, ip_B, ip_Ld, l_406, s1]
      refine ⟨⟨by omega, by omega⟩, ?_⟩
      by_cases c3 : v < lwV k
      · rw [ip_ifT c3, ip_P]; exact hQ 0 (by omega)
      · rw [ip_ifF c3, ip_B, ip_Ld, l_407, s2]
        refine ⟨⟨by omega, by omega⟩, ?_⟩
        by_cases c4 : hiV k < v
        · rw [ip_ifT c4, ip_P]; exact hQ 0 (by omega)
        · rw [ip_ifF c4, ip_P]; exact hQ 1 (by omega)
/-- another SETTING -/
def RS (R : aRun) (j x : Int) : aRun := (R.1, (fun k => if k = j then x else R.2.1 k), R.2.2)
theorem RS_wf {j x : Int} (h : WF R) (hs : okS j x) : WF (RS R j x) := by
  obtain ⟨a1, a2, a3, a4⟩ := h
  refine ⟨a1, ?_, a3, a4⟩
  have e : ∀ k, rs (RS R j x) k = if k = j then x else rs R k := fun _ => rfl
  unfold okS lwV hiV at hs
  unfold WFs at a2 ⊢
  rw [e, e, e, e, e, e, e, e]
  omega
theorem RS_rc {j x : Int} {o : Nat} (h : RunC τ o R) : RunC (iu τ (o + 1) j x) o (RS R j x) := by
  refine ⟨?_, fun k k0 k1 => ?_, fun b w b0 b1 w0 w1 => ?_⟩
  · rw [iu_ne (Or.inl (by omega))]; exact h.1
  · show _ = if k = j then x else rs R k
    by_cases c : k = j
    · rw [if_pos c, c, iu_eq]
    · rw [if_neg c, iu_ne (Or.inr c)]; exact h.2.1 k k0 k1
  · rw [iu_ne (Or.inl (by omega))]; exact h.2.2 b w b0 b1 w0 w1
noncomputable def triV (R : aRun) (k v : Int) : Int := @ite Int (okS k v) (Classical.propDecidable _) (ans (RS R k v)) (-1)
end
