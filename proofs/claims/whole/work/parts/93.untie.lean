/-! ===== untie, the object's ===== -/
section
variable {τ τ0 : iMem} {R : aRun}
def byN (F : Int → Prop) (t n : Int) (k : Nat) (r : Int) : Prop :=
  (r = -2 ∧ ∀ i, i < k → ¬ (bn (sq t i) 18 = n ∧ F (sq t i))) ∨ ∃ i, i < k ∧ r = sq t i ∧ (bn (sq t i) 18 = n ∧ F (sq t i)) ∧ ∀ j, j < i → ¬ (bn (sq t j) 18 = n ∧ F (sq t j))
theorem ip_untiedBy {s h t n : Int} {Q : Int → iMem → Prop} (hU : Un R τ0 τ) (s0 : 0 ≤ s) (s1 : s < ns R) (h0 : 0 ≤ h) (h1 : h ≤ 2000) (t0 : 0 ≤ t) (t1 : t < 65536) (t8 : bn t 18 ≤ 8)
    (hQ : ∀ r τ', byN (FV R s h) t n 256 r → Un R τ0 τ' → Q r τ') : ip (iz_Top_untiedBy 0 s h t n) Q τ := by
  obtain ⟨-, q2, -⟩ := sq_all t0 t1 t8
  unfold iz_Top_untiedBy
  rw [ip_B]
  refine ip_mono (Q := fun v τ1 => (v = Sum.inl () ∧ byN (FV R s h) t n 256 (-2) ∨ ∃ r, v = Sum.inr r ∧ byN (FV R s h) t n 256 r) ∧ Un R τ0 τ1) ?_ (fun v τ1 e => ?_)
  · refine ip_W (fun (q : Int × Int) τ1 => (0 ≤ q.2 ∧ q.2 ≤ 256) ∧ q.1 = sq t q.2.toNat ∧ (∀ i, i < q.2.toNat → ¬ (bn (sq t i) 18 = n ∧ FV R s h (sq t i))) ∧ Un R τ0 τ1) (fun q _ => (256 - q.2).toNat) ?_ ⟨⟨Int.le_refl _, by show (0 : Int) ≤ 256; omega⟩, rfl, fun i hi => absurd hi (Nat.not_lt_zero _), hU⟩
    intro q τ1 ⟨b1, b2, b3, b4⟩
    obtain ⟨x, i⟩ := q
    dsimp only at b1 b2 b3 b4 ⊢
    subst b2
    have hx := (q2 i.toNat).1
    by_cases c : 256 ≤ i
    · rw [ip_ifT c, ip_P]
      simp only [Sum.elim_inr]
      exact ⟨Or.inl ⟨trivial, Or.inl ⟨rfl, fun j hj => b3 j (by omega)⟩⟩, b4⟩
    · rw [ip_ifF c, ip_B, ip_bc, cn_bn hx.1 hx.2, ip_B]
      have tail : ∀ τ2, Un R τ0 τ2 → ¬ (bn (sq t i.toNat) 18 = n ∧ FV R s h (sq t i.toNat)) → ip (iA (sq t i.toNat - t) fun y1 => iB (iP (ibAnd y1 t)) fun x6 => iA (i + 1) fun y2 => iB (iP y2) fun x7 => iP (Sum.inl (x6, x7) : (Int × Int) ⊕ (Unit ⊕ Int)))
          (fun r τ' => Sum.elim (fun (s' : Int × Int) => ((0 ≤ s'.2 ∧ s'.2 ≤ 256) ∧ s'.1 = sq t s'.2.toNat ∧ (∀ i, i < s'.2.toNat → ¬ (bn (sq t i) 18 = n ∧ FV R s h (sq t i))) ∧ Un R τ0 τ') ∧ (256 - s'.2).toNat < (256 - i).toNat) (fun v => (v = Sum.inl () ∧ byN (FV R s h) t n 256 (-2) ∨ ∃ r, v = Sum.inr r ∧ byN (FV R s h) t n 256 r) ∧ Un R τ0 τ') r) τ2 := by
        intro τ2 u1 u2
        rw [ip_A]
        refine ⟨⟨by omega, by omega⟩, ?_⟩
        rw [ip_B, ip_P, ip_A]
        refine ⟨⟨by omega, by omega⟩, ?_⟩
        rw [ip_B, ip_P, ip_P]
        simp only [Sum.elim_inl]
        refine ⟨⟨⟨by omega, by omega⟩, ?_, fun j hj => ?_, u1⟩, by omega⟩
        · rw [show (i + 1).toNat = i.toNat + 1 by omega]
          rfl
        · by_cases z : j < i.toNat
          · exact b3 j z
          · rw [show j = i.toNat by omega]; exact u2
      by_cases d : bn (sq t i.toNat) 18 = n
      · rw [ip_ifF (by omega), ip_B]
        refine ip_fitsUntied b4 s0 s1 h0 h1 hx.1 (by omega) (fun r τ2 hr u => ?_)
        rcases hr with ⟨r1, r2⟩ | ⟨r1, r2⟩
        · rw [ip_ifF (by omega), ip_P]
          simp only [Sum.elim_inr, ip_P]
          exact ⟨Or.inr ⟨_, rfl, Or.inr ⟨i.toNat, by omega, rfl, ⟨d, r2⟩, b3⟩⟩, u⟩
        · rw [ip_ifT r1, ip_P]
          simp only [Sum.elim_inl]
          exact tail τ2 u (fun z => r2 z.2)
      · rw [ip_ifT d, ip_P]
        simp only [Sum.elim_inl]
        exact tail τ1 b4 (fun z => d z.1)
  · obtain ⟨e1, e2⟩ := e
    rcases e1 with ⟨z1, z2⟩ | ⟨r, z1, z2⟩
    · rw [z1, Sum.elim_inl, ip_P]
      exact hQ _ _ z2 e2
    · rw [z1, Sum.elim_inr, ip_P]
      exact hQ _ _ z2 e2
noncomputable def untV (R : aRun) (s h : Int) : Int := if (0 ≤ s ∧ s < ns R) ∧ 0 ≤ h ∧ h ≤ 2000 then bO (FV R s h) (tiV R s (rn R).toNat) (pcP (tiV R s (rn R).toNat)) else -1
theorem FV_more (hw : WF R) {s h x t : Int} (hh : h ≤ 2000) (hi : ∀ b, bt x b = true → bt t b = true) (hF : FV R s h x) : FV R s h t := by
  have hb := bg_in hw s
  have := RU_more (m := x) (t := t) hw (s := s) hh hi (rs R 0).toNat (bg R s) hb.1
  unfold FV at *
  omega
theorem gv_untie (hI : InvX R τ) (s h : Int) : gv R (iz_Top_untie 0 s h) (untV R s h) τ := by
  have hw := hI.1
  unfold iz_Top_untie
  refine gv_asks hI (fun a1 a2 a3 a4 τ1 hX h9 hx => ?_) (fun z => if_neg z)
  have ev : untV R s h = bO (FV R s h) (tiV R s (rn R).toNat) (pcP (tiV R s (rn R).toNat)) := if_pos ⟨⟨a1, a2⟩, a3, a4⟩
  have ht := tiV_16 (R := R) (s := s) hw
  rw [ev]
  generalize hte : tiV R s (rn R).toNat = t at ht ⊢
  obtain ⟨q1, q2, q3, q4, q5, q6⟩ := sq_all ht.1.1 ht.1.2 ht.2
  generalize hPe : pcP t = P at q1 q3 q4 q5 ⊢
  have best := bO_is (F := FV R s h) (fun i => (q2 i).1.1) P
  unfold gv
  rw [t_0, t_7, p_0, pr_1 isPress_322, ip_B]
  refine ip_ask hX (fun τ2 x1 x2 x3 => ?_)
  rw [ip_B]
  refine ip_Play isPress_322 hw x2 x1.2.2.1.1 x1.2.2.1.2.1 (fun τ3 v1 v2 => ?_)
  have hf3 : ∀ a j, a < 322 ∨ 366 < a → τ3 a j = τ1 a j := fun a j h => by rw [v2 a j (by omega), x3 a j (by omega)]
  have hI3 : InvX R τ3 := x1.b ⟨v1.2.1.z hw, v1.2.2.2.l, by rw [v2 322 5 (by omega), v2 322 6 (by omega)]; exact x1.2.2.1.2.2⟩ (fun a j h => v2 a j (by omega))
  have hU3 : Un R τ1 τ3 := ⟨hI3, RunU_C v1.1, v1.2.1, hf3⟩
  rw [ip_B]
  refine ip_tiesIn hw v1.1 ?_
  rw [hte, ip_B]
  have fin : ∀ τ4, Un R τ1 τ4 → InvX R τ4 ∧ ∀ a k, ¬ zw a k → τ4 a k = τ1 a k := fun τ4 u => ⟨u.1, fun a k z => u.2.2.2 a k (by unfold zw at z; omega)⟩
  refine ip_fitsUntied hU3 a1 a2 a3 a4 ht.1.1 (by omega) (fun r τ4 hr u4 => ?_)
  rcases hr with ⟨r1, r2⟩ | ⟨r1, r2⟩
  · rw [ip_ifT (by omega), ip_B, ip_bc, cn_bn ht.1.1 ht.1.2, ip_B]
    refine ip_mono (Q := fun v τ5 => (v = Sum.inl () ∧ isB (FV R s h) t P t ∨ ∃ r, v = Sum.inr r ∧ isB (FV R s h) t P r) ∧ Un R τ1 τ5) ?_ (fun v τ5 e => ?_)
    · refine ip_W (fun n τ5 => (0 ≤ n ∧ n ≤ bn t 18 + 0) ∧ (∀ i, i < P → FV R s h (sq t i) → n ≤ bn (sq t i) 18) ∧ Un R τ1 τ5) (fun n _ => (bn t 18 - n).toNat) ?_ ⟨⟨Int.le_refl _, by have := bn_in (x := t) (n := 18) (by omega); omega⟩, fun i _ _ => (bn_in (by omega)).1, u4⟩
      intro n τ5 ⟨b1, b2, b3⟩
      by_cases c : bn t 18 ≤ n
      · rw [ip_ifT c, ip_P]
        simp only [Sum.elim_inr]
        refine ⟨Or.inl ⟨trivial, Or.inr ⟨P - 1, by omega, ?_, ?_⟩⟩, b3⟩
        · exact ((q4 (P - 1)).mpr (by rw [Nat.mod_eq_of_lt (by omega)]; omega)).symm
        · have e := (q4 (P - 1)).mpr (by rw [Nat.mod_eq_of_lt (by omega)]; omega)
          rw [e]
          refine ⟨r2, fun j hj hF => by have := b2 j hj hF; omega, fun j hj hF => ?_⟩
          have h1 := b2 j (by omega) hF
          have h2 := q6 j
          have h3 := (q4 j).mp (h2.2 (by omega))
          rw [Nat.mod_eq_of_lt (by omega)] at h3
          omega
      · rw [ip_ifF c, ip_B]
        refine ip_untiedBy b3 a1 a2 a3 a4 ht.1.1 ht.1.2 ht.2 (fun r τ6 hr u6 => ?_)
        rcases hr with ⟨z1, z2⟩ | ⟨i, i1, i2, i3, i4⟩
        · rw [ip_ifT z1, ip_A]
          refine ⟨⟨by omega, by omega⟩, ?_⟩
          rw [ip_B, ip_P, ip_P]
          simp only [Sum.elim_inl]
          refine ⟨⟨⟨by omega, by omega⟩, fun i hi hF => ?_, u6⟩, by omega⟩
          have h1 := b2 i hi hF
          by_cases z : bn (sq t i) 18 = n
          · exact absurd ⟨z, hF⟩ (z2 i (by omega))
          · omega
        · have := (q2 i).1
          rw [ip_ifF (by omega), ip_P]
          simp only [Sum.elim_inr]
          have hiP : i < P := by
            by_cases z : i < P
            · exact z
            · have e := q5 (i - P)
              rw [show i - P + P = i by omega] at e
              rw [e] at i3
              exact absurd i3 (i4 (i - P) (by omega))
          refine ⟨Or.inr ⟨r, rfl, Or.inr ⟨i, hiP, i2, i3.2, fun j hj hF => by have := b2 j hj hF; omega, fun j hj hF => ?_⟩⟩, u6⟩
          have h1 := b2 j (by omega) hF
          by_cases z : bn (sq t j) 18 = n
          · exact absurd ⟨z, hF⟩ (i4 j hj)
          · omega
    · obtain ⟨e1, e2⟩ := e
      rcases e1 with ⟨z1, z2⟩ | ⟨r, z1, z2⟩
      · rw [z1, Sum.elim_inl, ip_P]
        exact ⟨isB_one z2 best, fin τ5 e2⟩
      · rw [z1, Sum.elim_inr, ip_P]
        exact ⟨isB_one z2 best, fin τ5 e2⟩
  · rw [ip_ifF (by omega), ip_P]
    have none : isB (FV R s h) t P (-2) := Or.inl ⟨rfl, fun i _ hF => r2 (FV_more hw a4 (q2 i).2 hF)⟩
    exact ⟨isB_one none best, fin τ4 u4⟩
end
