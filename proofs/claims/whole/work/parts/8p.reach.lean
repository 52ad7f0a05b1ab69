section
variable {τ : iMem} {R : aRun}
def m1 (x : Int) : Int := if x = -1 then 100000 else x
theorem ip_goesOn {s p c h : Int} {t : Int → Int} {Q : Unit → iMem → Prop} (hw : WF R) (hx : Mx R τ) (a1 : 0 ≤ s) (a2 : s < ns R) (p0 : bg R s ≤ p) (p1 : p ≤ bg R (s + 1)) (hen : en R p) (c0 : 0 ≤ c) (c1 : c < 20) (hh : 0 ≤ h) (hh2 : h ≤ 2000) (hc : τ 399 p = c) (ht : ∀ e, p ≤ e → e ≤ bg R (s + 1) → τ 400 e = m1 (t e)) (ht2 : ∀ e, p ≤ e → e ≤ bg R (s + 1) → -1 ≤ t e ∧ t e < 20)
    (hQ : ∀ τ', (∀ e, p ≤ e → e ≤ bg R (s + 1) → τ' 400 e = m1 (if enb R e = 0 then t e else mer (t e) (lo R p e c h))) → (∀ a k, ¬ (a = 400 ∧ p ≤ k ∧ k ≤ bg R (s + 1)) → τ' a k = τ a k) → Q () τ') : ip (iz_Model_goesOn 367 s p h) Q τ := by
  have h90 := hw.2.2.2
  have hb := bg_step hw s
  unfold iz_Model_goesOn
  rw [ip_B]
  refine ip_mono (Q := fun _ τ' => (∀ e, p ≤ e → e ≤ bg R (s + 1) → τ' 400 e = m1 (if enb R e = 0 then t e else mer (t e) (lo R p e c h))) ∧ (∀ a k, ¬ (a = 400 ∧ p ≤ k ∧ k ≤ bg R (s + 1)) → τ' a k = τ a k)) ?_ (fun _ τ' e => by rw [ip_P]; exact hQ τ' e.1 e.2)
  refine ip_W (fun j τ' => (p ≤ j ∧ j ≤ bg R (s + 1) + 1) ∧ (∀ e, p ≤ e → e ≤ bg R (s + 1) → τ' 400 e = m1 (if e < j then (if enb R e = 0 then t e else mer (t e) (lo R p e c h)) else t e)) ∧ (∀ a k, ¬ (a = 400 ∧ p ≤ k ∧ k ≤ bg R (s + 1)) → τ' a k = τ a k)) (fun j _ => (bg R (s + 1) + 1 - j).toNat) ?_ ⟨⟨Int.le_refl _, by omega⟩, fun e e0 e1 => by rw [if_neg (by omega)]; exact ht e e0 e1, fun _ _ _ => rfl⟩
  intro j τ' ⟨b1, b2, b3⟩
  have hx' : Mx R τ' := hx.frame (fun a k z => b3 a k (by omega))
  have hc' : τ' 399 p = c := (b3 _ _ (by omega)).trans hc
  rw [ip_B, ip_endOf hx'.2 hw a1 a2]
  by_cases z : bg R (s + 1) < j
  · rw [ip_ifT z, ip_P]
    exact ⟨fun e e0 e1 => by rw [b2 e e0 e1, if_pos (show e < j by omega)], b3⟩
  · have tj := b2 j b1.1 (by omega)
    have tj2 := ht2 j b1.1 (by omega)
    rw [if_neg (show ¬ j < j by omega)] at tj
    have hlo := lo_in hw (p := p) (e := j) (c := c) (h := h) (by omega) (by omega) c0 c1 hh2
    have tail : ∀ τ3 : iMem, τ3 400 j = m1 (if enb R j = 0 then t j else mer (t j) (lo R p j c h)) → (∀ a k, ¬ (a = 400 ∧ k = j) → τ3 a k = τ' a k) → ip (iA (j + 1) fun y1 => iB (iP y1) fun x11 => iP (Sum.inl x11 : Int ⊕ Unit)) (fun r2 τ'' => Sum.elim (fun s' => ((p ≤ s' ∧ s' ≤ bg R (s + 1) + 1) ∧ (∀ e, p ≤ e → e ≤ bg R (s + 1) → τ'' 400 e = m1 (if e < s' then (if enb R e = 0 then t e else mer (t e) (lo R p e c h)) else t e)) ∧ (∀ a k, ¬ (a = 400 ∧ p ≤ k ∧ k ≤ bg R (s + 1)) → τ'' a k = τ a k)) ∧ (bg R (s + 1) + 1 - s').toNat < (bg R (s + 1) + 1 - j).toNat) (fun _ => (∀ e, p ≤ e → e ≤ bg R (s + 1) → τ'' 400 e = m1 (if enb R e = 0 then t e else mer (t e) (lo R p e c h))) ∧ (∀ a k, ¬ (a = 400 ∧ p ≤ k ∧ k ≤ bg R (s + 1)) → τ'' a k = τ a k)) r2) τ3 := by
      intro τ3 q1 q2
      rw [ip_A]
      refine ⟨⟨by omega, by omega⟩, ?_⟩
      rw [ip_B, ip_P, ip_P]
      simp only [Sum.elim_inl]
      refine ⟨⟨⟨by omega, by omega⟩, fun e e0 e1 => ?_, fun a k y => by rw [q2 a k (by omega)]; exact b3 a k y⟩, by omega⟩
      by_cases d : e = j
      · subst d; rw [if_pos (show e < e + 1 by omega)]; exact q1
      · rw [q2 400 e (by omega), b2 e e0 e1]
        by_cases d2 : e < j
        · rw [if_pos d2, if_pos (show e < j + 1 by omega)]
        · rw [if_neg d2, if_neg (show ¬ e < j + 1 by omega)]
    -- what goes on
    have body : enb R j ≠ 0 → ip (iB (iLd (qm_rf 367 40) p) fun x7 => iB (iz_Model_canEnd 367 p j x7 h) fun x8 => if ¬ x8 = 0 then iB (iLd (qm_rf 367 40) p) fun x9 => iB (iz_Model_ownOf 367 p j) fun x10 => iB (iLd (qm_rf 367 40) p) fun x11 => iB (iz_Model_standsOf 367 p j x11 h) fun x12 => iA (x9 + x10) fun y1 => iA (y1 - x12) fun y2 => iB (iP y2) fun x13 => iB (iLd (qm_rf 367 41) j) fun x14 => iB (α := Int) (if x14 ≤ x13 then iB (iLd (qm_rf 367 41) j) fun x16 => iP x16 else iP x13) fun s15 => iB (iSt (qm_rf 367 41) j s15) fun _ => iP () else iP ()) (fun (_ : Unit) τ3 => τ3 400 j = m1 (if enb R j = 0 then t j else mer (t j) (lo R p j c h)) ∧ (∀ a k, ¬ (a = 400 ∧ k = j) → τ3 a k = τ' a k)) τ' := by
      intro en0
      rw [if_neg en0, m_40, m_41, ip_B, ip_Ld, l_399, hc']
      refine ⟨⟨by omega, by omega⟩, ?_⟩
      rw [ip_B, ip_canEnd hw hx'.1 hx'.2 (by omega) b1.1 (by omega) c0 (by omega) hh hh2]
      by_cases z3 : lo R p j c h = -1
      · rw [if_pos z3, ip_ifF (by omega), ip_P, z3, mer_no]
        exact ⟨tj, fun _ _ _ => rfl⟩
      · have hst := st_lo hw (p := p) (e := j) (c := c) (h := h) (by omega) (by omega) c0 hh2 z3
        have ho := ol_in hw (p := p) (e := j) (by omega) (by omega)
        rw [if_neg z3, ip_ifT (by omega), ip_B, ip_Ld, l_399, hc']
        refine ⟨⟨by omega, by omega⟩, ?_⟩
        rw [ip_B, ip_ownOf hw hx'.2 (by omega) b1.1 (by omega), ip_B, ip_Ld, l_399, hc']
        refine ⟨⟨by omega, by omega⟩, ?_⟩
        rw [ip_B, ip_standsOf hw hx'.1 hx'.2 (by omega) b1.1 (by omega) c0 (by omega) hh hh2, ip_A]
        refine ⟨⟨by omega, by omega⟩, ?_⟩
        rw [ip_A]
        refine ⟨⟨by omega, by omega⟩, ?_⟩
        rw [show c + ol R p j - st R p j c h = lo R p j c h by omega, ip_B, ip_P, ip_B, ip_Ld, l_400, tj]
        refine ⟨⟨by omega, by omega⟩, ?_⟩
        rw [ip_B]
        have wr : ∀ v, v = m1 (mer (t j) (lo R p j c h)) → ip (iB (iSt 400 j v) fun _ => iP ()) (fun (_ : Unit) τ3 => τ3 400 j = m1 (mer (t j) (lo R p j c h)) ∧ (∀ a k, ¬ (a = 400 ∧ k = j) → τ3 a k = τ' a k)) τ' := by
          intro v hv
          rw [ip_B, ip_St, l_400]
          refine ⟨⟨⟨by omega, by omega⟩, by omega⟩, ?_⟩
          rw [ip_P]
          exact ⟨by rw [iu_eq, hv], fun a k y => iu_ne (by omega)⟩
        by_cases z4 : m1 (t j) ≤ lo R p j c h
        · rw [ip_ifT z4, ip_B, ip_Ld, l_400, tj]
          refine ⟨⟨by omega, by omega⟩, ?_⟩
          rw [ip_P]
          refine wr _ ?_
          unfold m1 at z4
          unfold mer
          rw [if_neg z3]
          by_cases y : t j = -1
          · rw [if_pos y] at z4; omega
          · rw [if_neg y] at z4
            rw [if_neg y, if_pos z4]
        · rw [ip_ifF z4, ip_P]
          refine wr _ ?_
          unfold m1 at z4
          unfold mer
          rw [if_neg z3]
          by_cases y : t j = -1
          · rw [if_pos y]; unfold m1; rw [if_neg z3]
          · rw [if_neg y] at z4
            rw [if_neg y, if_neg z4]; unfold m1; rw [if_neg z3]
    rw [ip_ifF z, ip_B, ip_B]
    by_cases z1 : j ≤ p
    · have hj : j = p := by omega
      rw [ip_ifT z1, ip_P]
      simp only [Sum.elim_inl]
      refine ip_mono (body (by rw [hj, enb_1 hen]; omega)) (fun _ τ3 e => tail τ3 e.1 e.2)
    · rw [ip_ifF z1, ip_B]
      refine ip_isEnd hx'.2 hw a1 a2 (by omega) (by omega) (fun r hr => ?_)
      have er := enb_is hr
      by_cases z2 : r = 0
      · rw [ip_ifT z2, ip_P]
        simp only [Sum.elim_inr, ip_P]
        exact tail τ' (by rw [if_pos (show enb R j = 0 by omega)]; exact tj) (fun _ _ _ => rfl)
      · rw [ip_ifF z2, ip_P]
        simp only [Sum.elim_inl]
        refine ip_mono (body (by omega)) (fun _ τ3 e => tail τ3 e.1 e.2)
end
