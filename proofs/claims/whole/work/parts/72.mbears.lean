/-! ===== the other one's table ===== -/
noncomputable def candM (R : aRun) (h : Int) (L : Int → Int) (p e : Int) : Int := @ite Int (0 ≤ L e ∧ (e ≤ p ∨ en R e)) (Classical.propDecidable _) (mi R p e (L e) h) (-1)
theorem candM_le {R : aRun} (hw : WF R) {h M : Int} {L : Int → Int} {p e : Int} (h0 : 0 ≤ p) (he : e ≤ np R) (hh : 0 ≤ h) (hh2 : h ≤ 2000) (hL : L e ≤ M) (hM : 0 ≤ M) : candM R h L p e ≤ 2000 + M := by
  unfold candM
  split
  · rename_i q
    have := mi_le hw (p := p) (e := e) (lv := L e) h0 he q.1 hh hh2
    omega
  · omega
def MaT (R : aRun) (s h a K : Int) (τ : iMem) : Prop := ∀ k p, 0 ≤ k → k < K → a ≤ p → p ≤ bg R (s + 1) → (-1 ≤ τ 387 (92 * k + p) ∧ τ 387 (92 * k + p) ≤ 2000 * k) ∧ (en R p → τ 387 (92 * k + p) = be R s h k.toNat p)
set_option maxHeartbeats 2000000 in
theorem ip_laysMay {τ : iMem} {R : aRun} {s a h : Int} {Q : Unit → iMem → Prop} (hw : WF R) (hR : RunM τ 368 0 R) (hF : FlM R τ) (h0 : 0 ≤ s) (hs : s < ns R) (ha : bg R s ≤ a) (ha2 : a ≤ bg R (s + 1)) (hh : 0 ≤ h) (hh2 : h ≤ 2000)
    (hQ : ∀ τ', MaT R s h a (rs R 0 + 1) τ' → (∀ a k, a ≠ 387 → τ' a k = τ a k) → Q () τ') : ip (iz_Model_laysMay 367 s a h) Q τ := by
  have h90 := hw.2.2.2
  have hb := bg_step hw s
  have hS0 := hw.2.1.1
  unfold iz_Model_laysMay
  rw [ip_B, ip_endOf hF hw h0 hs, ip_B]
  refine ip_mono (Q := fun _ τ' => MaT R s h a (rs R 0 + 1) τ' ∧ (∀ a k, a ≠ 387 → τ' a k = τ a k)) ?_ (fun _ τ' q => by rw [ip_P]; exact hQ τ' q.1 q.2)
  refine ip_W (fun k τ' => 0 ≤ k ∧ k ≤ rs R 0 + 1 ∧ MaT R s h a k τ' ∧ (∀ a k, a ≠ 387 → τ' a k = τ a k)) (fun k _ => (rs R 0 + 1 - k).toNat) ?_ ⟨Int.le_refl _, by omega, fun k p k0 k1 => by omega, fun _ _ _ => rfl⟩
  intro k τ' ⟨g0, g1, gT, gf⟩
  have hR' : RunM τ' 368 0 R := hR.frame (fun k => gf 368 k (by omega))
  rw [ip_B, ip_Ld, m_0, l_368]
  refine ⟨⟨by omega, by omega⟩, ?_⟩
  rw [rm_s hR' (k := 0) (by omega) (by omega)]
  by_cases c1 : rs R 0 < k
  · have : k = rs R 0 + 1 := by omega
    subst this
    rw [ip_ifT c1, ip_P]
    exact ⟨gT, gf⟩
  · rw [ip_ifF c1, ip_B]
    refine ip_mono (Q := fun _ τ2 => MaT R s h a (k + 1) τ2 ∧ (∀ a k, a ≠ 387 → τ2 a k = τ a k)) ?_ (fun _ τ2 q => by
      rw [ip_A]
      refine ⟨⟨by omega, by omega⟩, ?_⟩
      rw [ip_B, ip_P, ip_P]
      exact ⟨⟨by omega, by omega, q.1, q.2⟩, by omega⟩)
    refine ip_W (fun p τ2 => a ≤ p ∧ p ≤ bg R (s + 1) + 1 ∧ (∀ q, a ≤ q → q < p → (-1 ≤ τ2 387 (92 * k + q) ∧ τ2 387 (92 * k + q) ≤ 2000 * k) ∧ (en R q → τ2 387 (92 * k + q) = be R s h k.toNat q)) ∧ (∀ j, j < 92 * k → τ2 387 j = τ' 387 j) ∧ (∀ a k, a ≠ 387 → τ2 a k = τ a k)) (fun p _ => (bg R (s + 1) + 1 - p).toNat) ?_ ⟨Int.le_refl _, by omega, fun q q0 q1 => by omega, fun _ _ => rfl, gf⟩
    intro p τ2 ⟨p0, p1, pT, pk, pf⟩
    by_cases c2 : bg R (s + 1) < p
    · rw [ip_ifT c2, ip_P]
      refine ⟨fun k' q k0 k1 q0 q1 => ?_, pf⟩
      by_cases d : k' = k
      · subst d
        exact pT q q0 (by omega)
      · rw [pk _ (by omega)]
        exact gT k' q k0 (by omega) q0 q1
    · have hR2 : RunM τ2 368 0 R := hR.frame (fun k => pf 368 k (by omega))
      have hF2 : FlM R τ2 := by
        obtain ⟨f1, f2, f3, f4, f5, f6, f7, f8⟩ := hF
        refine ⟨(pf _ _ (by omega)).trans f1, (pf _ _ (by omega)).trans f2, f3.frame (fun a k _ _ => pf a k (by omega)), fun q a1 a2 => ?_, fun q a1 a2 => ?_, fun s a1 a2 => (pf _ _ (by omega)).trans (f6 s a1 a2), fun s a1 a2 => (pf _ _ (by omega)).trans (f7 s a1 a2), fun b a1 a2 => (pf _ _ (by omega)).trans (f8 b a1 a2)⟩
        · rw [pf 383 q (by omega), pf 384 q (by omega), pf 385 q (by omega), pf 386 q (by omega)]
          exact f4 q a1 a2
        · rw [pf 379 q (by omega)]
          exact f5 q a1 a2
      rw [ip_ifF c2, ip_B]
      refine ip_mono (Q := fun r τ3 => τ3 = τ2 ∧ r = (if k = 0 ∧ p = bg R (s + 1) then 0 else -1)) ?_ ?_
      · rw [ip_B]
        by_cases d1 : k = 0
        · rw [ip_ifF (by omega)]
          by_cases d2 : p = bg R (s + 1)
          · rw [ip_ifF (by omega), ip_P]
            simp only [Sum.elim_inr, ip_P]
            rw [if_pos ⟨d1, d2⟩]
            exact ⟨trivial, rfl⟩
          · rw [ip_ifT d2, ip_P]
            simp only [Sum.elim_inl, ip_P]
            rw [if_neg (fun q => d2 q.2)]
            exact ⟨trivial, rfl⟩
        · rw [ip_ifT d1, ip_P]
          simp only [Sum.elim_inl, ip_P]
          rw [if_neg (fun q => d1 q.1)]
          exact ⟨trivial, rfl⟩
      · intro r τ3 ⟨e, er⟩
        subst e
        rw [ip_B]
        refine ip_mono (Q := fun v τ4 => τ4 = τ3 ∧ (-1 ≤ v ∧ v ≤ 2000 * k) ∧ (en R p → v = be R s h k.toNat p)) ?_ ?_
        · by_cases d1 : k = 0
          · refine ip_W (fun s10 τ4 => τ4 = τ3 ∧ s10 = (r, p)) (fun _ _ => 0) ?_ ⟨rfl, rfl⟩
            intro s10 τ4 ⟨e, e10⟩
            subst e e10
            rw [ip_ifF (by show ¬ bg R (s + 1) < p; exact c2), ip_ifT (by omega), ip_P]
            refine ⟨rfl, ?_, fun _ => ?_⟩
            · show -1 ≤ r ∧ r ≤ 2000 * k
              rw [er]; split <;> omega
            · show r = _
              rw [er, d1, show (0 : Int).toNat = 0 from rfl, be_0]
              by_cases d2 : p = bg R (s + 1)
              · rw [if_pos ⟨rfl, d2⟩, if_pos d2]
              · rw [if_neg (fun q => d2 q.2), if_neg d2]
          · have er1 : r = -1 := by rw [er]; exact if_neg (fun q => d1 q.1)
            have hL : ∀ e, a ≤ e → e ≤ bg R (s + 1) → (-1 ≤ τ3 387 (92 * (k - 1) + e) ∧ τ3 387 (92 * (k - 1) + e) ≤ 2000 * (k - 1)) ∧ (en R e → τ3 387 (92 * (k - 1) + e) = be R s h (k - 1).toNat e) := by
              intro e e0 e1
              rw [pk _ (by omega)]
              exact gT (k - 1) e (by omega) (by omega) e0 e1
            refine ip_W (fun s10 τ4 => τ4 = τ3 ∧ p ≤ s10.2 ∧ s10.2 ≤ bg R (s + 1) + 1 ∧ s10.1 = mx (candM R h (fun e => τ3 387 (92 * (k - 1) + e)) p) p s10.2) (fun s10 _ => (bg R (s + 1) + 1 - s10.2).toNat) ?_ ⟨rfl, Int.le_refl _, by show p ≤ _; omega, by rw [er1]; exact (mx_0 (Int.le_refl _)).symm⟩
            intro s10 τ4 ⟨e, w0, w1, wm⟩
            obtain ⟨best, to⟩ := s10
            subst e
            dsimp only at w0 w1 wm ⊢
            have hbest : -1 ≤ best ∧ best ≤ 2000 * k := by
              rw [wm]
              refine ⟨mx_ge, mx_le (by omega) (fun e e0 e1 => ?_)⟩
              have hLe := hL e (by omega) (by omega)
              have := candM_le hw (h := h) (M := 2000 * (k - 1)) (L := fun e => τ4 387 (92 * (k - 1) + e)) (p := p) (e := e) (by omega) (by omega) hh hh2 hLe.1.2 (by omega)
              omega
            by_cases c3 : bg R (s + 1) < to
            · rw [ip_ifT c3, ip_P]
              refine ⟨rfl, hbest, fun hp => ?_⟩
              rw [wm, show to = bg R (s + 1) + 1 by omega, show k.toNat = (k - 1).toNat + 1 by omega, be_s]
              refine mx_congr (fun e e0 e1 => ?_)
              have hLe := hL e (by omega) (by omega)
              unfold candM cand
              dsimp only
              by_cases z : en R e
              · have hz := hLe.2 z
                by_cases y : 0 ≤ be R s h (k - 1).toNat e
                · rw [if_pos (show 0 ≤ τ4 387 (92 * (k - 1) + e) ∧ (e ≤ p ∨ en R e) from ⟨by omega, Or.inr z⟩), if_pos (show 0 ≤ be R s h (k - 1).toNat e ∧ en R e from ⟨y, z⟩), hz]
                · rw [if_neg (show ¬ (0 ≤ τ4 387 (92 * (k - 1) + e) ∧ (e ≤ p ∨ en R e)) from fun q => by omega), if_neg (show ¬ (0 ≤ be R s h (k - 1).toNat e ∧ en R e) from fun q => y q.1)]
              · have : e ≠ p := fun q => z (by rw [q]; exact hp)
                rw [if_neg (fun q => q.2.elim (fun q => by omega) z), if_neg (fun q => z q.2)]
            · have hLt := hL to (by omega) (by omega)
              rw [ip_ifF c3, ip_ifF (by omega), ip_A, ip_A, ip_A]
              refine ⟨⟨by omega, by omega⟩, ⟨by omega, by omega⟩, ⟨by omega, by omega⟩, ?_⟩
              rw [ip_B, ip_Ld, m_22, l_387]
              refine ⟨⟨by omega, by omega⟩, ?_⟩
              rw [ip_B]
              have done : ∀ v, v = mx (candM R h (fun e => τ4 387 (92 * (k - 1) + e)) p) p (to + 1) → ip (iA (to + 1) fun y4 => iB (iP y4) fun x17 => iP (Sum.inl (v, x17))) (fun (r : (Int × Int) ⊕ Int) τ' => Sum.elim (fun s' => (τ' = τ4 ∧ p ≤ s'.2 ∧ s'.2 ≤ bg R (s + 1) + 1 ∧ s'.1 = mx (candM R h (fun e => τ4 387 (92 * (k - 1) + e)) p) p s'.2) ∧ (bg R (s + 1) + 1 - s'.2).toNat < (bg R (s + 1) + 1 - to).toNat) (fun v => τ' = τ4 ∧ (-1 ≤ v ∧ v ≤ 2000 * k) ∧ (en R p → v = be R s h k.toNat p)) r) τ4 := by
                intro v hv
                rw [ip_A]
                refine ⟨⟨by omega, by omega⟩, ?_⟩
                rw [ip_B, ip_P, ip_P]
                simp only [Sum.elim_inl]
                exact ⟨⟨trivial, by omega, by omega, hv⟩, by omega⟩
              have stay : candM R h (fun e => τ4 387 (92 * (k - 1) + e)) p to ≤ -1 → best = mx (candM R h (fun e => τ4 387 (92 * (k - 1) + e)) p) p (to + 1) := by
                intro hc
                rw [mx_s w0, ← wm, if_neg (by omega)]
              by_cases c4 : τ4 387 (92 * (k - 1) + to) < 0
              · rw [ip_ifT c4, ip_P]
                refine done best (stay ?_)
                unfold candM
                dsimp only
                rw [if_neg (fun q => by have := q.1; omega)]
                exact Int.le_refl _
              · rw [ip_ifF c4, ip_B]
                have good : (to ≤ p ∨ en R to) → ip (iB (iz_Model_mostInto 367 p to (τ4 387 (92 * (k - 1) + to)) h) fun x15 => iB (α := Int) (if x15 ≤ best then iP best else iP x15) fun s16 => iP s16) (fun a τ' => ip (iA (to + 1) fun y4 => iB (iP y4) fun x17 => iP (Sum.inl (a, x17))) (fun (r : (Int × Int) ⊕ Int) τ' => Sum.elim (fun s' => (τ' = τ4 ∧ p ≤ s'.2 ∧ s'.2 ≤ bg R (s + 1) + 1 ∧ s'.1 = mx (candM R h (fun e => τ4 387 (92 * (k - 1) + e)) p) p s'.2) ∧ (bg R (s + 1) + 1 - s'.2).toNat < (bg R (s + 1) + 1 - to).toNat) (fun v => τ' = τ4 ∧ (-1 ≤ v ∧ v ≤ 2000 * k) ∧ (en R p → v = be R s h k.toNat p)) r) τ') τ4 := by
                  intro hg
                  rw [ip_B, ip_mostInto hw hR2 hF2 (by omega) w0 (by omega) (by omega) (by omega) hh hh2, ip_B, ip_ifP, ip_P]
                  refine done _ ?_
                  have ec : candM R h (fun e => τ4 387 (92 * (k - 1) + e)) p to = mi R p to (τ4 387 (92 * (k - 1) + to)) h := by
                    unfold candM
                    dsimp only
                    exact if_pos ⟨by omega, hg⟩
                  rw [mx_s w0, ← wm, ec]
                  by_cases z : mi R p to (τ4 387 (92 * (k - 1) + to)) h ≤ best
                  · rw [if_pos z, if_neg (by omega)]
                  · rw [if_neg z, if_pos (by omega)]
                by_cases c5 : to ≤ p
                · rw [ip_ifT c5, ip_P]
                  simp only [Sum.elim_inl]
                  exact good (Or.inl c5)
                · rw [ip_ifF c5, ip_B]
                  refine ip_isEnd hF2 hw h0 hs (by omega) (by omega) (fun r hr => ?_)
                  rcases hr with ⟨q1, q2⟩ | ⟨q1, q2⟩
                  · rw [q1, ip_ifT (by omega), ip_P]
                    simp only [Sum.elim_inl]
                    exact good (Or.inr q2)
                  · rw [q1, ip_ifF (by omega), ip_P]
                    simp only [Sum.elim_inr, ip_P]
                    refine done best (stay ?_)
                    unfold candM
                    dsimp only
                    rw [if_neg (fun q => q.2.elim (fun q => by omega) q2)]
                    exact Int.le_refl _
        · intro v τ4 ⟨e, hv1, hv2⟩
          subst e
          rw [ip_A, ip_A]
          refine ⟨⟨by omega, by omega⟩, ⟨by omega, by omega⟩, ?_⟩
          rw [ip_B, ip_St, m_22, l_387]
          refine ⟨⟨⟨by omega, by omega⟩, by omega⟩, ?_⟩
          rw [ip_A]
          refine ⟨⟨by omega, by omega⟩, ?_⟩
          rw [ip_B, ip_P, ip_P]
          simp only [Sum.elim_inl]
          refine ⟨⟨by omega, by omega, fun q q0 q1 => ?_, fun j hj => ?_, fun a k hk => (iu_ne (Or.inl hk)).trans (pf a k hk)⟩, by omega⟩
          · by_cases d : q = p
            · subst d
              rw [iu_eq]
              exact ⟨hv1, hv2⟩
            · rw [iu_ne (Or.inr (by omega))]
              exact pT q q0 (by omega)
          · rw [iu_ne (Or.inr (by omega))]
            exact pk j hj
