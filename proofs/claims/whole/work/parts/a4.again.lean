/-! ===== again, drop ===== -/
section
variable {τ τ' : iMem} {R R' : aRun} {H : Nat → aRun} {n : Nat} {x : Int} {K : Int → aRun} {f : Int → Int} {L : Int} {T : Int → Int}
theorem ip_copyCells {o : Nat} {b c : Int} {Q : Unit → iMem → Prop} (ho : isRun o) (hm : o + 2 < 405) (b0 : 0 ≤ b) (b1 : b < 16) (c0 : 0 ≤ c) (c1 : c < 16) (hbc : b ≠ c)
    (hQ : ∀ τ', (∀ w, 0 ≤ w → w < 16 → τ' (o + 2) (16 * c + w) = τ (o + 2) (16 * b + w)) → (∀ a k, ¬ (a = o + 2 ∧ 16 * c ≤ k ∧ k < 16 * c + 16) → τ' a k = τ a k) → Q () τ') : ip (iz_Run_copyCells o b c) Q τ := by
  unfold iz_Run_copyCells
  rw [ip_B]
  refine ip_mono (Q := fun _ τ' => (∀ w, 0 ≤ w → w < 16 → τ' (o + 2) (16 * c + w) = τ (o + 2) (16 * b + w)) ∧ (∀ a k, ¬ (a = o + 2 ∧ 16 * c ≤ k ∧ k < 16 * c + 16) → τ' a k = τ a k)) ?_ (fun _ τ' e => by rw [ip_P]; exact hQ τ' e.1 e.2)
  refine ip_W (fun i τ' => (0 ≤ i ∧ i ≤ 16) ∧ (∀ w, 0 ≤ w → w < i → τ' (o + 2) (16 * c + w) = τ (o + 2) (16 * b + w)) ∧ (∀ a k, ¬ (a = o + 2 ∧ 16 * c ≤ k ∧ k < 16 * c + 16) → τ' a k = τ a k)) (fun i _ => (16 - i).toNat) ?_ ⟨⟨Int.le_refl _, by omega⟩, fun w w0 w1 => by omega, fun _ _ _ => rfl⟩
  intro i τ1 ⟨g1, g2, g3⟩
  by_cases d : 16 ≤ i
  · rw [ip_ifT d, ip_P]
    simp only [Sum.elim_inr]
    exact ⟨fun w w0 w1 => g2 w w0 (by omega), g3⟩
  · rw [ip_ifF d, ip_B, ip_rcell ho b0 b1 g1.1 (by omega), ip_B, ip_putCell ho hm c0 c1 g1.1 (by omega), ip_A]
    refine ⟨⟨by omega, by omega⟩, ?_⟩
    rw [ip_B, ip_P, ip_P]
    simp only [Sum.elim_inl]
    refine ⟨⟨⟨by omega, by omega⟩, fun w w0 w1 => ?_, fun a k z => ?_⟩, by omega⟩
    · by_cases z : w = i
      · subst z
        rw [show 16 * c + w = c * 16 + w by omega, iu_eq, g3 _ _ (by omega), show b * 16 + w = 16 * b + w by omega]
      · rw [iu_ne (Or.inr (by omega))]; exact g2 w w0 (by omega)
    · rw [iu_ne (by omega)]; exact g3 a k z
theorem ip_repeat {b : Int} {Q : Unit → iMem → Prop} (hC : RunC τ 1 R) (b0 : 0 ≤ b) (b1 : b < rn R) (h16 : rn R < 16)
    (hQ : ∀ τ', RunC τ' 1 (RA R b) → (∀ a k, ¬ (1 ≤ a ∧ a ≤ 3) → τ' a k = τ a k) → Q () τ') : ip (iz_Run_repeat 1 b) Q τ := by
  unfold iz_Run_repeat
  rw [ip_B, ip_cellC isRun_1 hC (by omega) b0 b1 (by omega) (by omega), ip_B]
  unfold iz_Run_add
  rw [ip_B, ip_Gt, hC.1, ip_ifF (by omega), ip_B]
  refine ip_mono (Q := fun _ τ1 => ∀ a k, ¬ (a = 3 ∧ 16 * rn R ≤ k ∧ k < 16 * rn R + 16) → τ1 a k = τ a k) ?_ (fun _ τ1 g => ?_)
  · refine ip_W (fun i τ1 => (0 ≤ i ∧ i ≤ 16) ∧ (∀ a k, ¬ (a = 3 ∧ 16 * rn R ≤ k ∧ k < 16 * rn R + 16) → τ1 a k = τ a k)) (fun i _ => (16 - i).toNat) ?_ ⟨⟨Int.le_refl _, by omega⟩, fun _ _ _ => rfl⟩
    intro i τ1 ⟨g1, g2⟩
    by_cases d : 16 ≤ i
    · rw [ip_ifT d, ip_P]
      exact g2
    · rw [ip_ifF d, ip_B, ip_putCell isRun_1 (by omega) (by omega) (by omega) g1.1 (by omega), ip_A]
      refine ⟨⟨by omega, by omega⟩, ?_⟩
      rw [ip_B, ip_P, ip_P]
      simp only [Sum.elim_inl]
      refine ⟨⟨⟨by omega, by omega⟩, fun a k z => ?_⟩, by omega⟩
      rw [iu_ne (by omega)]; exact g2 a k z
  · rw [ip_B, ip_putCell isRun_1 (by omega) (by omega) (by omega) (by omega) (by omega), ip_B, ip_Gt, iu_ne (Or.inl (by omega)), g _ _ (by omega), hC.1, ip_A]
    refine ⟨⟨by omega, by omega⟩, ?_⟩
    rw [ip_B, ip_Pt, ip_P, ip_B]
    refine ip_copyCells isRun_1 (by omega) b0 (by omega) (by omega) h16 (by omega) (fun τ2 w1 w2 => ?_)
    rw [ip_P]
    have hf : ∀ a k, ¬ ((a = 1 ∧ k = 0) ∨ (a = 3 ∧ 16 * rn R ≤ k ∧ k < 16 * rn R + 16)) → τ2 a k = τ a k := fun a k z => by
      rw [w2 a k (by omega), iu_ne (by omega), iu_ne (by omega), g a k (by omega)]
    refine hQ τ2 ⟨?_, fun k k0 k1 => (hf _ _ (by omega)).trans (hC.2.1 k k0 k1), fun c u c0 c1 u0 u1 => ?_⟩ (fun a k z => hf a k (by omega))
    · rw [w2 _ _ (by omega), iu_eq]; rfl
    · have en : rn (RA R b) = rn R + 1 := rfl
      rw [en] at c1
      rw [RA_rc]
      by_cases z : c = rn R
      · rw [if_pos z, z, w1 u u0 u1, iu_ne (Or.inl (by omega)), iu_ne (Or.inr (by omega)), g _ _ (by omega)]
        exact hC.2.2 b u b0 b1 u0 u1
      · rw [if_neg z, hf _ _ (by omega)]
        exact hC.2.2 c u c0 (by omega) u0 u1
theorem ip_allPieces {Q : Int → iMem → Prop} {o : Nat} (ho : isRun o) (hw : WF R) (hC : RunC τ o R) (hQ : Q (np R) τ) : ip (iz_Run_allPieces o) Q τ := by
  have hn := hw.1
  have h90 := hw.2.2.2
  unfold iz_Run_allPieces
  rw [ip_B]
  refine ip_mono (Q := fun v τ1 => v = np R ∧ τ1 = τ) ?_ (fun v τ1 e => by rw [ip_P, e.1, e.2]; exact hQ)
  refine ip_W (fun (q : Int × Int) τ1 => τ1 = τ ∧ (0 ≤ q.2 ∧ q.2 ≤ rn R) ∧ q.1 = fs R q.2) (fun q _ => (rn R - q.2).toNat) ?_ ⟨rfl, ⟨Int.le_refl _, hn.1⟩, rfl⟩
  intro q τ1 ⟨et, b1, b2⟩
  obtain ⟨v, b⟩ := q
  subst et
  dsimp only at b1 b2 ⊢
  subst b2
  rw [ip_B, ip_Gt, hC.1]
  by_cases c : rn R ≤ b
  · rw [ip_ifT c, ip_P]
    exact ⟨by rw [show b = rn R by omega]; rfl, rfl⟩
  · have hs := fs_s (R := R) b1.1
    have hle := fs_le hw (b := b + 1) (by omega) (by omega)
    have hge := fs_ge hw (b := b + 1) (by omega) (by omega)
    rw [ip_ifF c, ip_B, ip_cellC ho hC hn.2 b1.1 (by omega) (by omega) (by omega), ip_A]
    refine ⟨⟨by omega, by omega⟩, ?_⟩
    rw [ip_B, ip_P, ip_A]
    refine ⟨⟨by omega, by omega⟩, ?_⟩
    rw [ip_B, ip_P, ip_P]
    simp only [Sum.elim_inl]
    exact ⟨⟨trivial, ⟨by omega, by omega⟩, by omega⟩, by omega⟩
theorem RA_m {b : Int} (h : RunM τ 368 0 R) (hn : rn R < 16) (b0 : 0 ≤ b) (b1 : b < rn R) (h8 : τ' 368 8 = rn R + 1) (h1 : ∀ k, 0 ≤ k → k < 16 → τ' 368 (9 + 16 * rn R + k) = τ 368 (9 + 16 * b + k)) (hf : ∀ k, ¬ (k = 8 ∨ (9 + 16 * rn R ≤ k ∧ k < 9 + 16 * rn R + 16)) → τ' 368 k = τ 368 k) : RunM τ' 368 0 (RA R b) := by
  have hn0 : 0 ≤ rn R := by omega
  refine ⟨h8, fun k k0 k1 => (hf _ (by omega)).trans (h.2.1 k k0 k1), fun c u c0 c1 u0 u1 => ?_⟩
  have en : rn (RA R b) = rn R + 1 := rfl
  have hp := pw_in u0 u1
  rw [en] at c1
  rw [RA_rc]
  by_cases z : c = rn R
  · rw [if_pos z, z, show 0 + 9 + 16 * rn R + pw u = 9 + 16 * rn R + pw u by omega, h1 _ hp.1 hp.2, ← h.2.2 b u b0 b1 u0 u1]
    congr 1
  · rw [if_neg z, hf _ (by omega)]
    exact h.2.2 c u c0 (by omega) u0 u1
theorem act_again (hI : Inv τ) (b : Int) : act (iz_Top_again 0 b) (iz_Model_again 367 b) τ := by
  have hI' := hI
  obtain ⟨hS, R, H, n, x, K, f, L, T, hW, hC, hM⟩ := hI
  have hw := hW.1
  have hn := hw.1
  have h90 := hw.2.2.2
  have hnp := np_ge hw
  by_cases hb : 0 ≤ b ∧ b < rn R
  · have hbw := (hw.2.2.1 b hb.1 hb.2).2.1
    -- laid first by the other one
    have laid : ∀ {τ1 : iMem} {m : iM Int} {Q : Int → iMem → Prop}, MS R H n K f L T τ1 → (∀ τ2, MS R H n K f L T τ2 → τ2 367 13 = np R → (∀ a k, ¬ mz a k → τ2 a k = τ1 a k) → ip m Q τ2) → ip (iB (iz_Model_lays 367) fun _ => m) Q τ1 := by
      intro τ1 m Q h1 h2
      rw [ip_B]
      refine ip_lays hw h1.1 (fun τ2 v1 v2 => ?_)
      have hf : ∀ a k, ¬ mz a k → τ2 a k = τ1 a k := fun a k z => v2 a k (by unfold mz at z; unfold mlw; omega)
      exact h2 τ2 (h1.frame (hf _ _ (by unfold mz; omega)) (hf _ _ (by unfold mz; omega)) (fun a k z => hf a k (by unfold mz; omega))) v1.1 hf
    by_cases c : rn R = 16 ∨ 90 < np R + rc R b 1
    · refine act_same (v := -2) hI' ?_ ?_
      · unfold iz_Top_again
        rw [t_0, ip_B, ip_has hC.1.1, if_pos hb, ip_ifT (by omega), ip_B, ip_Gt, hC.1.1.1]
        by_cases d : 16 ≤ rn R
        · rw [ip_ifT d, ip_P]; exact ⟨rfl, rfl⟩
        · rw [ip_ifF d, ip_B]
          refine ip_allPieces isRun_1 hw hC.1.1 ?_
          rw [ip_B, ip_cellC isRun_1 hC.1.1 hn.2 hb.1 hb.2 (by omega) (by omega), ip_A]
          refine ⟨⟨by omega, by omega⟩, ?_⟩
          rw [ip_ifF (by omega), ip_P]; exact ⟨rfl, rfl⟩
      · unfold iz_Model_again
        rw [ip_B, ip_isBlock hw hM.1, if_neg (show ¬ (b < 0 ∨ rn R - 1 < b) by omega), ip_ifT (by omega)]
        refine laid hM (fun τ2 hM2 e13 hf => ?_)
        rw [ip_B, ip_blocks, rm_n hM2.1]
        by_cases d : rn R = 16
        · rw [ip_ifT d, ip_P]; exact ⟨rfl, hf⟩
        · rw [ip_ifF d, ip_B, ip_Gt, e13, ip_B, ip_of hM2.1 hn.2 hb.1 hb.2 (by omega) (by omega), ip_A]
          refine ⟨⟨by omega, by omega⟩, ?_⟩
          rw [ip_ifF (by omega), ip_P]; exact ⟨rfl, hf⟩
    · refine act_of (v := rn R + 1) hS hM (R' := RA R b) (x' := (x + 1) % 10) (pu_WS hW (RA_wf hw hb.1 hb.2 (by omega) (by omega))) ?_ (fun τ1 hM1 => ?_)
      · unfold iz_Top_again
        rw [t_0, ip_B, ip_has hC.1.1, if_pos hb, ip_ifT (by omega), ip_B, ip_Gt, hC.1.1.1, ip_ifF (by omega), ip_B]
        refine ip_allPieces isRun_1 hw hC.1.1 ?_
        rw [ip_B, ip_cellC isRun_1 hC.1.1 hn.2 hb.1 hb.2 (by omega) (by omega), ip_A]
        refine ⟨⟨by omega, by omega⟩, ?_⟩
        rw [ip_ifT (by omega)]
        refine ip_act hW hC (fun τ1 u1 u2 => ?_)
        rw [ip_B]
        refine ip_repeat u1 hb.1 hb.2 (by omega) (fun τ2 v1 v2 => ?_)
        rw [ip_B, ip_Gt, v1.1, ip_P]
        exact ⟨rfl, v1, v2⟩
      · unfold iz_Model_again
        rw [ip_B, ip_isBlock hw hM1.1, if_neg (show ¬ (b < 0 ∨ rn R - 1 < b) by omega), ip_ifT (by omega)]
        refine laid hM1 (fun τ2 hM2 e13 hf => ?_)
        rw [ip_B, ip_blocks, rm_n hM2.1, ip_ifF (by omega), ip_B, ip_Gt, e13, ip_B, ip_of hM2.1 hn.2 hb.1 hb.2 (by omega) (by omega), ip_A]
        refine ⟨⟨by omega, by omega⟩, ?_⟩
        rw [ip_ifT (by omega)]
        refine ip_mono (ip_Mact (R' := RA R b) (v := rn R + 1) hW hM2 (fun τ3 u1 => ?_)) (fun r τ3 g => ⟨g.1, g.2.1, fun a k z => (g.2.2 a k z).trans (hf a k (by unfold mz; omega))⟩)
        rw [ip_B]
        refine ip_mono (Q := fun _ τ4 => (∀ k, 0 ≤ k → k < 16 → τ4 368 (9 + 16 * rn R + k) = τ3 368 (9 + 16 * b + k)) ∧ (∀ a k, ¬ (a = 368 ∧ 9 + 16 * rn R ≤ k ∧ k < 9 + 16 * rn R + 16) → τ4 a k = τ3 a k)) ?_ (fun _ τ4 g => ?_)
        · refine ip_W (fun s τ4 => (0 ≤ s ∧ s ≤ 16) ∧ (∀ k, 0 ≤ k → k < s → τ4 368 (9 + 16 * rn R + k) = τ3 368 (9 + 16 * b + k)) ∧ (∀ a k, ¬ (a = 368 ∧ 9 + 16 * rn R ≤ k ∧ k < 9 + 16 * rn R + 16) → τ4 a k = τ3 a k)) (fun s _ => (16 - s).toNat) ?_ ⟨⟨Int.le_refl _, by omega⟩, fun k k0 k1 => by omega, fun _ _ _ => rfl⟩
          intro s τ4 ⟨g1, g2, g3⟩
          by_cases d : 16 ≤ s
          · rw [ip_ifT d, ip_P]
            simp only [Sum.elim_inr]
            exact ⟨fun k k0 k1 => g2 k k0 (by omega), g3⟩
          · rw [ip_ifF d, ip_B, ip_blocks, g3 _ _ (by omega), rm_n u1, ip_B, ip_ofr hb.1 (by omega) (by omega) (by omega), ip_A]
            refine ⟨⟨by omega, by omega⟩, ?_⟩
            rw [ip_A]
            refine ⟨⟨by omega, by omega⟩, ?_⟩
            rw [ip_A]
            refine ⟨⟨by omega, by omega⟩, ?_⟩
            rw [ip_B, ip_St, m_0, l_368]
            refine ⟨⟨⟨by omega, by omega⟩, by omega⟩, ?_⟩
            rw [ip_A]
            refine ⟨⟨by omega, by omega⟩, ?_⟩
            rw [ip_B, ip_P, ip_P]
            simp only [Sum.elim_inl]
            refine ⟨⟨⟨by omega, by omega⟩, fun k k0 k1 => ?_, fun a k z => ?_⟩, by omega⟩
            · by_cases z : k = s
              · subst z
                rw [iu_eq, g3 _ _ (by omega)]
              · rw [iu_ne (Or.inr (by omega))]; exact g2 k k0 (by omega)
            · rw [iu_ne (by omega)]; exact g3 a k z
        · have e8 : τ4 368 8 = rn R := by rw [g.2 _ _ (by omega)]; exact u1.1
          rw [ip_B, ip_Ld, m_0, l_368, e8]
          refine ⟨⟨by omega, by omega⟩, ?_⟩
          rw [ip_A]
          refine ⟨⟨by omega, by omega⟩, ?_⟩
          rw [ip_B, ip_St, l_368]
          refine ⟨⟨⟨by omega, by omega⟩, by omega⟩, ?_⟩
          rw [ip_B, ip_blocks, iu_eq, ip_P]
          refine ⟨rfl, RA_m u1 (by omega) hb.1 hb.2 iu_eq (fun k k0 k1 => ?_) (fun k z => ?_), fun a k z => ?_⟩
          · rw [iu_ne (Or.inr (by omega))]; exact g.1 k k0 k1
          · rw [iu_ne (Or.inr (by omega)), g.2 _ _ (by omega)]
          · rw [iu_ne (Or.inl z), g.2 _ _ (by omega)]
  · refine act_same (v := -1) hI' ?_ ?_
    · unfold iz_Top_again
      rw [t_0, ip_B, ip_has hC.1.1, if_neg hb, ip_ifF (by omega), ip_P]
      exact ⟨rfl, rfl⟩
    · unfold iz_Model_again
      rw [ip_B, ip_isBlock hw hM.1, if_pos (show b < 0 ∨ rn R - 1 < b by omega), ip_ifF (by omega), ip_P]
      exact ⟨rfl, fun _ _ _ => rfl⟩
theorem ip_remove {b : Int} {Q : Unit → iMem → Prop} (hC : RunC τ 1 R) (hn : rn R ≤ 16) (b0 : 0 ≤ b) (b1 : b < rn R)
    (hQ : ∀ τ', RunC τ' 1 (RD R b) → (∀ a k, ¬ (1 ≤ a ∧ a ≤ 3) → τ' a k = τ a k) → Q () τ') : ip (iz_Run_remove 1 b) Q τ := by
  unfold iz_Run_remove
  rw [ip_B]
  refine ip_mono (Q := fun _ τ1 => (∀ k, 16 * b ≤ k → k < 16 * (rn R - 1) → τ1 3 k = τ 3 (k + 16)) ∧ (∀ a k, ¬ (a = 3 ∧ 16 * b ≤ k) → τ1 a k = τ a k)) ?_ (fun _ τ1 g => ?_)
  · refine ip_W (fun i τ1 => (b ≤ i ∧ i ≤ rn R - 1) ∧ (∀ k, 16 * b ≤ k → k < 16 * i → τ1 3 k = τ 3 (k + 16)) ∧ (∀ k, 16 * i ≤ k → τ1 3 k = τ 3 k) ∧ (∀ a k, ¬ (a = 3 ∧ 16 * b ≤ k) → τ1 a k = τ a k)) (fun i _ => (rn R - i).toNat) ?_ ⟨⟨Int.le_refl _, by omega⟩, fun k k0 k1 => by omega, fun _ _ => rfl, fun _ _ _ => rfl⟩
    intro i τ1 ⟨g1, g2, g3, g4⟩
    rw [ip_B, ip_Gt, g4 _ _ (by omega), hC.1, ip_A]
    refine ⟨⟨by omega, by omega⟩, ?_⟩
    by_cases d : rn R ≤ i + 1
    · rw [ip_ifT d, ip_P]
      simp only [Sum.elim_inr]
      exact ⟨fun k k0 k1 => g2 k k0 (by omega), g4⟩
    · rw [ip_ifF d, ip_A]
      refine ⟨⟨by omega, by omega⟩, ?_⟩
      rw [ip_B]
      refine ip_copyCells isRun_1 (by omega) (by omega) (by omega) (by omega) (by omega) (by omega) (fun τ2 w1 w2 => ?_)
      rw [ip_A]
      refine ⟨⟨by omega, by omega⟩, ?_⟩
      rw [ip_B, ip_P, ip_P]
      simp only [Sum.elim_inl]
      refine ⟨⟨⟨by omega, by omega⟩, fun k k0 k1 => ?_, fun k k0 => ?_, fun a k z => ?_⟩, by omega⟩
      · by_cases z : 16 * i ≤ k
        · have e := w1 (k - 16 * i) (by omega) (by omega)
          rw [show 16 * i + (k - 16 * i) = k by omega, show 16 * (i + 1) + (k - 16 * i) = k + 16 by omega] at e
          rw [e, g3 _ (by omega)]
        · rw [w2 _ _ (by omega)]; exact g2 k k0 (by omega)
      · rw [w2 _ _ (by omega)]; exact g3 k (by omega)
      · rw [w2 _ _ (by omega)]; exact g4 a k z
  · rw [ip_B, ip_Gt, g.2 _ _ (by omega), hC.1, ip_A]
    refine ⟨⟨by omega, by omega⟩, ?_⟩
    rw [ip_B, ip_Pt, ip_P]
    refine hQ _ ⟨iu_eq, fun k k0 k1 => ?_, fun c u c0 c1 u0 u1 => ?_⟩ (fun a k z => ?_)
    · rw [iu_ne (Or.inl (by omega)), g.2 _ _ (by omega)]; exact hC.2.1 k k0 k1
    · have en : rn (RD R b) = rn R - 1 := rfl
      rw [en] at c1
      rw [RD_rc, iu_ne (Or.inl (by omega))]
      by_cases z : c < b
      · rw [if_pos z, g.2 _ _ (by omega)]; exact hC.2.2 c u c0 (by omega) u0 u1
      · rw [if_neg z, g.1 _ (by omega) (by omega), show 16 * c + u + 16 = 16 * (c + 1) + u by omega]
        exact hC.2.2 (c + 1) u (by omega) (by omega) u0 u1
    · rw [iu_ne (by omega), g.2 _ _ (by omega)]
theorem act_drop (hI : Inv τ) (b : Int) : act (iz_Top_drop 0 b) (iz_Model_drop 367 b) τ := by
  have hI' := hI
  obtain ⟨hS, R, H, n, x, K, f, L, T, hW, hC, hM⟩ := hI
  have hw := hW.1
  have hn := hw.1
  by_cases hb : 0 ≤ b ∧ b < rn R
  · refine act_of (v := rn R - 1) hS hM (R' := RD R b) (x' := (x + 1) % 10) (pu_WS hW (RD_wf hw hb.1 hb.2)) ?_ (fun τ1 hM1 => ?_)
    · unfold iz_Top_drop
      rw [t_0, ip_B, ip_has hC.1.1, if_pos hb, ip_ifT (by omega)]
      refine ip_act hW hC (fun τ1 u1 u2 => ?_)
      rw [ip_B]
      refine ip_remove u1 hn.2 hb.1 hb.2 (fun τ2 v1 v2 => ?_)
      rw [ip_B, ip_Gt, v1.1, ip_P]
      exact ⟨rfl, v1, v2⟩
    · unfold iz_Model_drop
      rw [ip_B, ip_isBlock hw hM1.1, if_neg (show ¬ (b < 0 ∨ rn R - 1 < b) by omega), ip_ifT (by omega)]
      refine ip_Mact hW hM1 (fun τ2 u1 => ?_)
      rw [ip_B, ip_Ld, m_0, l_368, rm_n u1]
      refine ⟨⟨by omega, by omega⟩, ?_⟩
      rw [ip_A]
      refine ⟨⟨by omega, by omega⟩, ?_⟩
      rw [ip_B, ip_St, l_368]
      refine ⟨⟨⟨by omega, by omega⟩, by omega⟩, ?_⟩
      rw [ip_A]
      refine ⟨⟨by omega, by omega⟩, ?_⟩
      rw [ip_A]
      refine ⟨⟨by omega, by omega⟩, ?_⟩
      rw [ip_B, ip_P, ip_B]
      refine ip_mono (Q := fun _ τ3 => (∀ k, 9 + 16 * b ≤ k → k < 9 + 16 * (rn R - 1) → τ3 368 k = τ2 368 (k + 16)) ∧ τ3 368 8 = rn R - 1 ∧ (∀ k, k < 9 + 16 * b → k ≠ 8 → τ3 368 k = τ2 368 k) ∧ (∀ a k, a ≠ 368 → τ3 a k = τ2 a k)) ?_ (fun _ τ3 g => ?_)
      · refine ip_W (fun s τ3 => (9 + 16 * b ≤ s ∧ s ≤ 9 + 16 * (rn R - 1)) ∧ (∀ k, 9 + 16 * b ≤ k → k < s → τ3 368 k = τ2 368 (k + 16)) ∧ τ3 368 8 = rn R - 1 ∧ (∀ k, k < 9 + 16 * b ∨ s ≤ k → k ≠ 8 → τ3 368 k = τ2 368 k) ∧ (∀ a k, a ≠ 368 → τ3 a k = τ2 a k)) (fun s _ => (9 + 16 * rn R - s).toNat) ?_ ⟨⟨Int.le_refl _, by omega⟩, fun k k0 k1 => by omega, iu_eq, fun k k0 k1 => iu_ne (Or.inr k1), fun a k z => iu_ne (Or.inl z)⟩
        intro s τ3 ⟨g1, g2, g3, g4, g5⟩
        rw [ip_B, ip_blocks, g3, ip_A]
        refine ⟨⟨by omega, by omega⟩, ?_⟩
        rw [ip_A]
        refine ⟨⟨by omega, by omega⟩, ?_⟩
        by_cases d : 9 + 16 * (rn R - 1) ≤ s
        · rw [ip_ifT d, ip_P]
          simp only [Sum.elim_inr]
          exact ⟨fun k k0 k1 => g2 k k0 (by omega), g3, fun k k0 k1 => g4 k (Or.inl k0) k1, g5⟩
        · rw [ip_ifF d, ip_A]
          refine ⟨⟨by omega, by omega⟩, ?_⟩
          rw [ip_B, ip_Ld, l_368]
          refine ⟨⟨by omega, by omega⟩, ?_⟩
          rw [ip_B, ip_St, l_368]
          refine ⟨⟨⟨by omega, by omega⟩, by omega⟩, ?_⟩
          rw [ip_A]
          refine ⟨⟨by omega, by omega⟩, ?_⟩
          rw [ip_B, ip_P, ip_P]
          simp only [Sum.elim_inl]
          refine ⟨⟨⟨by omega, by omega⟩, fun k k0 k1 => ?_, ?_, fun k k0 k1 => ?_, fun a k z => ?_⟩, by omega⟩
          · by_cases z : k = s
            · subst z
              rw [iu_eq, g4 _ (by omega) (by omega)]
            · rw [iu_ne (Or.inr z)]; exact g2 k k0 (by omega)
          · rw [iu_ne (Or.inr (by omega))]; exact g3
          · rw [iu_ne (Or.inr (by omega))]; exact g4 k (by omega) k1
          · rw [iu_ne (Or.inl z)]; exact g5 a k z
      · rw [ip_B, ip_blocks, g.2.1, ip_P]
        refine ⟨rfl, ⟨g.2.1, fun k k0 k1 => ?_, fun c u c0 c1 u0 u1' => ?_⟩, g.2.2.2⟩
        · rw [g.2.2.1 _ (by omega) (by omega)]; exact u1.2.1 k k0 k1
        · have en : rn (RD R b) = rn R - 1 := rfl
          have hp := pw_in u0 u1'
          rw [en] at c1
          rw [RD_rc]
          by_cases z : c < b
          · rw [if_pos z, g.2.2.1 _ (by omega) (by omega)]; exact u1.2.2 c u c0 (by omega) u0 u1'
          · rw [if_neg z, g.1 _ (by omega) (by omega), ← u1.2.2 (c + 1) u (by omega) (by omega) u0 u1']
            congr 1
            omega
  · refine act_same (v := -1) hI' ?_ ?_
    · unfold iz_Top_drop
      rw [t_0, ip_B, ip_has hC.1.1, if_neg hb, ip_ifF (by omega), ip_P]
      exact ⟨rfl, rfl⟩
    · unfold iz_Model_drop
      rw [ip_B, ip_isBlock hw hM.1, if_pos (show b < 0 ∨ rn R - 1 < b by omega), ip_ifF (by omega), ip_P]
      exact ⟨rfl, fun _ _ _ => rfl⟩
end
