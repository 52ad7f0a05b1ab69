/-! ===== again, drop ===== -/
section
variable {τ τ' : iMem} {R R' : aRun} {H : Nat → aRun} {n : Nat} {x : Int} {K : Int → aRun} {f : Int → Int} {L : Int} {T : Int → Int}
theorem ip_copyCells {o : Nat} {b c : Int} {Q : Unit → iMem → Prop} (ho : isRun o) (hm : o + 2 < 405) (b0 : 0 ≤ b) (b1 : b < 16) (c0 : 0 ≤ c) (c1 : c < 16) (hbc : b ≠ c)
    (hQ : ∀ τ', (∀ w, 0 ≤ w → w < 16 → τ' (o + 2) (16 * c + w) = τ (o + 2) (16 * b + w)) → (∀ a k, ¬ (a = o + 2 ∧ 16 * c ≤ k ∧ k < 16 * c + 16) → τ' a k = τ a k) → Q () τ') : ip (iz_Run_copyCells o b c) Q τ := by
  unfold iz_Run_copyCells
  rw [ip_B]
  refine ip_mono (Q := fun _ τ' => (∀ w, 0 ≤ w → w < 16 → τ' (o + 2) (16 * c + w) = τ (o + 2) (16 * b + w)) ∧ (∀ a k, ¬ (a = o + 2 ∧ 16 * c ≤ k ∧ k < 16 * c + 16) → τ' a k = τ a k)) ?_ (fun _ τ' e => by rw [ip_P]; exact hQ τ' e.1 e.2)
  refine ip_W (fun i τ' => (0 ≤ i ∧ i ≤ 16) ∧ (∀ w, 0 ≤ w → w < i → τ' (o + 2) (16 * c + w) = τ (o + 2) (16 * b + w)) ∧ (∀ a k, ¬ (a = o + 2 ∧ 16 * c ≤ k ∧ k < 16 * c + 16) → τ' a k = τ a k)) (fun i _ => (16 - i).toNat) ?_ ⟨⟨Int.le_refl _, by omega⟩, fun w w0 w1 => by omega, fun _ _ _ => rfl⟩
  intro i τ1 ⟨g1, g2, g3⟩
  by_cases d : 16 ≤ i
  · rw [ip_ifT d, ip_P]
    simp only [Sum.elim_inr]
    exact ⟨fun w w0 w1 => g2 w w0 (by omega), g3⟩
  · rw [ip_ifF d, ip_B, ip_rcell ho b0 b1 g1.1 (by omega), ip_B, ip_putCell ho hm c0 c1 g1.1 (by omega), ip_A]
    refine ⟨⟨by omega, by omega⟩, ?_⟩
    rw [ip_B, ip_P, ip_P]
    simp only [Sum.elim_inl]
    refine ⟨⟨⟨by omega, by omega⟩, fun w w0 w1 => ?_, fun a k z => ?_⟩, by omega⟩
    · by_cases z : w = i
      · subst z
        rw [show 16 * c + w = c * 16 + w by omega, iu_eq, g3 _ _ (by omega), show b * 16 + w = 16 * b + w by omega]
      · rw [iu_ne (Or.inr (by omega))]; exact g2 w w0 (by omega)
    · rw [iu_ne (by omega)]; exact g3 a k z
theorem ip_repeat {b : Int} {Q : Unit → iMem → Prop} (hC : RunC τ 1 R) (b0 : 0 ≤ b) (b1 : b < rn R) (h16 : rn R < 16)
    (hQ : ∀ τ', RunC τ' 1 (RA R b) → (∀ a k, ¬ (1 ≤ a ∧ a ≤ 3) → τ' a k = τ a k) → Q () τ') : ip (iz_Run_repeat 1 b) Q τ := by
  unfold iz_Run_repeat
  rw [ip_B, ip_cellC isRun_1 hC (by omega) b0 b1 (by omega) (by omega), ip_B]
  unfold iz_Run_add
  rw [ip_B, ip_Gt, hC.1, ip_ifF (by omega), ip_B]
  refine ip_mono (Q := fun _ τ1 => ∀ a k, ¬ (a = 3 ∧ 16 * rn R ≤ k ∧ k < 16 * rn R + 16) → τ1 a k = τ a k) ?_ (fun _ τ1 g => ?_)
  · refine ip_W (fun i τ1 => (0 ≤ i ∧ i ≤ 16) ∧ (∀ a k, ¬ (a = 3 ∧ 16 * rn R ≤ k ∧ k < 16 * rn R + 16) → τ1 a k = τ a k)) (fun i _ => (16 - i).toNat) ?_ ⟨⟨Int.le_refl _, by omega⟩, fun _ _ _ => rfl⟩
    intro i τ1 ⟨g1, g2⟩
    by_cases d : 16 ≤ i
    · rw [ip_ifT d, ip_P]
      exact g2
    · rw [ip_ifF d, ip_B, ip_putCell isRun_1 (by omega) (by omega) (by omega) g1.1 (by omega), ip_A]
      refine ⟨⟨by omega, by omega⟩, ?_⟩
      rw [ip_B, ip_P, ip_P]
      simp only [Sum.elim_inl]
      refine ⟨⟨⟨by omega, by omega⟩, fun a k z => ?_⟩, by omega⟩
      rw [iu_ne (by omega)]; exact g2 a k z
  · rw [ip_B, ip_putCell isRun_1 (by omega) (by omega) (by omega) (by omega) (by omega), ip_B, ip_Gt, iu_ne (Or.inl (by omega)), g _ _ (by omega), hC.1, ip_A]
    refine ⟨⟨by omega, by omega⟩, ?_⟩
    rw [ip_B, ip_Pt, ip_P, ip_B]
    refine ip_copyCells isRun_1 (by omega) b0 (by omega) (by omega) h16 (by omega) (fun τ2 w1 w2 => ?_)
    rw [ip_P]
    have hf : ∀ a k, ¬ ((a = 1 ∧ k = 0) ∨ (a = 3 ∧ 16 * rn R ≤ k ∧ k < 16 * rn R + 16)) → τ2 a k = τ a k := fun a k z => by
      rw [w2 a k (by omega), iu_ne (by omega), iu_ne (by omega), g a k (by omega)]
    refine hQ τ2 ⟨?_, fun k k0 k1 => (hf _ _ (by omega)).trans (hC.2.1 k k0 k1), fun c u c0 c1 u0 u1 => ?_⟩ (fun a k z => hf a k (by omega))
    · rw [w2 _ _ (by omega), iu_eq]; rfl
    · have en : rn (RA R b) = rn R + 1 := rfl
      rw [en] at c1
      rw [RA_rc]
      by_cases z : c = rn R
      · rw [if_pos z, z, w1 u u0 u1, iu_ne (Or.inl (by omega)), iu_ne (Or.inr (by omega)), g _ _ (by omega)]
        exact hC.2.2 b u b0 b1 u0 u1
      · rw [if_neg z, hf _ _ (by omega)]
        exact hC.2.2 c u c0 (by omega) u0 u1
theorem ip_allPieces {Q : Int → iMem → Prop} {o : Nat} (ho : isRun o) (hw : WF R) (hC : RunC τ o R) (hQ : Q (np R) τ) : ip (iz_Run_allPieces o) Q τ := by
  have hn := hw.1
  have h90 := hw.2.2.2
  unfold iz_Run_allPieces
  rw [ip_B]
  refine ip_mono (Q := fun v τ1 => v = np R ∧ τ1 = τ) ?_ (fun v τ1 e => by rw [ip_P, e.1, e.2]; exact hQ)
  refine ip_W (fun (q : Int × Int) τ1 => τ1 = τ ∧ (0 ≤ q.2 ∧ q.2 ≤ rn R) ∧ q.1 = fs R q.2) (fun q _ => (rn R - q.2).toNat) ?_ ⟨rfl, ⟨Int.le_refl _, hn.1⟩, rfl⟩
  intro q τ1 ⟨et, b1, b2⟩
  obtain ⟨v, b⟩ := q
  subst et
  dsimp only at b1 b2 ⊢
  subst b2
  rw [ip_B, ip_Gt, hC.1]
  by_cases c : rn R ≤ b
  · rw [ip_ifT c, ip_P]
    exact ⟨by rw [show b = rn R by omega]; rfl, rfl⟩
  · have hs := fs_s (R := R) b1.1
    have hle := fs_le hw (b := b + 1) (by omega) (by omega)
    have hge := fs_ge hw (b := b + 1) (by omega) (by omega)
    rw [ip_ifF c, ip_B, ip_cellC ho hC hn.2 b1.1 (by omega) (by omega) (by omega), ip_A]
    refine ⟨⟨by omega, by omega⟩, ?_⟩
    rw [ip_B, ip_P, ip_A]
    refine ⟨⟨by omega, by omega⟩, ?_⟩
    rw [ip_B, ip_P, ip_P]
    simp only [Sum.elim_inl]
    exact ⟨⟨trivial, ⟨by omega, by omega⟩, by omega⟩, by omega⟩
theorem ca_again (hI : cI R H n x K f L T τ) (b : Int) {S : Int → aRun → (Nat → aRun) → Nat → (Int → aRun) → (Int → Int) → Int → (Int → Int) → Prop} (h1 : (0 ≤ b ∧ b < rn R) → (rn R = 16 ∨ 90 < np R + rc R b 1) → S (-2) R H n K f L T) (h2 : (0 ≤ b ∧ b < rn R) → ¬ (rn R = 16 ∨ 90 < np R + rc R b 1) → S (rn R + 1) (RA R b) (puH H n R) (puN n) K f L T) (h3 : ¬ (0 ≤ b ∧ b < rn R) → S (-1) R H n K f L T) : aC (iz_Top_again 0 b) τ S := by
  have hI9 := hI
  obtain ⟨hS, hW, hC⟩ := hI
  have hw := hW.1
  have hn := hw.1
  have h90 := hw.2.2.2
  have hnp := np_ge hw
  by_cases hb : 0 ≤ b ∧ b < rn R
  · have hbw := (hw.2.2.1 b hb.1 hb.2).2.1
    by_cases c : rn R = 16 ∨ 90 < np R + rc R b 1
    · refine ac_same (v := -2) hI9 ?_ (h1 hb c)
      · unfold iz_Top_again
        rw [t_0, ip_B, ip_has hC.1.1, if_pos hb, ip_ifT (by omega), ip_B, ip_Gt, hC.1.1.1]
        by_cases d : 16 ≤ rn R
        · rw [ip_ifT d, ip_P]; exact ⟨rfl, rfl⟩
        · rw [ip_ifF d, ip_B]
          refine ip_allPieces isRun_1 hw hC.1.1 ?_
          rw [ip_B, ip_cellC isRun_1 hC.1.1 hn.2 hb.1 hb.2 (by omega) (by omega), ip_A]
          refine ⟨⟨by omega, by omega⟩, ?_⟩
          rw [ip_ifF (by omega), ip_P]; exact ⟨rfl, rfl⟩
    · refine ac_of (v := rn R + 1) hS (R' := RA R b) (x' := (x + 1) % 10) (pu_WS hW (RA_wf hw hb.1 hb.2 (by omega) (by omega))) ?_ (h2 hb c)
      · unfold iz_Top_again
        rw [t_0, ip_B, ip_has hC.1.1, if_pos hb, ip_ifT (by omega), ip_B, ip_Gt, hC.1.1.1, ip_ifF (by omega), ip_B]
        refine ip_allPieces isRun_1 hw hC.1.1 ?_
        rw [ip_B, ip_cellC isRun_1 hC.1.1 hn.2 hb.1 hb.2 (by omega) (by omega), ip_A]
        refine ⟨⟨by omega, by omega⟩, ?_⟩
        rw [ip_ifT (by omega)]
        refine ip_act hW hC (fun τ1 u1 u2 => ?_)
        rw [ip_B]
        refine ip_repeat u1 hb.1 hb.2 (by omega) (fun τ2 v1 v2 => ?_)
        rw [ip_B, ip_Gt, v1.1, ip_P]
        exact ⟨rfl, v1, v2⟩
  · refine ac_same (v := -1) hI9 ?_ (h3 hb)
    · unfold iz_Top_again
      rw [t_0, ip_B, ip_has hC.1.1, if_neg hb, ip_ifF (by omega), ip_P]
      exact ⟨rfl, rfl⟩
theorem ip_remove {b : Int} {Q : Unit → iMem → Prop} (hC : RunC τ 1 R) (hn : rn R ≤ 16) (b0 : 0 ≤ b) (b1 : b < rn R)
    (hQ : ∀ τ', RunC τ' 1 (RD R b) → (∀ a k, ¬ (1 ≤ a ∧ a ≤ 3) → τ' a k = τ a k) → Q () τ') : ip (iz_Run_remove 1 b) Q τ := by
  unfold iz_Run_remove
  rw [ip_B]
  refine ip_mono (Q := fun _ τ1 => (∀ k, 16 * b ≤ k → k < 16 * (rn R - 1) → τ1 3 k = τ 3 (k + 16)) ∧ (∀ a k, ¬ (a = 3 ∧ 16 * b ≤ k) → τ1 a k = τ a k)) ?_ (fun _ τ1 g => ?_)
  · refine ip_W (fun i τ1 => (b ≤ i ∧ i ≤ rn R - 1) ∧ (∀ k, 16 * b ≤ k → k < 16 * i → τ1 3 k = τ 3 (k + 16)) ∧ (∀ k, 16 * i ≤ k → τ1 3 k = τ 3 k) ∧ (∀ a k, ¬ (a = 3 ∧ 16 * b ≤ k) → τ1 a k = τ a k)) (fun i _ => (rn R - i).toNat) ?_ ⟨⟨Int.le_refl _, by omega⟩, fun k k0 k1 => by omega, fun _ _ => rfl, fun _ _ _ => rfl⟩
    intro i τ1 ⟨g1, g2, g3, g4⟩
    rw [ip_B, ip_Gt, g4 _ _ (by omega), hC.1, ip_A]
    refine ⟨⟨by omega, by omega⟩, ?_⟩
    by_cases d : rn R ≤ i + 1
    · rw [ip_ifT d, ip_P]
      simp only [Sum.elim_inr]
      exact ⟨fun k k0 k1 => g2 k k0 (by omega), g4⟩
    · rw [ip_ifF d, ip_A]
      refine ⟨⟨by omega, by omega⟩, ?_⟩
      rw [ip_B]
      refine ip_copyCells isRun_1 (by omega) (by omega) (by omega) (by omega) (by omega) (by omega) (fun τ2 w1 w2 => ?_)
      rw [ip_A]
      refine ⟨⟨by omega, by omega⟩, ?_⟩
      rw [ip_B, ip_P, ip_P]
      simp only [Sum.elim_inl]
      refine ⟨⟨⟨by omega, by omega⟩, fun k k0 k1 => ?_, fun k k0 => ?_, fun a k z => ?_⟩, by omega⟩
      · by_cases z : 16 * i ≤ k
        · have e := w1 (k - 16 * i) (by omega) (by omega)
          rw [show 16 * i + (k - 16 * i) = k by omega, show 16 * (i + 1) + (k - 16 * i) = k + 16 by omega] at e
          rw [e, g3 _ (by omega)]
        · rw [w2 _ _ (by omega)]; exact g2 k k0 (by omega)
      · rw [w2 _ _ (by omega)]; exact g3 k (by omega)
      · rw [w2 _ _ (by omega)]; exact g4 a k z
  · rw [ip_B, ip_Gt, g.2 _ _ (by omega), hC.1, ip_A]
    refine ⟨⟨by omega, by omega⟩, ?_⟩
    rw [ip_B, ip_Pt, ip_P]
    refine hQ _ ⟨iu_eq, fun k k0 k1 => ?_, fun c u c0 c1 u0 u1 => ?_⟩ (fun a k z => ?_)
    · rw [iu_ne (Or.inl (by omega)), g.2 _ _ (by omega)]; exact hC.2.1 k k0 k1
    · have en : rn (RD R b) = rn R - 1 := rfl
      rw [en] at c1
      rw [RD_rc, iu_ne (Or.inl (by omega))]
      by_cases z : c < b
      · rw [if_pos z, g.2 _ _ (by omega)]; exact hC.2.2 c u c0 (by omega) u0 u1
      · rw [if_neg z, g.1 _ (by omega) (by omega), show 16 * c + u + 16 = 16 * (c + 1) + u by omega]
        exact hC.2.2 (c + 1) u (by omega) (by omega) u0 u1
    · rw [iu_ne (by omega), g.2 _ _ (by omega)]
theorem ca_drop (hI : cI R H n x K f L T τ) (b : Int) {S : Int → aRun → (Nat → aRun) → Nat → (Int → aRun) → (Int → Int) → Int → (Int → Int) → Prop} (h1 : (0 ≤ b ∧ b < rn R) → S (rn R - 1) (RD R b) (puH H n R) (puN n) K f L T) (h2 : ¬ (0 ≤ b ∧ b < rn R) → S (-1) R H n K f L T) : aC (iz_Top_drop 0 b) τ S := by
  have hI9 := hI
  obtain ⟨hS, hW, hC⟩ := hI
  have hw := hW.1
  have hn := hw.1
  by_cases hb : 0 ≤ b ∧ b < rn R
  · refine ac_of (v := rn R - 1) hS (R' := RD R b) (x' := (x + 1) % 10) (pu_WS hW (RD_wf hw hb.1 hb.2)) ?_ (h1 hb)
    · unfold iz_Top_drop
      rw [t_0, ip_B, ip_has hC.1.1, if_pos hb, ip_ifT (by omega)]
      refine ip_act hW hC (fun τ1 u1 u2 => ?_)
      rw [ip_B]
      refine ip_remove u1 hn.2 hb.1 hb.2 (fun τ2 v1 v2 => ?_)
      rw [ip_B, ip_Gt, v1.1, ip_P]
      exact ⟨rfl, v1, v2⟩
  · refine ac_same (v := -1) hI9 ?_ (h2 hb)
    · unfold iz_Top_drop
      rw [t_0, ip_B, ip_has hC.1.1, if_neg hb, ip_ifF (by omega), ip_P]
      exact ⟨rfl, rfl⟩
end
