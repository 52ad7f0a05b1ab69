/-! ===== a RUN of the law's: one BLOCK more; a number put ===== -/
theorem run_adds {Y : yY} {Q : Unit → yW → Prop} {w : yW} {p a m : Nat} {R R' : aRun} {S : Nat → Prop} (hL : LR w p R S) (hn : rn R ≤ 15) (e0 : rn R' = rn R + 1) (e1 : ∀ k, 0 ≤ k → k < 8 → rs R' k = rs R k) (e2 : ∀ b i, 0 ≤ b → b < rn R → (0 ≤ i ∧ i ≤ 8) ∨ i = 12 → rc R' b i = rc R b i) (ha : LBk w a R' (rn R)) (hm : LMk w m R' (rn R)) (hSa : ¬ S a ∧ a < w_sz w) (hm9 : m < w_sz w) (h : ∀ w1, yG S 0 0 w w1 → LR w1 p R' (fun q => S q ∨ q = a) → Q () w1) : yp (kf_LRun_adds Y (some p) (some a) (some m)) Q w := by
  obtain ⟨c, rfl, ⟨h0, ⟨h1, h2, h3, h4, h5⟩, ⟨h6, h7⟩, h8, h9, h10, h11, h12⟩, ho, hmk⟩ := hL
  obtain ⟨nm, hnm⟩ : ∃ n, w_kd w m = (1, n) := by
    rcases hm with z | z
    · exact ⟨0, z.1⟩
    · exact ⟨2, z.1⟩
  have o1 := ho _ (Or.inl rfl)
  have o2 := ho _ (Or.inr (Or.inl rfl))
  have o3 := ho _ (Or.inr (Or.inr (Or.inl rfl)))
  have o4 := ho _ (Or.inr (Or.inr (Or.inr (Or.inl rfl))))
  have n13 : c.1 ≠ c.2.2.1 := fun e => by rw [← e, h1] at h8; cases h8
  have n14 : c.1 ≠ c.2.2.2.1 := fun e => by rw [← e, h1] at h9; cases h9
  have n12 : c.2.1 ≠ c.1 := fun e => by rw [e, h1] at h6; cases h6
  have na1 : a ≠ c.1 := fun e => hSa.1 (by rw [e]; exact o1.1)
  have nm1 : m ≠ c.1 := fun e => by rw [e, h1] at hnm; cases hnm
  unfold kf_LRun_adds
  refine yb_gr h1 h3 (yb_gt h1 h5 (yb_sr h8 ha.1 ⟨h0.1, by omega⟩ (by decide) (yb_gr (r := some c.2.2.2.1) h1 ?_ (yb_gt h1 (v := rn R) h5 (yb_sr h9 hnm ⟨h0.1, by omega⟩ (by decide) (yb_gt h1 (v := rn R) h5 (yb_pt h1 (yp_P (h _ ?_ ?_)))))))))
  · show yur _ _ _ _ c.1 3 = _
    rw [yur_at n13]; exact h4
  · have nmS : ∀ q, LOw c R q → ¬ ym (w_kd w q) := fun q hq => by
      rcases hq with rfl | rfl | rfl | rfl | ⟨j, j0, jn, rfl⟩
      · rw [h1]; unfold ym; simp
      · rw [h6]; unfold ym; simp
      · rw [h8]; unfold ym; simp
      · rw [h9]; unfold ym; simp
      · rw [(h11 j j0 jn).2.2.1.1]; unfold ym; simp
    exact ((yG.refl.sr (Or.inr ⟨o3.1, nmS _ (Or.inr (Or.inr (Or.inl rfl)))⟩)).sr (Or.inr ⟨o4.1, nmS _ (Or.inr (Or.inr (Or.inr (Or.inl rfl))))⟩)).st (Or.inr ⟨o1.1, nmS _ (Or.inl rfl)⟩)
  · refine ⟨(c.1, c.2.1, c.2.2.1, c.2.2.2.1, (fun j => if j = rn R then a else c.2.2.2.2.1 j), fun j => if j = rn R then m else c.2.2.2.2.2 j), rfl, ⟨by rw [e0]; omega, ⟨h1, ?_, ?_, ?_, ?_⟩, ⟨h6, fun i i0 i8 => ?_⟩, h8, h9, h10, fun j j0 jn => ?_, fun j k j0 jn k0 kn e => ?_⟩, fun q hq => ?_, fun j j0 jn => ?_⟩
    · show yur (yur _ _ _ _) _ _ _ c.1 0 = _
      rw [yur_at n14, yur_at n13]; exact h2
    · show yur (yur _ _ _ _) _ _ _ c.1 2 = _
      rw [yur_at n14, yur_at n13]; exact h3
    · show yur (yur _ _ _ _) _ _ _ c.1 3 = _
      rw [yur_at n14, yur_at n13]; exact h4
    · show iu _ _ _ _ c.1 1 = _
      rw [yu_s, e0]
    · show iu _ _ _ _ c.2.1 i = _
      rw [yu_at n12, e1 i i0 i8]; exact h7 i i0 i8
    · show yur (yur _ _ _ _) _ _ _ c.2.2.1 j = some (if j = rn R then a else c.2.2.2.2.1 j) ∧ yur (yur _ _ _ _) _ _ _ c.2.2.2.1 j = some (if j = rn R then m else c.2.2.2.2.2 j) ∧ LBk _ (if j = rn R then a else c.2.2.2.2.1 j) R' j ∧ LMk _ (if j = rn R then m else c.2.2.2.2.2 j) R' j
      rw [yur_at h10]
      rw [e0] at jn
      have mono : ∀ q, q ≠ c.1 → w_iv (y_iv (y_rv (y_rv w (yur (w_rv w) c.2.2.1 (rn R) (some a))) (yur (w_rv (y_rv w (yur (w_rv w) c.2.2.1 (rn R) (some a)))) c.2.2.2.1 (rn R) (some m))) (iu (w_iv w) c.1 1 (rn R + 1))) q = w_iv w q := fun q hq => yu_at hq
      by_cases cj : j = rn R
      · subst cj
        rw [yur_s, yur_s, if_pos (rfl : rn R = rn R), if_pos (rfl : rn R = rn R)]
        refine ⟨rfl, rfl, ⟨ha.1, fun i i0 i7 => ?_⟩, ?_⟩
        · show iu _ _ _ _ a i = _
          rw [yu_at na1]; exact ha.2 i i0 i7
        · unfold LMk at hm ⊢
          show (w_kd w m = _ ∧ _) ∨ (w_kd w m = _ ∧ _ ∧ iu _ _ _ _ m 0 = _ ∧ iu _ _ _ _ m 1 = _)
          rw [yu_at nm1]; exact hm
      · obtain ⟨g1, g2, g3, g4⟩ := h11 j j0 (by omega)
        have nb : c.2.2.2.2.1 j ≠ c.1 := fun e => by rw [← e, g3.1] at h1; cases h1
        have nk : c.2.2.2.2.2 j ≠ c.1 := fun e => by have := g4.ym; rw [e, h1] at this; unfold ym at this; simp at this
        rw [yur_n cj, yur_n cj, if_neg cj, if_neg cj, yur_at (Ne.symm h10)]
        refine ⟨g1, g2, ⟨g3.1, fun i i0 i7 => ?_⟩, ?_⟩
        · show iu _ _ _ _ (c.2.2.2.2.1 j) i = _
          rw [yu_at nb, e2 j i j0 (by omega) (Or.inl ⟨i0, by omega⟩)]; exact g3.2 i i0 i7
        · unfold LMk at g4 ⊢
          show (w_kd w (c.2.2.2.2.2 j) = _ ∧ _) ∨ (w_kd w (c.2.2.2.2.2 j) = _ ∧ _ ∧ iu _ _ _ _ (c.2.2.2.2.2 j) 0 = _ ∧ iu _ _ _ _ (c.2.2.2.2.2 j) 1 = _)
          rw [yu_at nk, e2 j 7 j0 (by omega) (Or.inl ⟨by decide, by decide⟩), e2 j 8 j0 (by omega) (Or.inl ⟨by decide, by decide⟩), e2 j 12 j0 (by omega) (Or.inr rfl)]
          exact g4
    · rw [e0] at jn kn
      dsimp only at e
      have nj : ∀ i, 0 ≤ i → i < rn R → c.2.2.2.2.1 i ≠ a := fun i i0 iN e => hSa.1 (by rw [← e]; exact (ho _ (Or.inr (Or.inr (Or.inr (Or.inr ⟨i, i0, iN, rfl⟩))))).1)
      by_cases cj : j = rn R
      · by_cases ck : k = rn R
        · omega
        · rw [if_pos cj, if_neg ck] at e
          exact absurd e.symm (nj k k0 (by omega))
      · by_cases ck : k = rn R
        · rw [if_neg cj, if_pos ck] at e
          exact absurd e (nj j j0 (by omega))
        · rw [if_neg cj, if_neg ck] at e
          exact h12 j k j0 (by omega) k0 (by omega) e
    · rcases hq with rfl | rfl | rfl | rfl | ⟨j, j0, jn, rfl⟩
      · exact ⟨Or.inl o1.1, o1.2⟩
      · exact ⟨Or.inl o2.1, o2.2⟩
      · exact ⟨Or.inl o3.1, o3.2⟩
      · exact ⟨Or.inl o4.1, o4.2⟩
      · rw [e0] at jn
        show (S (if j = rn R then a else c.2.2.2.2.1 j) ∨ (if j = rn R then a else c.2.2.2.2.1 j) = a) ∧ (if j = rn R then a else c.2.2.2.2.1 j) < w_sz w
        by_cases cj : j = rn R
        · rw [if_pos cj]; exact ⟨Or.inr rfl, hSa.2⟩
        · rw [if_neg cj]
          have := ho _ (Or.inr (Or.inr (Or.inr (Or.inr ⟨j, j0, by omega, rfl⟩))))
          exact ⟨Or.inl this.1, this.2⟩
    · rw [e0] at jn
      show (if j = rn R then m else c.2.2.2.2.2 j) < w_sz w
      by_cases cj : j = rn R
      · rw [if_pos cj]; exact hm9
      · rw [if_neg cj]; exact hmk j j0 (by omega)
theorem LR.many {w : yW} {p : Nat} {R : aRun} {S : Nat → Prop} (h : LR w p R S) : w_kd w p = (20, 0) ∧ w_iv w p 1 = rn R := by
  obtain ⟨c, rfl, h2, -, -⟩ := h
  exact ⟨h2.2.1.1, h2.2.1.2.2.2.2⟩
theorem LR.n {w : yW} {p : Nat} {R : aRun} {S : Nat → Prop} (h : LR w p R S) : 0 ≤ rn R ∧ rn R ≤ 16 := by
  obtain ⟨c, rfl, h2, -, -⟩ := h
  exact h2.1
theorem LR.own {w : yW} {p : Nat} {R : aRun} {S : Nat → Prop} (h : LR w p R S) : S p ∧ p < w_sz w := by
  obtain ⟨c, rfl, h2, h3, -⟩ := h
  exact h3 _ (Or.inl rfl)
theorem LR.sets {w : yW} {p : Nat} {R : aRun} {S : Nat → Prop} (h : LR w p R S) : ∃ s, w_rv w p 0 = some s ∧ w_kd w s = (1, 8) ∧ (∀ i, 0 ≤ i → i < 8 → w_iv w s i = rs R i) ∧ S s ∧ s < w_sz w := by
  obtain ⟨c, rfl, h2, h3, -⟩ := h
  exact ⟨c.2.1, h2.2.1.2.1, h2.2.2.1.1, h2.2.2.1.2, h3 _ (Or.inr (Or.inl rfl))⟩
/-- the rows of BLOCKS and of MARKS -/
theorem LR.rows {w : yW} {p : Nat} {R : aRun} {S : Nat → Prop} (h : LR w p R S) : ∃ b k, w_rv w p 2 = some b ∧ w_kd w b = (4, 17) ∧ w_rv w p 3 = some k ∧ w_kd w k = (4, 17) ∧ b ≠ k ∧ (S b ∧ b < w_sz w) ∧ (S k ∧ k < w_sz w) ∧ ∀ j, 0 ≤ j → j < rn R → ∃ q m, w_rv w b j = some q ∧ w_rv w k j = some m ∧ LBk w q R j ∧ LMk w m R j ∧ S q ∧ q < w_sz w ∧ m < w_sz w := by
  obtain ⟨c, rfl, h2, h3, h4⟩ := h
  refine ⟨c.2.2.1, c.2.2.2.1, h2.2.1.2.2.1, h2.2.2.2.1, h2.2.1.2.2.2.1, h2.2.2.2.2.1, h2.2.2.2.2.2.1, h3 _ (Or.inr (Or.inr (Or.inl rfl))), h3 _ (Or.inr (Or.inr (Or.inr (Or.inl rfl)))), fun j j0 jn => ?_⟩
  obtain ⟨g1, g2, g3, g4⟩ := h2.2.2.2.2.2.2.1 j j0 jn
  have := h3 _ (Or.inr (Or.inr (Or.inr (Or.inr ⟨j, j0, jn, rfl⟩))))
  exact ⟨_, _, g1, g2, g3, g4, this.1, this.2, h4 j j0 jn⟩
