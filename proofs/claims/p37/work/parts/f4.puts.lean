/-! ===== numbers put into a RUN of the law's; BLOCKS swapped, dropped ===== -/
theorem LRs.nym {w : yW} {c : LC} {R : aRun} (h : LRs w c R) : ∀ q, LOw c R q → ¬ ym (w_kd w q) := by
  obtain ⟨-, ⟨h1, -⟩, ⟨h6, -⟩, h8, h9, -, h11, -⟩ := h
  intro q hq
  rcases hq with rfl | rfl | rfl | rfl | ⟨j, j0, jn, rfl⟩
  · rw [h1]; unfold ym; simp
  · rw [h6]; unfold ym; simp
  · rw [h8]; unfold ym; simp
  · rw [h9]; unfold ym; simp
  · rw [(h11 j j0 jn).2.2.1.1]; unfold ym; simp
theorem LR.putS {w : yW} {p s : Nat} {R : aRun} {S : Nat → Prop} {i x : Int} (h : LR w p R S) (hs : w_rv w p 0 = some s) : LR (y_iv w (iu (w_iv w) s i x)) p (RS R i x) S ∧ yG S 0 0 w (y_iv w (iu (w_iv w) s i x)) := by
  obtain ⟨c, rfl, hc, ho, hm⟩ := h
  have hny := hc.nym
  obtain ⟨h0, ⟨h1, h2, h3, h4, h5⟩, ⟨h6, h7⟩, h8, h9, h10, h11, h12⟩ := hc
  have es : s = c.2.1 := Option.some.inj (hs.symm.trans h2)
  subst es
  have n1 : c.1 ≠ c.2.1 := fun e => by rw [← e, h1] at h6; cases h6
  refine ⟨⟨c, rfl, ⟨h0, ⟨h1, h2, h3, h4, ?_⟩, ⟨h6, fun k k0 k8 => ?_⟩, h8, h9, h10, fun j j0 jn => ?_, h12⟩, ho, hm⟩, yG.refl.st (Or.inr ⟨(ho _ (Or.inr (Or.inl rfl))).1, hny _ (Or.inr (Or.inl rfl))⟩)⟩
  · show iu _ _ _ _ c.1 1 = _
    rw [yu_at n1]; exact h5
  · show iu _ _ _ _ c.2.1 k = (if k = i then x else rs R k)
    by_cases e : k = i
    · subst e; rw [yu_s, if_pos rfl]
    · rw [yu_n e, if_neg e]; exact h7 k k0 k8
  · obtain ⟨g1, g2, g3, g4⟩ := h11 j j0 jn
    have nb : c.2.2.2.2.1 j ≠ c.2.1 := fun e => by rw [← e, g3.1] at h6; cases h6
    have nk : c.2.2.2.2.2 j ≠ c.2.1 := fun e => by have := g4.ym; rw [e, h6] at this; unfold ym at this; simp at this
    refine ⟨g1, g2, ⟨g3.1, fun k k0 k7 => ?_⟩, ?_⟩
    · show iu _ _ _ _ (c.2.2.2.2.1 j) k = _
      rw [yu_at nb]; exact g3.2 k k0 k7
    · unfold LMk at g4 ⊢
      show (w_kd w (c.2.2.2.2.2 j) = _ ∧ _) ∨ (w_kd w (c.2.2.2.2.2 j) = _ ∧ _ ∧ iu _ _ _ _ (c.2.2.2.2.2 j) 0 = _ ∧ iu _ _ _ _ (c.2.2.2.2.2 j) 1 = _)
      rw [yu_at nk]; exact g4
theorem LR.putB {w : yW} {p b q : Nat} {R : aRun} {S : Nat → Prop} {j i x : Int} (h : LR w p R S) (hb : w_rv w p 2 = some b) (hq : w_rv w b j = some q) (j0 : 0 ≤ j) (jn : j < rn R) (i0 : 0 ≤ i) (i7 : i < 7) : LR (y_iv w (iu (w_iv w) q i x)) p (RP R j i x) S ∧ yG S 0 0 w (y_iv w (iu (w_iv w) q i x)) := by
  obtain ⟨c, rfl, hc, ho, hm⟩ := h
  have hny := hc.nym
  obtain ⟨h0, ⟨h1, h2, h3, h4, h5⟩, ⟨h6, h7⟩, h8, h9, h10, h11, h12⟩ := hc
  have eb : b = c.2.2.1 := Option.some.inj (hb.symm.trans h3)
  subst eb
  have eq : q = c.2.2.2.2.1 j := Option.some.inj (hq.symm.trans (h11 j j0 jn).1)
  subst eq
  have kq := (h11 j j0 jn).2.2.1.1
  have n1 : c.1 ≠ c.2.2.2.2.1 j := fun e => by rw [← e, h1] at kq; cases kq
  have n2 : c.2.1 ≠ c.2.2.2.2.1 j := fun e => by rw [← e, h6] at kq; cases kq
  have oq : LOw c R (c.2.2.2.2.1 j) := Or.inr (Or.inr (Or.inr (Or.inr ⟨j, j0, jn, rfl⟩)))
  refine ⟨⟨c, rfl, ⟨h0, ⟨h1, h2, h3, h4, ?_⟩, ⟨h6, fun k k0 k8 => ?_⟩, h8, h9, h10, fun l l0 ln => ?_, h12⟩, ho, hm⟩, yG.refl.st (Or.inr ⟨(ho _ oq).1, hny _ oq⟩)⟩
  · show iu _ _ _ _ c.1 1 = _
    rw [yu_at n1]; exact h5
  · show iu _ _ _ _ c.2.1 k = _
    rw [yu_at n2]; exact h7 k k0 k8
  · obtain ⟨g1, g2, g3, g4⟩ := h11 l l0 ln
    have nk : c.2.2.2.2.2 l ≠ c.2.2.2.2.1 j := fun e => by have := g4.ym; rw [e, kq] at this; unfold ym at this; simp at this
    refine ⟨g1, g2, ⟨g3.1, fun k k0 k7 => ?_⟩, ?_⟩
    · show iu _ _ _ _ (c.2.2.2.2.1 l) k = (if l = j ∧ k = i then x else rc R l k)
      by_cases el : l = j
      · subst el
        by_cases ek : k = i
        · subst ek; rw [yu_s, if_pos ⟨rfl, rfl⟩]
        · rw [yu_n ek, if_neg (fun z => ek z.2)]; exact g3.2 k k0 k7
      · rw [yu_at (fun e => el (h12 l j l0 ln j0 jn e)), if_neg (fun z => el z.1)]; exact g3.2 k k0 k7
    · unfold LMk at g4 ⊢
      have er : ∀ u, 7 ≤ u → rc (RP R j i x) l u = rc R l u := fun u hu => if_neg (fun z => by omega)
      show (w_kd w (c.2.2.2.2.2 l) = _ ∧ _) ∨ (w_kd w (c.2.2.2.2.2 l) = _ ∧ _ ∧ iu _ _ _ _ (c.2.2.2.2.2 l) 0 = _ ∧ iu _ _ _ _ (c.2.2.2.2.2 l) 1 = _)
      rw [yu_at nk, er 7 (by decide), er 8 (by decide), er 12 (by decide)]; exact g4
/-- the references of two rows put anew: what stands there in the end counts -/
theorem LR.rows_of {w w1 : yW} {p b k : Nat} {R R' : aRun} {S : Nat → Prop} (h : LR w p R S) (hb : w_rv w p 2 = some b) (hk : w_rv w p 3 = some k) (g : Int → Int) (hg : ∀ j, 0 ≤ j → j < rn R' → 0 ≤ g j ∧ g j < rn R) (hi : ∀ j l, 0 ≤ j → j < rn R' → 0 ≤ l → l < rn R' → g j = g l → j = l) (hn : 0 ≤ rn R' ∧ rn R' ≤ 16) (e1 : ∀ k, 0 ≤ k → k < 8 → rs R' k = rs R k) (e2 : ∀ j i, 0 ≤ j → j < rn R' → rc R' j i = rc R (g j) i)
    (hw : w_kd w1 = w_kd w ∧ w_sz w1 = w_sz w ∧ (∀ q, q ≠ p → w_iv w1 q = w_iv w q) ∧ w_iv w1 p 1 = rn R' ∧ (∀ q, q ≠ b → q ≠ k → w_rv w1 q = w_rv w q)) (hr : ∀ j, 0 ≤ j → j < rn R' → w_rv w1 b j = w_rv w b (g j) ∧ w_rv w1 k j = w_rv w k (g j)) : LR w1 p R' S := by
  obtain ⟨c, rfl, hc, ho, hm⟩ := h
  obtain ⟨h0, ⟨h1, h2, h3, h4, h5⟩, ⟨h6, h7⟩, h8, h9, h10, h11, h12⟩ := hc
  obtain ⟨v1, v2, v3, v4, v5⟩ := hw
  have eb : b = c.2.2.1 := Option.some.inj (hb.symm.trans h3)
  have ek : k = c.2.2.2.1 := Option.some.inj (hk.symm.trans h4)
  subst eb
  subst ek
  have nb : c.1 ≠ c.2.2.1 := fun e => by rw [← e, h1] at h8; cases h8
  have nk : c.1 ≠ c.2.2.2.1 := fun e => by rw [← e, h1] at h9; cases h9
  have ns : c.2.1 ≠ c.1 := fun e => by rw [e, h1] at h6; cases h6
  refine ⟨(c.1, c.2.1, c.2.2.1, c.2.2.2.1, (fun j => c.2.2.2.2.1 (g j)), fun j => c.2.2.2.2.2 (g j)), rfl, ⟨hn, ⟨by rw [v1]; exact h1, by rw [v5 _ nb nk]; exact h2, by rw [v5 _ nb nk]; exact h3, by rw [v5 _ nb nk]; exact h4, v4⟩, ⟨by rw [v1]; exact h6, fun i i0 i8 => ?_⟩, by rw [v1]; exact h8, by rw [v1]; exact h9, h10, fun j j0 jn => ?_, fun j l j0 jn l0 ln e => hi j l j0 jn l0 ln ?_⟩, fun q hq => ?_, fun j j0 jn => by rw [v2]; exact hm _ (hg j j0 jn).1 (hg j j0 jn).2⟩
  · show w_iv w1 c.2.1 i = _
    rw [v3 _ ns, e1 i i0 i8]; exact h7 i i0 i8
  · obtain ⟨a0, a1⟩ := hg j j0 jn
    obtain ⟨g1, g2, g3, g4⟩ := h11 (g j) a0 a1
    have nq : c.2.2.2.2.1 (g j) ≠ c.1 := fun e => by rw [← e, g3.1] at h1; cases h1
    have nm : c.2.2.2.2.2 (g j) ≠ c.1 := fun e => by have := g4.ym; rw [e, h1] at this; unfold ym at this; simp at this
    refine ⟨(hr j j0 jn).1.trans g1, (hr j j0 jn).2.trans g2, ⟨by rw [v1]; exact g3.1, fun i i0 i7 => ?_⟩, ?_⟩
    · show w_iv w1 (c.2.2.2.2.1 (g j)) i = _
      rw [v3 _ nq, e2 j i j0 jn]; exact g3.2 i i0 i7
    · unfold LMk at g4 ⊢
      show (w_kd w1 (c.2.2.2.2.2 (g j)) = _ ∧ _) ∨ (w_kd w1 (c.2.2.2.2.2 (g j)) = _ ∧ _ ∧ w_iv w1 (c.2.2.2.2.2 (g j)) 0 = _ ∧ w_iv w1 (c.2.2.2.2.2 (g j)) 1 = _)
      rw [v1, v3 _ nm, e2 j 7 j0 jn, e2 j 8 j0 jn, e2 j 12 j0 jn]; exact g4
  · exact h12 _ _ (hg j j0 jn).1 (hg j j0 jn).2 (hg l l0 ln).1 (hg l l0 ln).2 e
  · rw [v2]
    rcases hq with rfl | rfl | rfl | rfl | ⟨j, j0, jn, rfl⟩
    · exact ho _ (Or.inl rfl)
    · exact ho _ (Or.inr (Or.inl rfl))
    · exact ho _ (Or.inr (Or.inr (Or.inl rfl)))
    · exact ho _ (Or.inr (Or.inr (Or.inr (Or.inl rfl))))
    · exact ho _ (Or.inr (Or.inr (Or.inr (Or.inr ⟨g j, (hg j j0 jn).1, (hg j j0 jn).2, rfl⟩))))
