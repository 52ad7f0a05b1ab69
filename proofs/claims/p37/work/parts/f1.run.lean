/-! ===== a RUN of the law's ===== -/
/-- a BLOCK's MARKS: none or one -/
def LMk (w : yW) (m : Nat) (R : aRun) (j : Int) : Prop :=
  (w_kd w m = (1, 0) ∧ rc R j 7 = 0) ∨ (w_kd w m = (1, 2) ∧ rc R j 7 = 1 ∧ w_iv w m 0 = rc R j 8 ∧ w_iv w m 1 = rc R j 12)
def LBk (w : yW) (b : Nat) (R : aRun) (j : Int) : Prop := w_kd w b = (1, 7) ∧ ∀ i, 0 ≤ i → i < 7 → w_iv w b i = rc R j i
/-- the cells of a RUN: itself, its SETTINGS, its rows of BLOCKS and MARKS, the BLOCKS' and the MARKS' -/
abbrev LC : Type := Nat × Nat × Nat × Nat × (Int → Nat) × (Int → Nat)
def LRs (w : yW) (c : LC) (R : aRun) : Prop :=
  (0 ≤ rn R ∧ rn R ≤ 16) ∧ (w_kd w c.1 = (20, 0) ∧ w_rv w c.1 0 = some c.2.1 ∧ w_rv w c.1 2 = some c.2.2.1 ∧ w_rv w c.1 3 = some c.2.2.2.1 ∧ w_iv w c.1 1 = rn R) ∧
  (w_kd w c.2.1 = (1, 8) ∧ ∀ i, 0 ≤ i → i < 8 → w_iv w c.2.1 i = rs R i) ∧ w_kd w c.2.2.1 = (4, 17) ∧ w_kd w c.2.2.2.1 = (4, 17) ∧ c.2.2.1 ≠ c.2.2.2.1 ∧
  (∀ j, 0 ≤ j → j < rn R → w_rv w c.2.2.1 j = some (c.2.2.2.2.1 j) ∧ w_rv w c.2.2.2.1 j = some (c.2.2.2.2.2 j) ∧ LBk w (c.2.2.2.2.1 j) R j ∧ LMk w (c.2.2.2.2.2 j) R j) ∧
  (∀ j k, 0 ≤ j → j < rn R → 0 ≤ k → k < rn R → c.2.2.2.2.1 j = c.2.2.2.2.1 k → j = k)
/-- what a RUN owns -/
def LOw (c : LC) (R : aRun) (q : Nat) : Prop := q = c.1 ∨ q = c.2.1 ∨ q = c.2.2.1 ∨ q = c.2.2.2.1 ∨ ∃ j, 0 ≤ j ∧ j < rn R ∧ q = c.2.2.2.2.1 j
/-- a RUN at p, what it owns within S, all of it made -/
def LR (w : yW) (p : Nat) (R : aRun) (S : Nat → Prop) : Prop := ∃ c : LC, c.1 = p ∧ LRs w c R ∧ (∀ q, LOw c R q → S q ∧ q < w_sz w) ∧ (∀ j, 0 ≤ j → j < rn R → c.2.2.2.2.2 j < w_sz w)
theorem LR.mono {w : yW} {p : Nat} {R : aRun} {S S' : Nat → Prop} (h : LR w p R S) (hS : ∀ q, q < w_sz w → S q → S' q) : LR w p R S' := by
  obtain ⟨c, h1, h2, h3, h4⟩ := h
  exact ⟨c, h1, h2, fun q hq => ⟨hS q (h3 q hq).2 (h3 q hq).1, (h3 q hq).2⟩, h4⟩
theorem LRs.moved {w w1 : yW} {c : LC} {R : aRun} (h : LRs w c R) (ho : ∀ q, LOw c R q → w_kd w1 q = w_kd w q ∧ w_iv w1 q = w_iv w q ∧ w_rv w1 q = w_rv w q) (hm : ∀ j, 0 ≤ j → j < rn R → w_kd w1 (c.2.2.2.2.2 j) = w_kd w (c.2.2.2.2.2 j) ∧ w_iv w1 (c.2.2.2.2.2 j) = w_iv w (c.2.2.2.2.2 j)) : LRs w1 c R := by
  obtain ⟨h0, ⟨h1, h2, h3, h4, h5⟩, ⟨h6, h7⟩, h8, h9, h10, h11, h12⟩ := h
  have a1 := ho c.1 (Or.inl rfl)
  have a2 := ho c.2.1 (Or.inr (Or.inl rfl))
  have a3 := ho c.2.2.1 (Or.inr (Or.inr (Or.inl rfl)))
  have a4 := ho c.2.2.2.1 (Or.inr (Or.inr (Or.inr (Or.inl rfl))))
  refine ⟨h0, ⟨by rw [a1.1]; exact h1, by rw [a1.2.2]; exact h2, by rw [a1.2.2]; exact h3, by rw [a1.2.2]; exact h4, by rw [a1.2.1]; exact h5⟩, ⟨by rw [a2.1]; exact h6, by rw [a2.2.1]; exact h7⟩, by rw [a3.1]; exact h8, by rw [a4.1]; exact h9, h10, fun j j0 jn => ?_, h12⟩
  obtain ⟨g1, g2, g3, g4⟩ := h11 j j0 jn
  have b1 := ho (c.2.2.2.2.1 j) (Or.inr (Or.inr (Or.inr (Or.inr ⟨j, j0, jn, rfl⟩))))
  have b2 := hm j j0 jn
  refine ⟨by rw [a3.2.2]; exact g1, by rw [a4.2.2]; exact g2, ?_, ?_⟩
  · unfold LBk
    rw [b1.1, b1.2.1]; exact g3
  · unfold LMk
    rw [b2.1, b2.2]; exact g4
theorem LMk.ym {w : yW} {m : Nat} {R : aRun} {j : Int} (h : LMk w m R j) : ym (w_kd w m) := h.imp (fun h => h.1) (fun h => h.1)
/-- a RUN stays where nothing of it may change -/
theorem LR.keep {w w1 : yW} {p : Nat} {R : aRun} {S D : Nat → Prop} {a b : Nat} (h : LR w p R S) (hG : yG D a b w w1) (hd : ∀ q, q < w_sz w → S q → ¬ D q) : LR w1 p R S := by
  obtain ⟨c, h1, h2, h3, h4⟩ := h
  have l := hG.2.1.1
  refine ⟨c, h1, h2.moved (fun q hq => ?_) (fun j j0 jn => ?_), fun q hq => ⟨(h3 q hq).1, by have := (h3 q hq).2; omega⟩, fun j j0 jn => by have := h4 j j0 jn; omega⟩
  · have := h3 q hq
    have e := hG.2.2.2.2 q this.2 (Or.inl (hd q this.2 this.1))
    exact ⟨hG.2.2.2.1 q this.2, e.1, e.2⟩
  · have e := hG.2.2.2.2 _ (h4 j j0 jn) (Or.inr (h2.2.2.2.2.2.2.1 j j0 jn).2.2.2.ym)
    exact ⟨hG.2.2.2.1 _ (h4 j j0 jn), e.1⟩
/-- nothing of the law's changes where the object alone does -/
theorem LR.κ {w : yW} {p : Nat} {R : aRun} {S : Nat → Prop} (κ : iMem) (h : LR w p R S) : LR (κ, w.2) p R S := h
/-- the first RUN -/
theorem run_init {Y : yY} {Q : Unit → yW → Prop} {w : yW} {p : Nat} (hk : w_kd w p = (20, 0)) (hp : p < w_sz w) (h0 : w_iv w p 1 = 0) (h : ∀ w1, yG (fun q => q = p) 3 42 w w1 → LR w1 p R00 (fun q => q = p ∨ w_sz w ≤ q) → Q () w1) : yp (kf_LRun_init Y (some p)) Q w := by
  unfold kf_LRun_init
  refine yb_Nn (yb_na ⟨by decide, by decide⟩ (fun w1 e1 => ?_))
  have k1 : w_kd w1 (w_sz w) = (1, 8) := e1.kd
  refine yb_st k1 ⟨by decide, by decide⟩ (by decide) ?_
  refine yb_st k1 ⟨by decide, by decide⟩ (by decide) ?_
  refine yb_st k1 ⟨by decide, by decide⟩ (by decide) ?_
  refine yb_st k1 ⟨by decide, by decide⟩ (by decide) ?_
  refine yb_st k1 ⟨by decide, by decide⟩ (by decide) ?_
  refine yb_st k1 ⟨by decide, by decide⟩ (by decide) ?_
  refine yb_st k1 ⟨by decide, by decide⟩ (by decide) ?_
  refine yb_st k1 ⟨by decide, by decide⟩ (by decide) ?_
  have hpn : p ≠ w_sz w := by omega
  have k2 : w_kd w1 p = (20, 0) := (e1.old p hpn).1.trans hk
  refine yb_pr k2 ?_
  generalize ew2 : y_rv _ _ = w2
  have g2 : yG (fun q => q = p) 1 8 w w2 := by
    subst ew2
    exact yG.sr (yG.st (yG.st (yG.st (yG.st (yG.st (yG.st (yG.st (yG.st (e1.g.le (fun _ _ h => h.elim) (Nat.le_refl _) (Nat.le_refl _)) (Or.inl (Nat.le_refl _))) (Or.inl (Nat.le_refl _))) (Or.inl (Nat.le_refl _))) (Or.inl (Nat.le_refl _))) (Or.inl (Nat.le_refl _))) (Or.inl (Nat.le_refl _))) (Or.inl (Nat.le_refl _))) (Or.inl (Nat.le_refl _))) (Or.inr ⟨rfl, by rw [hk]; unfold ym; simp⟩)
  have z2 : w_sz w2 = w_sz w + 1 := by subst ew2; exact e1.sz
  have s2 : w_kd w2 (w_sz w) = (1, 8) := by subst ew2; exact k1
  have v2 : ∀ i, 0 ≤ i → i < 8 → w_iv w2 (w_sz w) i = rs R00 i := by
    subst ew2
    intro i i0 i8
    have : i = 0 ∨ i = 1 ∨ i = 2 ∨ i = 3 ∨ i = 4 ∨ i = 5 ∨ i = 6 ∨ i = 7 := by omega
    simp only [yv_1, yv_2, yv_6]
    rcases this with rfl | rfl | rfl | rfl | rfl | rfl | rfl | rfl <;> first | (simp [iu, R00, rs]; done) | (simp [iu, R00, rs]; rfl)
  have p2 : w_kd w2 p = (20, 0) := by subst ew2; exact k2
  have r2 : w_rv w2 p 0 = some (w_sz w) := by subst ew2; simp only [yv_7, yur_s]
  have i2 : w_iv w2 p 1 = 0 := by
    subst ew2
    simp only [yv_1, yv_6, yu_at hpn, (e1.old p hpn).2.1]
    exact h0
  clear ew2
  refine yb_na ⟨by decide, by decide⟩ (fun w3 e3 => ?_)
  have z3 : w_sz w3 = w_sz w2 + 1 := e3.sz
  have hp3 : p ≠ w_sz w2 := by omega
  have p3 : w_kd w3 p = (20, 0) := (e3.old p hp3).1.trans p2
  have r3 : w_rv w3 p = w_rv w2 p := (e3.old p hp3).2.2
  have i3 : w_iv w3 p = w_iv w2 p := (e3.old p hp3).2.1
  have hs3 : w_sz w ≠ w_sz w2 := by omega
  refine yb_pr p3 ?_
  refine yb_na ⟨by decide, by decide⟩ (fun w5 e5 => ?_)
  have z5 : w_sz w5 = w_sz w3 + 1 := e5.sz
  have hp5 : p ≠ w_sz w3 := by omega
  have hs5 : w_sz w ≠ w_sz w3 := by omega
  have h25 : w_sz w2 ≠ w_sz w3 := by omega
  have p5 : w_kd w5 p = (20, 0) := (e5.old p hp5).1.trans p3
  have r5 : w_rv w5 p = yur (w_rv w3) p 2 (some (w_sz w2)) p := (e5.old p hp5).2.2
  have i5 : w_iv w5 p = w_iv w3 p := (e5.old p hp5).2.1
  refine yb_pr p5 ?_
  have nm : ¬ ym (w_kd w p) := by rw [hk]; unfold ym; simp
  refine yp_P (h _ ?_ ⟨(p, w_sz w, w_sz w2, w_sz w3, fun _ => 0, fun _ => 0), rfl, ⟨by decide, ⟨p5, ?_, ?_, ?_, ?_⟩, ⟨?_, ?_⟩, ?_, ?_, h25, fun j j0 jn => ?_, fun j k j0 jn => ?_⟩, fun q hq => ?_, fun j j0 jn => ?_⟩)
  · exact yG.sr ((((g2.trans (D' := y0) e3.g (fun _ _ h => h.elim)).sr (Or.inr ⟨rfl, nm⟩)).trans (D' := y0) e5.g (fun _ _ h => h.elim))) (Or.inr ⟨rfl, nm⟩)
  · show yur _ p 3 _ p 0 = _
    rw [yur_n (by decide), r5, yur_n (by decide), r3]; exact r2
  · show yur _ p 3 _ p 2 = _
    rw [yur_n (by decide), r5, yur_s]
  · show yur _ p 3 _ p 3 = _
    rw [yur_s]; rfl
  · show w_iv w5 p 1 = _
    rw [i5, i3]; exact i2
  · show w_kd w5 (w_sz w) = _
    rw [(e5.old _ hs5).1]
    show w_kd w3 (w_sz w) = _
    rw [(e3.old _ hs3).1]; exact s2
  · intro i i0 i8
    show w_iv w5 (w_sz w) i = _
    rw [(e5.old _ hs5).2.1]
    show w_iv w3 (w_sz w) i = _
    rw [(e3.old _ hs3).2.1]; exact v2 i i0 i8
  · show w_kd w5 (w_sz w2) = _
    rw [(e5.old _ h25).1]; exact e3.kd
  · exact e5.kd
  · exact absurd jn (by have : rn R00 = 0 := rfl; omega)
  · exact absurd jn (by have : rn R00 = 0 := rfl; omega)
  · have l5 : w_sz w5 = w_sz w3 + 1 := z5
    show _ ∧ q < w_sz w5
    rcases hq with rfl | rfl | rfl | rfl | ⟨j, j0, jn, -⟩
    · exact ⟨Or.inl rfl, by show q < _; omega⟩
    · exact ⟨Or.inr (Nat.le_refl _), by show w_sz w < _; omega⟩
    · exact ⟨Or.inr (by show w_sz w ≤ w_sz w2; omega), by show w_sz w2 < _; omega⟩
    · exact ⟨Or.inr (by show w_sz w ≤ w_sz w3; omega), by show w_sz w3 < _; omega⟩
    · exact absurd jn (by have : rn R00 = 0 := rfl; omega)
  · exact absurd jn (by have : rn R00 = 0 := rfl; omega)
