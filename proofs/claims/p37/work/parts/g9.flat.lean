/-! ===== a RUN laid flat ===== -/
def fv (R : aRun) (k : Nat) (p : Int) : Int := if k = 1 then ow R p else if k = 2 then nu R p else if k = 3 then pH R p else if k = 4 then pG R p else if k = 5 then pN R p else pS R p
def FB (w0 : yW) (A j : Nat) (w : yW) : Prop :=
  yG (fun q => q = A) j (100 * j) w0 w ∧ w_sz w = A + 1 + j ∧ w_sz w0 = A + 1 ∧ w_kd w A = (19, 0) ∧ (∀ i, w_iv w A i = 0) ∧ ∀ k : Nat, 1 ≤ k → k ≤ j → w_rv w A (k : Int) = some (A + k) ∧ w_kd w (A + k) = (1, if k ≤ 6 then 100 else 20) ∧ ∀ i, w_iv w (A + k) i = 0
theorem fb_row {β : Type} {Q : β → yW → Prop} {w0 w : yW} {A j : Nat} {n : Int} {f : Unit → yM β} (h : FB w0 A j w) (hk : w_kd w0 A = (19, 0)) (hn : n = if j + 1 ≤ 6 then 100 else 20) (k : ∀ w1, FB w0 A (j + 1) w1 → yp (f ()) Q w1) : yp (yB (yNa 1 n) fun x => yB (yPr 19 (some A) ((j + 1 : Nat) : Int) x) f) Q w := by
  obtain ⟨h1, h2, h3, h4, h5, h6⟩ := h
  have hn2 : n.toNat = if j + 1 ≤ 6 then 100 else 20 := by rw [hn]; split <;> rfl
  have hn3 : 0 ≤ n ∧ n ≤ 100 := by rw [hn]; split <;> omega
  refine yb_na ⟨hn3.1, by omega⟩ (fun w1 e1 => ?_)
  have z1 := e1.sz
  have nA : A ≠ w_sz w := by omega
  have kA := (e1.old A nA).1.trans h4
  refine yb_pr kA (k _ ⟨?_, by show w_sz w1 = _; omega, h3, kA, fun i => ?_, fun l l1 lj => ?_⟩)
  · have g1 : yG (fun q => q = A) (j + 1) (100 * j + n.toNat) w0 w1 := h1.trans (D' := y0) e1.g (fun _ _ z => z.elim)
    exact (g1.sr (Or.inr ⟨rfl, by rw [hk]; unfold ym; simp⟩)).le (fun _ _ z => z) (Nat.le_refl _) (by omega)
  · show w_iv w1 A i = 0
    rw [(e1.old A nA).2.1]; exact h5 i
  · by_cases e : l = j + 1
    · subst e
      have ea : A + (j + 1) = w_sz w := by omega
      refine ⟨?_, ?_, fun i => ?_⟩
      · show yur _ _ _ _ A _ = _
        rw [yur_s, ea]
      · show w_kd w1 (A + (j + 1)) = _
        rw [ea, e1.kd, hn2]
      · show w_iv w1 (A + (j + 1)) i = 0
        rw [ea, e1.iv]
    · obtain ⟨q1, q2, q3⟩ := h6 l l1 (by omega)
      have o := e1.old (A + l) (by omega)
      refine ⟨?_, o.1.trans q2, fun i => ?_⟩
      · show yur _ _ _ _ A _ = _
        rw [yur_n (by omega), (e1.old A nA).2.2]; exact q1
      · show w_iv w1 (A + l) i = 0
        rw [o.2.1]; exact q3 i
def FQ (w0 : yW) (A r : Nat) (R : aRun) (P Sn : Int) (m : Nat) (w : yW) : Prop :=
  (yG (fun q => q = A) 8 800 w0 w ∧ w_sz w = A + 9 ∧ w_sz w0 = A + 1 ∧ w_kd w0 A = (19, 0)) ∧ (w_kd w A = (19, 0) ∧ w_rv w A 0 = some r) ∧ (∀ k : Nat, 1 ≤ k → k ≤ 8 → w_rv w A (k : Int) = some (A + k) ∧ w_kd w (A + k) = (1, if k ≤ 6 then 100 else 20)) ∧ (w_iv w A 9 = P ∧ w_iv w A 10 = Sn) ∧
  (∀ k : Nat, 1 ≤ k → k ≤ 6 → ∀ p, 0 ≤ p → p < P → w_iv w (A + k) p = fv R k p) ∧ (∀ k : Nat, 1 ≤ k → k ≤ m → k ≤ 6 → w_iv w (A + k) P = fv R k P) ∧ (∀ p, P < p ∨ (p = P ∧ m < 5) → w_iv w (A + 5) p = 0) ∧ (w_iv w (A + 7) 0 = 0 ∧ ∀ s, 1 ≤ s → s < Sn → w_iv w (A + 7) s = bg R s) ∧ (w_iv w (A + 8) 0 = 0 ∧ ∀ s, 1 ≤ s → s < Sn → w_iv w (A + 8) s = sh R s)
section
variable {w0 w : yW} {A r : Nat} {R : aRun} {P Sn : Int} {m : Nat}
theorem fq_g (h : FQ w0 A r R P Sn m w) {q : Nat} {i x : Int} (hq : w_sz w0 ≤ q ∨ q = A) : yG (fun q => q = A) 8 800 w0 (yst w q i x) ∧ w_sz (yst w q i x) = A + 9 ∧ w_sz w0 = A + 1 ∧ w_kd w0 A = (19, 0) :=
  ⟨h.1.1.st (hq.imp id (fun e => ⟨e, by rw [e, h.1.2.2.2]; unfold ym; simp⟩)), h.1.2.1, h.1.2.2⟩
theorem fq_st (h : FQ w0 A r R P Sn m w) (hm : m < 6) : FQ w0 A r R P Sn (m + 1) (yst w (A + (m + 1)) P (fv R (m + 1) P)) := by
  have hz := h.1.2.2.1
  have hg := fq_g h (q := A + (m + 1)) (i := P) (x := fv R (m + 1) P) (Or.inl (by omega))
  obtain ⟨h1, ⟨h2, h3⟩, h4, ⟨h5, h6⟩, h7, h8, h9, ⟨h10, h11⟩, h12, h13⟩ := h
  have nA : A ≠ A + (m + 1) := by omega
  refine ⟨hg, ⟨h2, h3⟩, h4, ⟨?_, ?_⟩, fun k k1 k6 p p0 pP => ?_, fun k k1 km k6 => ?_, fun p hp => ?_, ⟨?_, fun s s1 s2 => ?_⟩, ?_, fun s s1 s2 => ?_⟩
  · show iu _ _ _ _ A 9 = _
    rw [yu_at nA]; exact h5
  · show iu _ _ _ _ A 10 = _
    rw [yu_at nA]; exact h6
  · show iu _ _ _ _ (A + k) p = _
    by_cases e : k = m + 1
    · rw [e, yu_n (by omega)]; exact h7 (m + 1) (by omega) (by omega) p p0 pP
    · rw [yu_at (by omega)]; exact h7 k k1 k6 p p0 pP
  · show iu _ _ _ _ (A + k) P = _
    by_cases e : k = m + 1
    · rw [e, yu_s]
    · rw [yu_at (by omega)]; exact h8 k k1 (by omega) k6
  · show iu _ _ _ _ (A + 5) p = 0
    by_cases e : 5 = m + 1
    · have : P < p := by omega
      rw [← e, yu_n (by omega)]; exact h9 p (Or.inl this)
    · rw [yu_at (by omega)]; exact h9 p (by omega)
  · show iu _ _ _ _ (A + 7) 0 = 0
    rw [yu_at (by omega)]; exact h10
  · show iu _ _ _ _ (A + 7) s = _
    rw [yu_at (by omega)]; exact h11 s s1 s2
  · show iu _ _ _ _ (A + 8) 0 = 0
    rw [yu_at (by omega)]; exact h12
  · show iu _ _ _ _ (A + 8) s = _
    rw [yu_at (by omega)]; exact h13 s s1 s2
theorem fq_n0 (h : FQ w0 A r R P Sn 4 w) (hp : pN R P = 0) : FQ w0 A r R P Sn 5 w := by
  obtain ⟨h1, h2, h4, h5, h7, h8, h9, h10, h12⟩ := h
  refine ⟨h1, h2, h4, h5, h7, fun k k1 km k6 => ?_, fun p hp => h9 p (by omega), h10, h12⟩
  by_cases e : k = 5
  · subst e
    rw [h9 P (Or.inr ⟨rfl, by decide⟩)]
    show 0 = pN R P
    exact hp.symm
  · exact h8 k k1 (by omega) k6
theorem fq_next (h : FQ w0 A r R P Sn 6 w) : FQ w0 A r R (P + 1) Sn 0 (yst w A 9 (P + 1)) := by
  have hz := h.1.2.2.1
  have hg := fq_g h (q := A) (i := 9) (x := P + 1) (Or.inr rfl)
  obtain ⟨h1, ⟨h2, h3⟩, h4, ⟨h5, h6⟩, h7, h8, h9, ⟨h10, h11⟩, h12, h13⟩ := h
  refine ⟨hg, ⟨h2, h3⟩, h4, ⟨?_, ?_⟩, fun k k1 k6 p p0 pP => ?_, fun k k1 km k6 => by omega, fun p hp => ?_, ⟨?_, fun s s1 s2 => ?_⟩, ?_, fun s s1 s2 => ?_⟩
  · show iu _ _ _ _ A 9 = _
    rw [yu_s]
  · show iu _ _ _ _ A 10 = _
    rw [yu_n (by decide)]; exact h6
  · show iu _ _ _ _ (A + k) p = _
    rw [yu_at (by omega)]
    by_cases e : p = P
    · rw [e]; exact h8 k k1 (by omega) k6
    · exact h7 k k1 k6 p p0 (by omega)
  · show iu _ _ _ _ (A + 5) p = 0
    rw [yu_at (by omega)]; exact h9 p (Or.inl (by omega))
  · show iu _ _ _ _ (A + 7) 0 = 0
    rw [yu_at (by omega)]; exact h10
  · show iu _ _ _ _ (A + 7) s = _
    rw [yu_at (by omega)]; exact h11 s s1 s2
  · show iu _ _ _ _ (A + 8) 0 = 0
    rw [yu_at (by omega)]; exact h12
  · show iu _ _ _ _ (A + 8) s = _
    rw [yu_at (by omega)]; exact h13 s s1 s2
theorem fq_sec (h : FQ w0 A r R P Sn 0 w) (hs : 1 ≤ Sn) (hb : bg R Sn = P) : FQ w0 A r R P (Sn + 1) 0 (yst (yst (yst w (A + 8) Sn (sh R Sn)) (A + 7) Sn P) A 10 (Sn + 1)) := by
  have hz := h.1.2.2.1
  have g1 := h.1.1.st (p := A + 8) (i := Sn) (x := sh R Sn) (Or.inl (by omega))
  have g2 := g1.st (p := A + 7) (i := Sn) (x := P) (Or.inl (by omega))
  have g3 := g2.st (p := A) (i := 10) (x := Sn + 1) (Or.inr ⟨rfl, by rw [h.1.2.2.2]; unfold ym; simp⟩)
  obtain ⟨h1, ⟨h2, h3⟩, h4, ⟨h5, h6⟩, h7, h8, h9, ⟨h10, h11⟩, h12, h13⟩ := h
  have off : ∀ q i, q ≠ A → q ≠ A + 7 → q ≠ A + 8 → w_iv (yst (yst (yst w (A + 8) Sn (sh R Sn)) (A + 7) Sn P) A 10 (Sn + 1)) q i = w_iv w q i := fun q i q1 q2 q3 => by
    simp only [yv_1, yu_at q1, yu_at q2, yu_at q3]
  have n78 : A + 7 ≠ A + 8 := by omega
  have n7 : A + 7 ≠ A := by omega
  have n8 : A + 8 ≠ A := by omega
  refine ⟨⟨g3, h1.2⟩, ⟨h2, h3⟩, h4, ⟨?_, ?_⟩, fun k k1 k6 p p0 pP => ?_, fun k k1 km k6 => by omega, fun p hp => ?_, ⟨?_, fun s s1 s2 => ?_⟩, ?_, fun s s1 s2 => ?_⟩
  · simp only [yv_1, yu_n (show (9 : Int) ≠ 10 by decide), yu_at (Ne.symm n7), yu_at (Ne.symm n8)]; exact h5
  · simp only [yv_1, yu_s]
  · rw [off _ _ (by omega) (by omega) (by omega)]; exact h7 k k1 k6 p p0 pP
  · rw [off _ _ (by omega) (by omega) (by omega)]; exact h9 p hp
  · simp only [yv_1, yu_at n7, yu_n (show (0 : Int) ≠ Sn by omega), yu_at n78]; exact h10
  · simp only [yv_1, yu_at n7]
    by_cases e : s = Sn
    · rw [e, yu_s, hb]
    · rw [yu_n e, yu_at n78]; exact h11 s s1 (by omega)
  · simp only [yv_1, yu_at n8, yu_at (Ne.symm n78), yu_n (show (0 : Int) ≠ Sn by omega)]; exact h12
  · simp only [yv_1, yu_at n8, yu_at (Ne.symm n78)]
    by_cases e : s = Sn
    · rw [e, yu_s]
    · rw [yu_n e]; exact h13 s s1 (by omega)
end
