/-! ===== what a computation of the law's ends with ===== -/
def yp {α : Type} (m : yM α) (Q : α → yW → Prop) (w : yW) : Prop := ∃ a w1, m w = some (a, w1) ∧ Q a w1
theorem yp_eq {α : Type} {m : yM α} {Q : α → yW → Prop} {w w1 : yW} {a : α} (h : m w = some (a, w1)) (hq : Q a w1) : yp m Q w := ⟨a, w1, h, hq⟩
theorem yp_P {α : Type} {Q : α → yW → Prop} {w : yW} {a : α} (h : Q a w) : yp (yP a) Q w := ⟨a, w, rfl, h⟩
theorem yp_B {α β : Type} {m : yM α} {f : α → yM β} {Q : β → yW → Prop} {w : yW} (h : yp m (fun a w1 => yp (f a) Q w1) w) : yp (yB m f) Q w := by
  obtain ⟨a, w1, h1, b, w2, h2, h3⟩ := h
  exact ⟨b, w2, (yB_of h1).trans h2, h3⟩
theorem yp_mono {α : Type} {m : yM α} {Q Q' : α → yW → Prop} {w : yW} (h : yp m Q w) (k : ∀ a w1, Q a w1 → Q' a w1) : yp m Q' w := by
  obtain ⟨a, w1, h1, h2⟩ := h
  exact ⟨a, w1, h1, k a w1 h2⟩
theorem yp_bind {α β : Type} {m : yM α} {f : α → yM β} {R : α → yW → Prop} {Q : β → yW → Prop} {w : yW} (h : yp m R w) (k : ∀ a w1, R a w1 → yp (f a) Q w1) : yp (yB m f) Q w := yp_B (yp_mono h k)
theorem yp_if {α : Type} {c : Prop} {hc : Decidable c} {m1 m2 : yM α} {Q : α → yW → Prop} {w : yW} (h1 : c → yp m1 Q w) (h2 : ¬ c → yp m2 Q w) : yp (@ite _ c hc m1 m2) Q w := by
  by_cases h : c
  · rw [if_pos h]; exact h1 h
  · rw [if_neg h]; exact h2 h
theorem yp_ifT {α : Type} {c : Prop} {hc : Decidable c} {m1 m2 : yM α} {Q : α → yW → Prop} {w : yW} (h : c) (k : yp m1 Q w) : yp (@ite _ c hc m1 m2) Q w := by rw [if_pos h]; exact k
theorem yp_ifF {α : Type} {c : Prop} {hc : Decidable c} {m1 m2 : yM α} {Q : α → yW → Prop} {w : yW} (h : ¬ c) (k : yp m2 Q w) : yp (@ite _ c hc m1 m2) Q w := by rw [if_neg h]; exact k
theorem yp_Lp {S α : Type} {step : S → yM (S ⊕ α)} {Q : α → yW → Prop} {s0 : S} {w0 : yW} (I : S → yW → Prop) (μ : S → yW → Nat) (h0 : I s0 w0) (h : ∀ s w, I s w → yp (step s) (fun r w1 => match r with | Sum.inl s' => I s' w1 ∧ μ s' w1 < μ s w | Sum.inr a => Q a w1) w) : yp (yLp step s0) Q w0 := by
  have key : ∀ (k : Nat) (s : S) (w : yW), μ s w < k → I s w → ∃ n a w1, yL step n s w = some (a, w1) ∧ Q a w1 := by
    intro k
    induction k with
    | zero => intro s w hk; omega
    | succ k ih =>
      intro s w hk hI
      obtain ⟨r, w1, h1, h2⟩ := h s w hI
      cases r with
      | inl s' =>
        obtain ⟨n, a, w2, h3, h4⟩ := ih s' w1 (by have := h2.2; omega) h2.1
        exact ⟨n + 1, a, w2, (yB_of h1).trans h3, h4⟩
      | inr a => exact ⟨1, a, w1, (yB_of h1).trans rfl, h2⟩
  obtain ⟨n, a, w1, h1, h2⟩ := key _ s0 w0 (Nat.lt_succ_self _) h0
  exact ⟨a, w1, yLp_iff.mpr ⟨n, h1⟩, h2⟩
section YE
variable {β : Type} {Q : β → yW → Prop} {w : yW} {p q n t : Nat} {i k x y v : Int} {r : Option Nat}
theorem yb_P {α : Type} {a : α} {f : α → yM β} (h : yp (f a) Q w) : yp (yB (yP a) f) Q w := yp_B (yp_P h)
theorem yb_R {f : Unit → yM β} (hx : iR x) (h : yp (f ()) Q w) : yp (yB (yR x) f) Q w := yp_B (yp_eq (if_pos hx) h)
theorem yb_R2 {f : Unit → yM β} (hx : iR x ∧ iR y) (h : yp (f ()) Q w) : yp (yB (yR2 x y) f) Q w := yp_B (yp_eq (if_pos hx) h)
theorem yb_Rm {f : Int → yM β} (hx : (iR x ∧ iR y) ∧ y ≠ 0 ∧ y ≠ -1) (h : yp (f (x.tmod y)) Q w) : yp (yB (yRm x y) f) Q w := yp_B (yp_eq (if_pos hx) h)
theorem yb_Dv {f : Int → yM β} (hx : (iR x ∧ iR y) ∧ y ≠ 0 ∧ y ≠ -1) (h : yp (f (x.tdiv y)) Q w) : yp (yB (yDv x y) f) Q w := yp_B (yp_eq (if_pos hx) h)
theorem yb_Min {f : Int → yM β} (hx : iR x ∧ iR y) (h : yp (f (if y < x then y else x)) Q w) : yp (yB (yMin x y) f) Q w := yp_B (yp_eq (if_pos hx) h)
theorem yb_Nw {f : Unit → yM β} (hx : 0 ≤ x ∧ x ≤ y) (h : yp (f ()) Q w) : yp (yB (yNw y x) f) Q w := yp_B (yp_eq (if_pos hx) h)
theorem yb_Nn {f : Unit → yM β} (h : yp (f ()) Q w) : yp (yB (yNn (some p)) f) Q w := yp_B (yp_eq (if_neg (fun e => by cases e)) h)
theorem yb_Kd {f : Unit → yM β} (hk : w_kd w p = (t, n)) (h : yp (f ()) Q w) : yp (yB (yKd t (some p)) f) Q w := yp_B (yp_eq (if_pos (by rw [hk])) h)
theorem yb_K {α : Type} {m : yM α} {f : α → yM β} (h : yp m (fun a w1 => (w_sz w ≤ w_sz w1 ∧ w_sl w ≤ w_sl w1) ∧ yp (f a) Q w1) w) : yp (yB (yK m) f) Q w := by
  obtain ⟨a, w1, h1, h2, h3⟩ := h
  refine yp_B (yp_eq (a := a) (w1 := w1) ?_ h3)
  unfold yK
  rw [h1]
  exact if_pos h2
theorem yb_Kr {α : Type} {m : yM α} {f : α → yM β} (hk : (w_kd w p).1 = t ∨ (t = 22 ∧ (w_kd w p).1 = 36)) (h : yp m (fun a w1 => (w_sz w ≤ w_sz w1 ∧ w_sl w ≤ w_sl w1) ∧ yp (f a) Q w1) w) : yp (yB (yKr t (some p) m) f) Q w := by
  obtain ⟨a, w1, h1, h2, h3⟩ := h
  refine yp_B (yp_eq (a := a) (w1 := w1) ?_ h3)
  unfold yKr
  dsimp only
  rw [if_pos (show yck t (w_kd w p).1 from hk)]
  unfold yK
  rw [h1]
  exact if_pos h2
theorem yb_C {α : Type} {m : iM α} {xs : List Int} {f : α → yM β} (hx : ∀ z ∈ xs, iR z) (h : ip m (fun a κ => yp (f a) Q (κ, w.2)) w.1) : yp (yB (yC xs m) f) Q w := by
  obtain ⟨a, κ, h1, h2⟩ := h
  refine yp_B (yp_eq (a := a) (w1 := (κ, w.2)) ?_ h2)
  unfold yC
  rw [if_pos hx, h1]
theorem yb_gt {f : Int → yM β} (hk : w_kd w p = (t, n)) (he : w_iv w p k = v) (h : yp (f v) Q w) : yp (yB (yGt t (some p) k) f) Q w := by
  subst he
  exact yp_B (yp_eq (if_pos (Or.inl (by rw [hk]))) h)
theorem yb_gr {f : Option Nat → yM β} (hk : w_kd w p = (t, n)) (he : w_rv w p k = r) (h : yp (f r) Q w) : yp (yB (yGr t (some p) k) f) Q w := by
  subst he
  exact yp_B (yp_eq (if_pos (Or.inl (by rw [hk]))) h)
theorem yb_gtS {f : Int → yM β} (hk : (w_kd w p).1 = 22 ∨ (w_kd w p).1 = 36) (he : w_iv w p k = v) (h : yp (f v) Q w) : yp (yB (yGt 22 (some p) k) f) Q w := by
  subst he
  exact yp_B (yp_eq (if_pos (hk.imp id (fun h => ⟨rfl, h⟩))) h)
theorem yb_grS {f : Option Nat → yM β} (hk : (w_kd w p).1 = 22 ∨ (w_kd w p).1 = 36) (he : w_rv w p k = r) (h : yp (f r) Q w) : yp (yB (yGr 22 (some p) k) f) Q w := by
  subst he
  exact yp_B (yp_eq (if_pos (hk.imp id (fun h => ⟨rfl, h⟩))) h)
theorem yb_pt {f : Unit → yM β} (hk : w_kd w p = (t, n)) (h : yp (f ()) Q (y_iv w (iu (w_iv w) p k x))) : yp (yB (yPt t (some p) k x) f) Q w := yp_B (yp_eq (if_pos (by rw [hk])) h)
theorem yb_pz {f : Unit → yM β} (hk : w_kd w p = (t, n)) (hx : x = 0 ∨ x = 1) (h : yp (f ()) Q (y_iv w (iu (w_iv w) p k x))) : yp (yB (yPz t (some p) k x) f) Q w := yp_B (yp_eq (if_pos ⟨by rw [hk], hx⟩) h)
theorem yb_pr {f : Unit → yM β} (hk : w_kd w p = (t, n)) (h : yp (f ()) Q (y_rv w (yur (w_rv w) p k r))) : yp (yB (yPr t (some p) k r) f) Q w := yp_B (yp_eq (if_pos (by rw [hk])) h)
theorem yb_ld {f : Int → yM β} (hk : w_kd w p = (t, n)) (hi : 0 ≤ i ∧ i < (n : Int)) (hn : n ≤ 100000) (he : w_iv w p i = v) (h : yp (f v) Q w) : yp (yB (yLd t (some p) i) f) Q w := by
  subst he
  exact yp_B (yp_eq (if_pos ⟨Or.inl (by rw [hk]), hi.1, by rw [hk]; exact hi.2, by rw [hk]; exact hn⟩) h)
theorem yb_ldR {f : Int → yM β} (hk : w_kd w p = (t + 30, n)) (hi : 0 ≤ i ∧ i < (n : Int)) (hn : n ≤ 100000) (he : w_iv w p i = v) (h : yp (f v) Q w) : yp (yB (yLd t (some p) i) f) Q w := by
  subst he
  exact yp_B (yp_eq (if_pos ⟨Or.inr (by rw [hk]), hi.1, by rw [hk]; exact hi.2, by rw [hk]; exact hn⟩) h)
theorem yb_st {f : Unit → yM β} (hk : w_kd w p = (1, n)) (hi : 0 ≤ i ∧ i < (n : Int)) (hn : n ≤ 100000) (h : yp (f ()) Q (y_iv w (iu (w_iv w) p i x))) : yp (yB (ySt (some p) i x) f) Q w :=
  yp_B (yp_eq (if_pos ⟨by rw [hk], hi.1, by rw [hk]; exact hi.2, by rw [hk]; exact hn⟩) h)
theorem yb_sb {f : Unit → yM β} (hk : w_kd w p = (3, n)) (hi : 0 ≤ i ∧ i < (n : Int)) (hn : n ≤ 100000) (h : yp (f ()) Q (y_iv w (iu (w_iv w) p i (i8 x)))) : yp (yB (ySb (some p) i x) f) Q w :=
  yp_B (yp_eq (if_pos ⟨by rw [hk], hi.1, by rw [hk]; exact hi.2, by rw [hk]; exact hn⟩) h)
theorem yb_lr {f : Option Nat → yM β} (hk : w_kd w p = (t, n)) (hi : 0 ≤ i ∧ i < (n : Int)) (hn : n ≤ 100000) (he : w_rv w p i = r) (h : yp (f r) Q w) : yp (yB (yLr t (some p) i) f) Q w := by
  subst he
  exact yp_B (yp_eq (if_pos ⟨by rw [hk], hi.1, by rw [hk]; exact hi.2, by rw [hk]; exact hn⟩) h)
theorem yb_sr {f : Unit → yM β} {t' n' : Nat} (hk : w_kd w p = (t, n)) (hq : w_kd w q = (t', n')) (hi : 0 ≤ i ∧ i < (n : Int)) (hn : n ≤ 100000) (h : yp (f ()) Q (y_rv w (yur (w_rv w) p i (some q)))) : yp (yB (ySr t t' (some p) i (some q)) f) Q w :=
  yp_B (yp_eq (if_pos ⟨⟨by rw [hk], by rw [hq]⟩, hi.1, by rw [hk]; exact hi.2, by rw [hk]; exact hn⟩) h)
theorem yb_ln {f : Int → yM β} (hk : w_kd w p = (t, n)) (ht : t = 1 ∨ t = 3 ∨ t = 4 ∨ t = 7 ∨ t = 31 ∨ t = 33) (h : yp (f (n : Int)) Q w) : yp (yB (yLn (some p)) f) Q w := by
  refine yp_B (yp_eq (a := (n : Int)) (w1 := w) ?_ h)
  unfold yLn
  dsimp only
  rw [hk]
  exact if_pos ht
/-- a new cell stands at the end -/
def yNew (w w1 : yW) (kd : Nat × Nat) (sl : Nat) (row : Int → Int) : Prop :=
  w1.1 = w.1 ∧ w_sz w1 = w_sz w + 1 ∧ w_sl w1 = w_sl w + sl ∧ w_kd w1 (w_sz w) = kd ∧ w_iv w1 (w_sz w) = row ∧ w_rv w1 (w_sz w) = (fun _ => none) ∧ ∀ q, q ≠ w_sz w → w_kd w1 q = w_kd w q ∧ w_iv w1 q = w_iv w q ∧ w_rv w1 q = w_rv w q
section
variable {w w1 : yW} {kd0 : Nat × Nat} {sl0 : Nat} {row : Int → Int}
theorem yNew.κ (h : yNew w w1 kd0 sl0 row) : w1.1 = w.1 := h.1
theorem yNew.sz (h : yNew w w1 kd0 sl0 row) : w_sz w1 = w_sz w + 1 := h.2.1
theorem yNew.sl (h : yNew w w1 kd0 sl0 row) : w_sl w1 = w_sl w + sl0 := h.2.2.1
theorem yNew.kd (h : yNew w w1 kd0 sl0 row) : w_kd w1 (w_sz w) = kd0 := h.2.2.2.1
theorem yNew.iv (h : yNew w w1 kd0 sl0 row) : w_iv w1 (w_sz w) = row := h.2.2.2.2.1
theorem yNew.rv (h : yNew w w1 kd0 sl0 row) : w_rv w1 (w_sz w) = fun _ => none := h.2.2.2.2.2.1
theorem yNew.old (h : yNew w w1 kd0 sl0 row) : ∀ q, q ≠ w_sz w → w_kd w1 q = w_kd w q ∧ w_iv w1 q = w_iv w q ∧ w_rv w1 q = w_rv w q := h.2.2.2.2.2.2
end
theorem yNew_of {kd : Nat × Nat} {sl : Nat} {row : Int → Int} : yNew w (ynew w kd sl row) kd sl row :=
  ⟨rfl, rfl, rfl, if_pos rfl, funext fun _ => if_pos rfl, funext fun _ => if_pos rfl, fun q hq => ⟨if_neg hq, funext fun _ => if_neg hq, funext fun _ => if_neg hq⟩⟩
theorem yb_no {f : Option Nat → yM β} (h : ∀ w1, yNew w w1 (t, 0) (qm_nf (t - 10)) (fun _ => 0) → yp (f (some (w_sz w))) Q w1) : yp (yB (yNo t) f) Q w := yp_B (yp_eq rfl (h _ yNew_of))
theorem yb_na {f : Option Nat → yM β} (hn : 0 ≤ i ∧ i ≤ 100000) (h : ∀ w1, yNew w w1 (t, i.toNat) i.toNat (fun _ => 0) → yp (f (some (w_sz w))) Q w1) : yp (yB (yNa t i) f) Q w := yp_B (yp_eq (if_pos hn) (h _ yNew_of))
theorem yb_cl {f : Option Nat → yM β} (hk : w_kd w p = (1, n)) (h : ∀ w1, yNew w w1 (1, n) n (w_iv w p) → yp (f (some (w_sz w))) Q w1) : yp (yB (yCl (some p)) f) Q w := by
  refine yp_B (yp_eq (a := some (w_sz w)) (w1 := ynew w (w_kd w p) (w_kd w p).2 (w_iv w p)) (if_pos (by rw [hk])) (h _ ?_))
  rw [hk]
  exact yNew_of
theorem yb_cp {f : Unit → yM β} {n' : Nat} {sp dp m : Int} (hk : w_kd w p = (t, n) ∨ w_kd w p = (t + 30, n)) (hq : w_kd w q = (t, n')) (hpq : p ≠ q) (h0 : 0 ≤ sp ∧ 0 ≤ dp ∧ 0 ≤ m) (h1 : sp + m ≤ (n : Int) ∧ dp + m ≤ (n' : Int)) (hn : n ≤ 100000 ∧ n' ≤ 100000) (hb : t = 3 → ∀ i, 0 ≤ i → i < m → -128 ≤ w_iv w p (sp + i) ∧ w_iv w p (sp + i) ≤ 127) (h : yp (f ()) Q (y_iv w (ycpy (w_iv w) p q sp dp m))) : yp (yB (yCp t (some p) sp (some q) dp m) f) Q w := by
  have e : (w_kd w p).2 = n := by rcases hk with e | e <;> rw [e]
  refine yp_B (yp_eq (@if_pos _ (Classical.propDecidable _) ⟨⟨hk.imp (fun e => by rw [e]) (fun e => by rw [e]), by rw [hq], hpq⟩, h0, by rw [e, hq]; exact h1, by rw [e, hq]; exact hn, hb⟩ _ _ _) h)
end YE
/-! what lies where, behind a write -/
section
variable {w : yW} {f : Nat → Int → Int} {g : Nat → Int → Option Nat}
theorem yv_1 : w_iv (y_iv w f) = f := rfl
theorem yv_2 : w_rv (y_iv w f) = w_rv w := rfl
theorem yv_3 : w_kd (y_iv w f) = w_kd w := rfl
theorem yv_4 : w_sz (y_iv w f) = w_sz w := rfl
theorem yv_5 : w_sl (y_iv w f) = w_sl w := rfl
theorem yv_6 : w_iv (y_rv w g) = w_iv w := rfl
theorem yv_7 : w_rv (y_rv w g) = g := rfl
theorem yv_8 : w_kd (y_rv w g) = w_kd w := rfl
theorem yv_9 : w_sz (y_rv w g) = w_sz w := rfl
theorem yv_10 : w_sl (y_rv w g) = w_sl w := rfl
theorem yv_11 : (y_iv w f).1 = w.1 := rfl
theorem yv_12 : (y_rv w g).1 = w.1 := rfl
end
/-! what is kept -/
def ym (k : Nat × Nat) : Prop := k = (1, 0) ∨ k = (1, 2)
def yG (D : Nat → Prop) (dc ds : Nat) (w w1 : yW) : Prop :=
  w1.1 = w.1 ∧ (w_sz w ≤ w_sz w1 ∧ w_sz w1 ≤ w_sz w + dc) ∧ (w_sl w ≤ w_sl w1 ∧ w_sl w1 ≤ w_sl w + ds) ∧ (∀ q, q < w_sz w → w_kd w1 q = w_kd w q) ∧ (∀ q, q < w_sz w → (¬ D q ∨ ym (w_kd w q)) → w_iv w1 q = w_iv w q ∧ w_rv w1 q = w_rv w q)
abbrev y0 : Nat → Prop := fun _ => False
theorem yG.refl {D : Nat → Prop} {w : yW} : yG D 0 0 w w := ⟨rfl, ⟨Nat.le_refl _, Nat.le_refl _⟩, ⟨Nat.le_refl _, Nat.le_refl _⟩, fun _ _ => rfl, fun _ _ _ => ⟨rfl, rfl⟩⟩
theorem yG.le {D D' : Nat → Prop} {a b a' b' : Nat} {w w1 : yW} (h : yG D a b w w1) (hD : ∀ q, q < w_sz w → D q → D' q) (ha : a ≤ a') (hb : b ≤ b') : yG D' a' b' w w1 :=
  ⟨h.1, ⟨h.2.1.1, by have := h.2.1.2; omega⟩, ⟨h.2.2.1.1, by have := h.2.2.1.2; omega⟩, h.2.2.2.1, fun q hq hd => h.2.2.2.2 q hq (hd.imp (fun z d => z (hD q hq d)) id)⟩
theorem yG.trans {D D' : Nat → Prop} {a b a' b' : Nat} {w w1 w2 : yW} (h : yG D a b w w1) (h' : yG D' a' b' w1 w2) (hD : ∀ q, q < w_sz w → D' q → D q) : yG D (a + a') (b + b') w w2 := by
  have l1 := h.2.1
  have l2 := h'.2.1
  have l3 := h.2.2.1
  have l4 := h'.2.2.1
  refine ⟨h'.1.trans h.1, ⟨by omega, by omega⟩, ⟨by omega, by omega⟩, fun q hq => ?_, fun q hq hd => ?_⟩
  · exact (h'.2.2.2.1 q (by omega)).trans (h.2.2.2.1 q hq)
  · have e1 := h.2.2.2.2 q hq hd
    have e2 := h'.2.2.2.2 q (by omega) (hd.imp (fun z d => z (hD q hq d)) (fun z => by rw [h.2.2.2.1 q hq]; exact z))
    exact ⟨e2.1.trans e1.1, e2.2.trans e1.2⟩
theorem yNew.g {w w1 : yW} {kd : Nat × Nat} {sl : Nat} {row : Int → Int} (h : yNew w w1 kd sl row) : yG y0 1 sl w w1 :=
  ⟨h.κ, ⟨by rw [h.sz]; omega, by rw [h.sz]; omega⟩, ⟨by rw [h.sl]; omega, by rw [h.sl]; omega⟩, fun q hq => (h.old q (by omega)).1, fun q hq _ => (h.old q (by omega)).2⟩
theorem yG.iv {D : Nat → Prop} {a b : Nat} {w w1 : yW} (h : yG D a b w w1) {iv : Nat → Int → Int} (hq : ∀ q, q < w_sz w → (¬ D q ∨ ym (w_kd w q)) → iv q = w_iv w1 q) : yG D a b w (y_iv w1 iv) :=
  ⟨h.1, h.2.1, h.2.2.1, h.2.2.2.1, fun q h1 h2 => ⟨(hq q h1 h2).trans (h.2.2.2.2 q h1 h2).1, (h.2.2.2.2 q h1 h2).2⟩⟩
theorem yG.rv {D : Nat → Prop} {a b : Nat} {w w1 : yW} (h : yG D a b w w1) {rv : Nat → Int → Option Nat} (hq : ∀ q, q < w_sz w → (¬ D q ∨ ym (w_kd w q)) → rv q = w_rv w1 q) : yG D a b w (y_rv w1 rv) :=
  ⟨h.1, h.2.1, h.2.2.1, h.2.2.2.1, fun q h1 h2 => ⟨(h.2.2.2.2 q h1 h2).1, (hq q h1 h2).trans (h.2.2.2.2 q h1 h2).2⟩⟩
theorem yu_at {τ : iMem} {p q : Nat} {i x : Int} (h : q ≠ p) : iu τ p i x q = τ q := funext fun _ => if_neg (fun e => h e.1)
theorem yu_s {τ : iMem} {p : Nat} {i x : Int} : iu τ p i x p i = x := if_pos ⟨rfl, rfl⟩
theorem yu_n {τ : iMem} {p : Nat} {i j x : Int} (h : j ≠ i) : iu τ p i x p j = τ p j := if_neg (fun e => h e.2)
theorem yur_at {τ : Nat → Int → Option Nat} {p q : Nat} {i : Int} {x : Option Nat} (h : q ≠ p) : yur τ p i x q = τ q := funext fun _ => if_neg (fun e => h e.1)
theorem yur_s {τ : Nat → Int → Option Nat} {p : Nat} {i : Int} {x : Option Nat} : yur τ p i x p i = x := if_pos ⟨rfl, rfl⟩
theorem yur_n {τ : Nat → Int → Option Nat} {p : Nat} {i j : Int} {x : Option Nat} (h : j ≠ i) : yur τ p i x p j = τ p j := if_neg (fun e => h e.2)
/-- a cell that was made since, or may change and is no MARK's -/
theorem yG.st {D : Nat → Prop} {a b : Nat} {w w1 : yW} (h : yG D a b w w1) {p : Nat} {i x : Int} (hp : w_sz w ≤ p ∨ (D p ∧ ¬ ym (w_kd w p))) : yG D a b w (y_iv w1 (iu (w_iv w1) p i x)) :=
  h.iv (fun q h1 h2 => yu_at (fun e => by subst e; rcases hp with z | ⟨z1, z2⟩; · omega
                                          · exact h2.elim (fun u => u z1) z2))
theorem yG.sr {D : Nat → Prop} {a b : Nat} {w w1 : yW} (h : yG D a b w w1) {p : Nat} {i : Int} {x : Option Nat} (hp : w_sz w ≤ p ∨ (D p ∧ ¬ ym (w_kd w p))) : yG D a b w (y_rv w1 (yur (w_rv w1) p i x)) :=
  h.rv (fun q h1 h2 => yur_at (fun e => by subst e; rcases hp with z | ⟨z1, z2⟩; · omega
                                           · exact h2.elim (fun u => u z1) z2))
theorem iR_small {x : Int} (h : -2000000000 ≤ x ∧ x ≤ 2000000000) : iR x := by unfold iR; omega
