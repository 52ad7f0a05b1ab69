/-! ===== a RUN told ===== -/
def SM (R : aRun) : Prop := (0 ≤ rn R ∧ rn R ≤ 6) ∧ (∀ k, 0 ≤ k → k < 8 → 0 ≤ rs R k ∧ rs R k ≤ 99) ∧ ∀ b, 0 ≤ b → b < rn R → (0 ≤ rc R b 0 ∧ rc R b 0 ≤ 4) ∧ ∀ i, 0 ≤ i → i ≤ 12 → 0 ≤ rc R b i ∧ rc R b i ≤ 99
def yTs (R : aRun) : Nat → List Int
  | 0 => []
  | k + 1 => yTs R k ++ (if k = 0 then yWd 15 else yWd 14) ++ yWd (k + 1) ++ [32] ++ dg (rs R k)
def yTb (R : aRun) (b : Int) : List Int :=
  [59] ++ (yWd (9 + (rc R b 0).toNat) ++ ((if rc R b 0 = 3 then [32] ++ dg (rc R b 3) else []) ++ ((if rc R b 0 = 0 ∨ rc R b 0 = 3 then [32] ++ dg (rc R b 1) else []) ++ (([32] ++ dg (rc R b 2)) ++ ((if rc R b 4 = 1 then yWd 16 else []) ++ ((if rc R b 5 = 1 then yWd 17 else []) ++ ((if 0 < rc R b 6 then yWd 18 ++ dg (rc R b 6) else []) ++ (if rc R b 7 = 1 then yWd 19 ++ (dg (rc R b 8) ++ ([32] ++ dg (rc R b 12))) else []))))))))
def yTt (R : aRun) : Nat → List Int
  | 0 => yTs R 8
  | b + 1 => yTt R b ++ yTb R (b : Int)
theorem yWd_len : ∀ i, i < 20 → (yWd i).length ≤ 7 := by decide +kernel
theorem dg_len2 (n : Int) : (dg n).length ≤ 2 := by rw [dg_len]; split <;> omega
theorem yTs_len {R : aRun} : ∀ k, k ≤ 8 → (yTs R k).length ≤ 11 * k
  | 0, _ => Nat.le_refl _
  | k + 1, h => by
    have ih := yTs_len (R := R) k (by omega)
    have h1 : (if k = 0 then yWd 15 else yWd 14).length ≤ 1 := by split <;> decide
    have h2 := yWd_len (k + 1) (by omega)
    have h3 := dg_len2 (rs R k)
    unfold yTs
    simp only [List.length_append, List.length_cons, List.length_nil]
    omega
theorem yTb_len {R : aRun} {b : Int} (h : 0 ≤ rc R b 0 ∧ rc R b 0 ≤ 4) : (yTb R b).length ≤ 46 := by
  have h1 : ∀ i, i < 5 → (yWd (9 + i)).length ≤ 5 := by decide +kernel
  have h2 := h1 (rc R b 0).toNat (by omega)
  have d1 := dg_len2 (rc R b 1)
  have d2 := dg_len2 (rc R b 2)
  have d3 := dg_len2 (rc R b 3)
  have d6 := dg_len2 (rc R b 6)
  have d8 := dg_len2 (rc R b 8)
  have d12 := dg_len2 (rc R b 12)
  have a1 : (if rc R b 0 = 3 then [32] ++ dg (rc R b 3) else []).length ≤ 3 := by split <;> simp <;> omega
  have a2 : (if rc R b 0 = 0 ∨ rc R b 0 = 3 then [32] ++ dg (rc R b 1) else []).length ≤ 3 := by split <;> simp <;> omega
  have a3 : (if rc R b 4 = 1 then yWd 16 else []).length ≤ 5 := by split <;> decide
  have a4 : (if rc R b 5 = 1 then yWd 17 else []).length ≤ 6 := by split <;> decide
  have w18 : (yWd 18).length = 7 := rfl
  have w19 : (yWd 19).length = 6 := rfl
  have a5 : (if 0 < rc R b 6 then yWd 18 ++ dg (rc R b 6) else []).length ≤ 9 := by split <;> simp only [List.length_append, List.length_nil] <;> omega
  have a6 : (if rc R b 7 = 1 then yWd 19 ++ (dg (rc R b 8) ++ ([32] ++ dg (rc R b 12))) else []).length ≤ 11 := by split <;> simp only [List.length_append, List.length_nil, List.length_cons] <;> omega
  unfold yTb
  simp only [List.length_append, List.length_cons, List.length_nil] at a1 a2 a3 a4 a5 a6 ⊢
  omega
theorem yTt_len {R : aRun} (h : SM R) : ∀ b : Nat, (b : Int) ≤ rn R → (yTt R b).length ≤ 88 + 46 * b
  | 0, _ => by have := yTs_len (R := R) 8 (by decide); exact this
  | b + 1, hb => by
    have ih := yTt_len h b (by omega)
    have := yTb_len (h.2.2 b (by omega) (by omega)).1
    unfold yTt
    rw [List.length_append]
    omega
def TI (Y : yY) (w0 : yW) (p : Nat) (R : aRun) (S : Nat → Prop) (x2 x4 b v : Nat) (l : List Int) (w : yW) : Prop :=
  yG y0 4 417 w0 w ∧ yS9 Y w ∧ Y.1 ≤ w_sz w0 ∧ LR w p R (fun q => S q ∧ q < w_sz w0) ∧ (w_kd w x2 = (7, 8) ∧ ∀ i : Nat, i < 8 → w_rv w x2 i = some (y_ad Y (i + 1))) ∧ (w_kd w x4 = (7, 5) ∧ ∀ i : Nat, i < 5 → w_rv w x4 i = some (y_ad Y (9 + i))) ∧ yBu w b v l ∧ (w_sz w0 ≤ b ∧ w_sz w0 ≤ v) ∧ (x2 < w_sz w ∧ x4 < w_sz w ∧ b < w_sz w ∧ v < w_sz w)
section
variable {Y : yY} {w0 w : yW} {p : Nat} {R : aRun} {S : Nat → Prop} {x2 x4 b v : Nat} {l : List Int} {β : Type} {Q : β → yW → Prop} {f : Option Nat → yM β}
theorem TI.step {w1 : yW} {l' : List Int} (h : TI Y w0 p R S x2 x4 b v l w) (hG : yG (fun x => x = b ∨ x = v) 0 0 w w1) (hb : yBu w1 b v l') : TI Y w0 p R S x2 x4 b v l' w1 := by
  obtain ⟨g0, g1, g2, g3, g4, g5, g6, g7, g8⟩ := h
  have nx : ∀ x, (w_kd w x).1 = 7 → ¬ (x = b ∨ x = v) := fun x hx e => by
    rcases e with e | e
    · rw [e, g6.1] at hx; cases hx
    · rw [e, g6.2.2.1] at hx; cases hx
  have a2 := hG.at g8.1 (nx x2 (by rw [g4.1]))
  have a4 := hG.at g8.2.1 (nx x4 (by rw [g5.1]))
  have hs := hG.2.1.1
  refine ⟨g0.trans hG (fun q hq e => by omega), g1.keep hG (fun q hq e => by omega), g2, g3.keep hG (fun q hq hS e => by omega), ⟨by rw [a2.1]; exact g4.1, by rw [a2.2.2]; exact g4.2⟩, ⟨by rw [a4.1]; exact g5.1, by rw [a4.2.2]; exact g5.2⟩, hb, g7, by omega⟩
theorem ti_str {i : Nat} (h : TI Y w0 p R S x2 x4 b v l w) (hi : 1 ≤ i ∧ i ≤ 19) (hn : l.length + (yWd i).length ≤ 400) (k : ∀ w1, TI Y w0 p R S x2 x4 b v (l ++ yWd i) w1 → yp (f (some b)) Q w1) : yp (yB (yKr 21 (some b) (kf_SB_append_15ec4 Y (some b) (some (y_ad Y i)))) f) Q w := by
  obtain ⟨-, -, v', k3, k4, -⟩ := h.2.1.1 i hi.1 hi.2
  exact yb_Kr (Or.inl (by rw [h.2.2.2.2.2.2.1.1])) (bu_str h.2.2.2.2.2.2.1 k3 k4 hn (fun w1 g1 u1 => ⟨⟨g1.2.1.1, g1.2.2.1.1⟩, k w1 (h.step g1 u1)⟩))
theorem ti_chr {x : Int} (h : TI Y w0 p R S x2 x4 b v l w) (hx : 0 ≤ x ∧ x ≤ 127) (hn : l.length + 1 ≤ 400) (k : ∀ w1, TI Y w0 p R S x2 x4 b v (l ++ [x]) w1 → yp (f (some b)) Q w1) : yp (yB (yKr 21 (some b) (kf_SB_append_cf468 Y (some b) x)) f) Q w :=
  yb_Kr (Or.inl (by rw [h.2.2.2.2.2.2.1.1])) (bu_chr h.2.2.2.2.2.2.1 hx hn (fun w1 g1 u1 => ⟨⟨g1.2.1.1, g1.2.2.1.1⟩, k w1 (h.step g1 u1)⟩))
theorem ti_int {n : Int} (h : TI Y w0 p R S x2 x4 b v l w) (hx : 0 ≤ n ∧ n ≤ 99) (hn : l.length + 2 ≤ 400) (k : ∀ w1, TI Y w0 p R S x2 x4 b v (l ++ dg n) w1 → yp (f (some b)) Q w1) : yp (yB (yKr 21 (some b) (kf_SB_append_bf812 Y (some b) n)) f) Q w :=
  yb_Kr (Or.inl (by rw [h.2.2.2.2.2.2.1.1])) (bu_int h.2.1 ⟨by have := h.2.2.1; have := h.2.2.2.2.2.2.2.1.1; omega, by have := h.2.2.1; have := h.2.2.2.2.2.2.2.1.2; omega⟩ h.2.2.2.2.2.2.1 hx hn (fun w1 g1 u1 => ⟨⟨g1.2.1.1, g1.2.2.1.1⟩, k w1 (h.step g1 u1)⟩))
end
