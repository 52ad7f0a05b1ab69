/-! ===== the texts of the law's, the digits ===== -/
def yWd (i : Nat) : List Int := match i with
  | 1 => [99, 111, 108, 117, 109, 110, 115]
  | 2 => [104, 101, 105, 103, 104, 116]
  | 3 => [111, 114, 112, 104, 97, 110, 115]
  | 4 => [119, 105, 100, 111, 119, 115]
  | 5 => [102, 111, 108, 108, 111, 119]
  | 6 => [110, 111, 116, 101]
  | 7 => [114, 117, 108, 101]
  | 8 => [114, 111, 111, 109]
  | 9 => [108, 105, 110, 101, 115]
  | 10 => [115, 111, 108, 105, 100]
  | 11 => [104, 101, 97, 100]
  | 12 => [116, 97, 98, 108, 101]
  | 13 => [115, 112, 97, 110]
  | 14 => [59]
  | 15 => []
  | 16 => [32, 116, 105, 101, 100]
  | 17 => [32, 119, 104, 111, 108, 101]
  | 18 => [32, 115, 112, 97, 99, 101, 32]
  | 19 => [32, 109, 97, 114, 107, 32]
  | _ => []
theorem yWd_le : ∀ i, i < 20 → yLe (yWd i) := by
  have : ∀ i, i < 20 → ∀ x ∈ yWd i, 0 ≤ x ∧ x ≤ 127 := by decide +kernel
  exact this
def yS9 (Y : yY) (w : yW) : Prop :=
  (∀ i, 1 ≤ i → i ≤ 19 → w_kd w (y_ad Y i) = (36, 0) ∧ y_ad Y i < Y.1 ∧ ∃ v, yTx w (y_ad Y i) v (yWd i) ∧ w_kd w v = (33, (yWd i).length) ∧ v < Y.1) ∧
  (w_kd w (y_ad Y 20) = (33, 100) ∧ y_ad Y 20 < Y.1 ∧ ∀ i, 0 ≤ i → i < 100 → w_iv w (y_ad Y 20) i = 48 + i % 10) ∧
  (w_kd w (y_ad Y 21) = (33, 100) ∧ y_ad Y 21 < Y.1 ∧ ∀ i, 0 ≤ i → i < 100 → w_iv w (y_ad Y 21) i = 48 + i / 10) ∧ Y.1 ≤ w_sz w
theorem yTx.moved {w w1 : yW} {q v : Nat} {l : List Int} (h : yTx w q v l) (hq : w_kd w1 q = w_kd w q ∧ w_iv w1 q = w_iv w q ∧ w_rv w1 q = w_rv w q) (hv : w_kd w1 v = w_kd w v ∧ w_iv w1 v = w_iv w v) : yTx w1 q v l := by
  unfold yTx yRo at h ⊢
  rw [hq.1, hq.2.1, hq.2.2, hv.1, hv.2]
  exact h
theorem yBu.moved {w w1 : yW} {q v : Nat} {l : List Int} (h : yBu w q v l) (hq : w_kd w1 q = w_kd w q ∧ w_iv w1 q = w_iv w q ∧ w_rv w1 q = w_rv w q) (hv : w_kd w1 v = w_kd w v ∧ w_iv w1 v = w_iv w v) : yBu w1 q v l := by
  unfold yBu yRo at h ⊢
  rw [hq.1, hq.2.1, hq.2.2, hv.1, hv.2]
  exact h
theorem yG.at {D : Nat → Prop} {a b q : Nat} {w w1 : yW} (h : yG D a b w w1) (hq : q < w_sz w) (hd : ¬ D q) : w_kd w1 q = w_kd w q ∧ w_iv w1 q = w_iv w q ∧ w_rv w1 q = w_rv w q :=
  ⟨h.2.2.2.1 q hq, h.2.2.2.2 q hq (Or.inl hd)⟩
theorem yS9.keep {Y : yY} {D : Nat → Prop} {a b : Nat} {w w1 : yW} (h : yS9 Y w) (hG : yG D a b w w1) (hD : ∀ q, q < Y.1 → ¬ D q) : yS9 Y w1 := by
  obtain ⟨h1, ⟨h2, h3, h4⟩, ⟨h5, h6, h7⟩, h8⟩ := h
  have at9 : ∀ q, q < Y.1 → w_kd w1 q = w_kd w q ∧ w_iv w1 q = w_iv w q ∧ w_rv w1 q = w_rv w q := fun q hq => hG.at (by omega) (hD q hq)
  refine ⟨fun i i1 i2 => ?_, ⟨by rw [(at9 _ h3).1]; exact h2, h3, by rw [(at9 _ h3).2.1]; exact h4⟩, ⟨by rw [(at9 _ h6).1]; exact h5, h6, by rw [(at9 _ h6).2.1]; exact h7⟩, by have := hG.2.1.1; omega⟩
  obtain ⟨k1, k2, v, k3, k4, k5⟩ := h1 i i1 i2
  exact ⟨by rw [(at9 _ k2).1]; exact k1, k2, v, k3.moved (at9 _ k2) ⟨(at9 _ k5).1, (at9 _ k5).2.1⟩, by rw [(at9 _ k5).1]; exact k4, k5⟩
theorem yS9.κ {Y : yY} {w : yW} (κ : iMem) (h : yS9 Y w) : yS9 Y (κ, w.2) := h
/-- the digits of a number below 100 -/
def dg (n : Int) : List Int := if n < 10 then [48 + n] else [48 + n / 10, 48 + n % 10]
theorem dg_le {n : Int} (h : 0 ≤ n ∧ n ≤ 99) : yLe (dg n) := by
  intro x hx
  unfold dg at hx
  split at hx
  · simp only [List.mem_cons, List.not_mem_nil, or_false] at hx; omega
  · simp only [List.mem_cons, List.not_mem_nil, or_false] at hx
    rcases hx with rfl | rfl <;> omega
theorem dg_len {n : Int} : (dg n).length = if n < 10 then 1 else 2 := by
  unfold dg
  split <;> rfl
section
variable {Y : yY} {w : yW} {p v : Nat} {l : List Int} {n : Int}
theorem run_size {Q : Int → yW → Prop} (h : 0 ≤ n ∧ n ≤ 99) (k : Q ((dg n).length : Int) w) : yp (kf_Integer_stringSize Y n) Q w := by
  unfold kf_Integer_stringSize
  refine yb_P ?_
  refine yp_bind (R := fun r w1 => r = (-n, 0) ∧ w1 = w) (yb_R (iR_small ⟨by omega, by omega⟩) (yp_ifF (by omega) (yb_P (yb_P (yp_P ⟨rfl, rfl⟩))))) (fun r w1 hr => ?_)
  obtain ⟨rfl, rfl⟩ := hr
  refine yb_P (yb_P ?_)
  refine yp_bind (R := fun r w2 => r = Sum.inr ((dg n).length : Int) ∧ w2 = w1) ?_ (fun r w2 hr => ?_)
  · refine yp_Lp (fun s w2 => ((s = (-10, 1)) ∨ (s = (-100, 2) ∧ 10 ≤ n)) ∧ w2 = w1) (fun s _ => (3 - s.2).toNat) ⟨Or.inl rfl, rfl⟩ (fun s w2 hs => ?_)
    obtain ⟨hs, rfl⟩ := hs
    rcases hs with rfl | ⟨rfl, h10⟩
    · refine yb_R2 ⟨by decide, by decide⟩ (yp_ifF (by decide) (yb_R2 ⟨iR_small ⟨by show -2000000000 ≤ -n; omega, by show -n ≤ _; omega⟩, by decide⟩ (yp_if (fun c => ?_) (fun c => ?_))))
      · have c' : -n ≤ -10 := c
        exact yb_P (yb_P (yp_P ⟨⟨Or.inr ⟨rfl, by omega⟩, rfl⟩, by decide⟩))
      · have c' : ¬ -n ≤ -10 := c
        refine yp_P ⟨?_, rfl⟩
        rw [dg_len, if_pos (by omega)]; rfl
    · refine yb_R2 ⟨by decide, by decide⟩ (yp_ifF (by decide) (yb_R2 ⟨iR_small ⟨by show -2000000000 ≤ -n; omega, by show -n ≤ _; omega⟩, by decide⟩ (yp_ifF (show ¬ -n ≤ -100 by omega) (yp_P ⟨?_, rfl⟩))))
      rw [dg_len, if_neg (by omega)]; rfl
  · obtain ⟨rfl, rfl⟩ := hr
    exact yp_P k
theorem bu_int {Q : Option Nat → yW → Prop} (hS : yS9 Y w) (hpB : Y.1 ≤ p ∧ Y.1 ≤ v) (h : yBu w p v l) (hx : 0 ≤ n ∧ n ≤ 99) (hn : l.length + 2 ≤ 400) (k : ∀ w1, yG (fun x => x = p ∨ x = v) 0 0 w w1 → yBu w1 p v (l ++ dg n) → Q (some p) w1) : yp (kf_SB_append_bf812 Y (some p) n) Q w := by
  have rf : w_sz w ≤ w_sz w ∧ w_sl w ≤ w_sl w := ⟨Nat.le_refl _, Nat.le_refl _⟩
  obtain ⟨h1, h2, h3, h4, h5, h6, h7, h8⟩ := h
  have hb : yBu w p v l := ⟨h1, h2, h3, h4, h5, h6, h7, h8⟩
  have np : p ≠ v := fun e => by rw [e, h3] at h1; cases h1
  obtain ⟨-, ⟨s1, s2, s3⟩, ⟨s4, s5, s6⟩, -⟩ := hS
  have dl : (dg n).length = if n < 10 then 1 else 2 := dg_len
  have dl2 : (dg n).length ≤ 2 ∧ 1 ≤ (dg n).length := by rw [dl]; split <;> omega
  unfold kf_SB_append_bf812
  refine yb_Kr (Or.inl (by rw [h1])) ?_
  unfold kf_ASB_append_c97b9
  refine yb_gt h1 h5 (yb_P (yb_K (run_size hx ⟨rf, yb_P (yb_Kr (Or.inl (by rw [h1])) (bu_cap hb ⟨by omega, by omega⟩ ⟨rf, yb_Kr (Or.inl (by rw [h1])) (bu_latin hb ⟨rf, yb_R (by decide) (yp_ifF (by decide) (yb_gr h1 h2 (yb_K ?_)))⟩)⟩))⟩)))
  unfold kf_Integer_getChars
  refine yb_P ?_
  refine yp_bind (R := fun r w1 => r = 0 ∧ w1 = w) (yb_R (iR_small ⟨by omega, by omega⟩) (yp_ifT hx.1 (yp_P ⟨rfl, rfl⟩))) (fun r w1 hr => ?_)
  obtain ⟨rfl, rfl⟩ := hr
  refine yb_P ?_
  refine yp_bind (R := fun r w2 => r = -n ∧ w2 = w1) (yb_R (by decide) (yp_ifF (fun z => z rfl) (yb_P (yp_P ⟨rfl, rfl⟩)))) (fun r w2 hr => ?_)
  obtain ⟨rfl, rfl⟩ := hr
  refine yp_bind (R := fun r w1 => r = (-n, (l.length : Int) + ((dg n).length : Int)) ∧ w1 = w2) ?_ (fun r w1 hr => ?_)
  · refine yp_Lp (fun s w1 => s = (-n, (l.length : Int) + ((dg n).length : Int)) ∧ w1 = w2) (fun _ _ => 0) ⟨rfl, rfl⟩ (fun s w1 hs => ?_)
    obtain ⟨rfl, rfl⟩ := hs
    exact yb_R2 ⟨iR_small ⟨by show _ ≤ -n; omega, by show -n ≤ _; omega⟩, by decide⟩ (yp_ifT (show -100 < -n by omega) (yp_P ⟨rfl, rfl⟩))
  · obtain ⟨rfl, rfl⟩ := hr
    have m1 : 0 ≤ 48 + n % 10 ∧ 48 + n % 10 ≤ 127 := by omega
    have m2 : 0 ≤ 48 + n / 10 ∧ 48 + n / 10 ≤ 127 := by omega
    have hp1 := (h1 : w_kd w1 p = (21, 0))
    refine yb_P (yb_ldR s1 ⟨show (0:Int) ≤ - -n by omega, show - -n < ((100 : Nat) : Int) by omega⟩ (by decide) (v := 48 + n % 10) (by rw [show - -n = n by omega]; exact s3 n hx.1 (by omega)) (yb_sb h3 ⟨by show (0 : Int) ≤ (l.length : Int) + ((dg n).length : Int) + -1; omega, by show (l.length : Int) + ((dg n).length : Int) + -1 < ((400 : Nat) : Int); omega⟩ (by decide) ?_))
    rw [i8_small m1]
    refine yp_bind (R := fun r w3 => yG (fun x => x = p ∨ x = v) 0 0 w1 w3 ∧ yBu (y_iv w3 (iu (w_iv w3) p 3 ((l.length : Int) + ((dg n).length : Int)))) p v (l ++ dg n) ∧ w_kd w3 p = (21, 0)) ?_ (fun r w3 hr => ?_)
    · refine yb_R2 ⟨iR_small ⟨by show _ ≤ -n; omega, by show -n ≤ _; omega⟩, by decide⟩ (yp_if (fun c => ?_) (fun c => ?_))
      · have c' : -9 ≤ -n := c
        have de : dg n = [48 + n] := if_pos (by omega)
        have dn : (dg n).length = 1 := by rw [de]; rfl
        refine yp_P ⟨yG.refl.st (Or.inr ⟨Or.inr rfl, by rw [h3]; unfold ym; simp⟩), ⟨h1, h2, h3, ?_, ?_, ?_, ?_, yLe_app h8 (dg_le hx)⟩, h1⟩
        · show iu (iu _ _ _ _) p 3 _ p 1 = 0
          rw [yu_n (by decide), yu_at np]; exact h4
        · show iu (iu _ _ _ _) p 3 _ p 3 = _
          rw [yu_s, List.length_append]; omega
        · rw [List.length_append]; omega
        · refine yRo_app (fun i hi => ?_) (fun i hi => ?_)
          · show iu (iu _ _ _ _) p 3 _ v i = _
            rw [yu_at (Ne.symm np)]
            show iu _ v _ _ v i = _
            rw [yu_n (by omega)]; exact h7 i hi
          · have : i = 0 := by omega
            subst this
            show iu (iu _ _ _ _) p 3 _ v _ = _
            rw [yu_at (Ne.symm np)]
            show iu _ v ((l.length : Int) + ((dg n).length : Int) + -1) _ v _ = _
            rw [dn, show (l.length : Int) + ((0 : Nat) : Int) = (l.length : Int) + ((1 : Nat) : Int) + -1 by omega, yu_s, de]
            show 48 + n % 10 = 48 + n
            omega
      · have c' : ¬ -9 ≤ -n := c
        have de : dg n = [48 + n / 10, 48 + n % 10] := if_neg (by omega)
        have dn : (dg n).length = 2 := by rw [de]; rfl
        refine yb_P (yb_ldR s4 ⟨show (0:Int) ≤ - -n by omega, show - -n < ((100 : Nat) : Int) by omega⟩ (by decide) (v := 48 + n / 10) ?_ (yb_sb h3 ⟨by show (0 : Int) ≤ (l.length : Int) + ((dg n).length : Int) + -1 + -1; omega, by show (l.length : Int) + ((dg n).length : Int) + -1 + -1 < ((400 : Nat) : Int); omega⟩ (by decide) ?_))
        · have nv : y_ad Y 21 ≠ v := by omega
          show iu _ v _ _ (y_ad Y 21) _ = _
          rw [yu_at nv, show - -n = n by omega]; exact s6 n hx.1 (by omega)
        · rw [i8_small m2]
          refine yp_P ⟨(yG.refl.st (Or.inr ⟨Or.inr rfl, by rw [h3]; unfold ym; simp⟩)).st (Or.inr ⟨Or.inr rfl, by rw [h3]; unfold ym; simp⟩), ⟨h1, h2, h3, ?_, ?_, ?_, ?_, yLe_app h8 (dg_le hx)⟩, h1⟩
          · show iu (iu (iu _ _ _ _) _ _ _) p 3 _ p 1 = 0
            rw [yu_n (by decide), yu_at np, yu_at np]; exact h4
          · show iu (iu _ _ _ _) p 3 _ p 3 = _
            rw [yu_s, List.length_append]; omega
          · rw [List.length_append]; omega
          · refine yRo_app (fun i hi => ?_) (fun i hi => ?_)
            · show iu (iu (iu _ _ _ _) _ _ _) p 3 _ v i = _
              rw [yu_at (Ne.symm np)]
              show iu (iu _ v _ _) v _ _ v i = _
              rw [yu_n (by omega), yu_n (by omega)]; exact h7 i hi
            · have : i = 0 ∨ i = 1 := by omega
              show iu (iu (iu _ _ _ _) _ _ _) p 3 _ v _ = _
              rw [yu_at (Ne.symm np)]
              show iu (iu _ v ((l.length : Int) + ((dg n).length : Int) + -1) _) v ((l.length : Int) + ((dg n).length : Int) + -1 + -1) _ v _ = _
              rw [dn]
              rcases this with rfl | rfl
              · rw [show (l.length : Int) + ((0 : Nat) : Int) = (l.length : Int) + ((2 : Nat) : Int) + -1 + -1 by omega, yu_s, de]
                rfl
              · rw [show (l.length : Int) + ((1 : Nat) : Int) = (l.length : Int) + ((2 : Nat) : Int) + -1 by omega, yu_n (by omega), yu_s, de]
                rfl
    · obtain ⟨g1, g2, g3⟩ := hr
      refine yb_R (by decide) (yp_ifT rfl (yp_P ⟨⟨g1.2.1.1, g1.2.2.1.1⟩, yb_pt g3 (yb_Nn (yp_P ⟨⟨g1.2.1.1, g1.2.2.1.1⟩, yb_Nn (yp_P (k _ ?_ g2))⟩))⟩))
      exact g1.st (Or.inr ⟨Or.inl rfl, by rw [h1]; unfold ym; simp⟩)
end
