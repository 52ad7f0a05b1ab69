/-! ===== a RUN told: a BLOCK, all of it ===== -/
section
variable {Y : yY} {w0 w : yW} {p : Nat} {R : aRun} {S : Nat → Prop} {x2 x4 b v : Nat} {l : List Int} {β : Type} {Q : β → yW → Prop} {f : Option Nat → yM β}
theorem TI.at (h : TI Y w0 p R S x2 x4 b v l w) {x : Nat} (hx : x < w_sz w0) : w_kd w x = w_kd w0 x ∧ w_iv w x = w_iv w0 x ∧ w_rv w x = w_rv w0 x := h.1.at hx (fun z => z)
theorem ti_ld {β : Type} {Q : β → yW → Prop} {f : Int → yM β} {q : Nat} {i x : Int} (h : TI Y w0 p R S x2 x4 b v l w) {n : Nat} (hq : q < w_sz w0) (hk : w_kd w0 q = (1, n)) (hi : 0 ≤ i ∧ i < (n : Int)) (hn : n ≤ 100000) (he : w_iv w0 q i = x) (k : yp (f x) Q w) : yp (yB (yLd 1 (some q) i) f) Q w :=
  yb_ld ((h.at hq).1.trans hk) hi hn (by rw [(h.at hq).2.1]; exact he) k
theorem ti_lr {β : Type} {Q : β → yW → Prop} {f : Option Nat → yM β} {q : Nat} {i : Int} {x : Option Nat} (h : TI Y w0 p R S x2 x4 b v l w) {n t : Nat} (hq : q < w_sz w0) (hk : w_kd w0 q = (t, n)) (hi : 0 ≤ i ∧ i < (n : Int)) (hn : n ≤ 100000) (he : w_rv w0 q i = x) (k : yp (f x) Q w) : yp (yB (yLr t (some q) i) f) Q w :=
  yb_lr ((h.at hq).1.trans hk) hi hn (by rw [(h.at hq).2.2]; exact he) k
theorem ti_gr {β : Type} {Q : β → yW → Prop} {f : Option Nat → yM β} {q : Nat} {i : Int} {x : Option Nat} (h : TI Y w0 p R S x2 x4 b v l w) {n t : Nat} (hq : q < w_sz w0) (hk : w_kd w0 q = (t, n)) (he : w_rv w0 q i = x) (k : yp (f x) Q w) : yp (yB (yGr t (some q) i) f) Q w :=
  yb_gr ((h.at hq).1.trans hk) (by rw [(h.at hq).2.2]; exact he) k
theorem ti_block {bb kk q m : Nat} {j : Int} (hp : p < w_sz w0) (kp : w_kd w0 p = (20, 0)) (r2 : w_rv w0 p 2 = some bb) (hbb : bb < w_sz w0) (kb : w_kd w0 bb = (4, 17)) (r3 : w_rv w0 p 3 = some kk) (hkk : kk < w_sz w0) (kk4 : w_kd w0 kk = (4, 17)) (rq : w_rv w0 bb j = some q) (hq : q < w_sz w0) (hB : LBk w0 q R j) (rm : w_rv w0 kk j = some m) (hm : m < w_sz w0) (hM : LMk w0 m R j) (hSM : SM R) (j0 : 0 ≤ j) (jn : j < rn R) (h : TI Y w0 p R S x2 x4 b v l w) (hn : l.length + 46 ≤ 400) {Q : (Int ⊕ Unit) → yW → Prop} (k : ∀ w1, TI Y w0 p R S x2 x4 b v (l ++ yTb R j) w1 → Q (Sum.inl (j + 1)) w1) :
    yp (yB (yGr 20 (some p) 2) fun x24 =>
        yB (yLr 4 x24 j) fun x25 =>
        yB (yP x25) fun x26 =>
        yB (yKr 21 (some b) (kf_SB_append_cf468 Y (some b) (59 : Int))) fun x27 =>
        yB (yLd 1 x26 (0 : Int)) fun x28 =>
        yB (yLr 7 (some x4) x28) fun x29 =>
        yB (yKr 21 x27 (kf_SB_append_15ec4 Y x27 x29)) fun x30 =>
        yB (yLd 1 x26 (0 : Int)) fun x31 =>
        yB (α := Unit) (
          yB (yR2 x31 (3 : Int)) fun _ =>
          if ¬ x31 = (3 : Int) then
            yP ()
          else
            yB (yKr 21 (some b) (kf_SB_append_cf468 Y (some b) (32 : Int))) fun x33 =>
            yB (yLd 1 x26 (3 : Int)) fun x34 =>
            yB (yKr 21 x33 (kf_SB_append_bf812 Y x33 x34)) fun x35 =>
            yP ()) fun s32 =>
        yB (yLd 1 x26 (0 : Int)) fun x36 =>
        yB (α := Unit) (
          yB (α := (Unit ⊕ Unit)) (
            yB (yR x36) fun _ =>
            if x36 = 0 then
              yP (Sum.inl ())
            else
              yB (yLd 1 x26 (0 : Int)) fun x39 =>
              yB (yR2 x39 (3 : Int)) fun _ =>
              if ¬ x39 = (3 : Int) then
                yP (Sum.inr ())
              else
                yP (Sum.inl ())) (Sum.elim (fun s38 =>
            yB (yKr 21 (some b) (kf_SB_append_cf468 Y (some b) (32 : Int))) fun x40 =>
            yB (yLd 1 x26 (1 : Int)) fun x41 =>
            yB (yKr 21 x40 (kf_SB_append_bf812 Y x40 x41)) fun x42 =>
            yP ()) yP)) fun s37 =>
        yB (yKr 21 (some b) (kf_SB_append_cf468 Y (some b) (32 : Int))) fun x43 =>
        yB (yLd 1 x26 (2 : Int)) fun x44 =>
        yB (yKr 21 x43 (kf_SB_append_bf812 Y x43 x44)) fun x45 =>
        yB (yLd 1 x26 (4 : Int)) fun x46 =>
        yB (α := Unit) (
          yB (yR2 x46 (1 : Int)) fun _ =>
          if ¬ x46 = (1 : Int) then
            yP ()
          else
            yB (yKr 21 (some b) (kf_SB_append_15ec4 Y (some b) (some (y_ad Y 16)))) fun x48 =>
            yP ()) fun s47 =>
        yB (yLd 1 x26 (5 : Int)) fun x49 =>
        yB (α := Unit) (
          yB (yR2 x49 (1 : Int)) fun _ =>
          if ¬ x49 = (1 : Int) then
            yP ()
          else
            yB (yKr 21 (some b) (kf_SB_append_15ec4 Y (some b) (some (y_ad Y 17)))) fun x51 =>
            yP ()) fun s50 =>
        yB (yLd 1 x26 (6 : Int)) fun x52 =>
        yB (α := Unit) (
          yB (yR x52) fun _ =>
          if x52 ≤ 0 then
            yP ()
          else
            yB (yKr 21 (some b) (kf_SB_append_15ec4 Y (some b) (some (y_ad Y 18)))) fun x54 =>
            yB (yLd 1 x26 (6 : Int)) fun x55 =>
            yB (yKr 21 x54 (kf_SB_append_bf812 Y x54 x55)) fun x56 =>
            yP ()) fun s53 =>
        yB (yP (0 : Int)) fun x57 =>
        yB (α := Unit) (
          yLp (S := Int) (α := Unit) (fun s59 =>
            yB (yGr 20 (some p) 3) fun x60 =>
            yB (yLr 4 x60 j) fun x61 =>
            yB (yLn x61) fun x62 =>
            yB (yR2 s59 x62) fun _ =>
            if x62 ≤ s59 then
              yP (Sum.inr ())
            else
              yB (yKr 21 (some b) (kf_SB_append_15ec4 Y (some b) (some (y_ad Y 19)))) fun x63 =>
              yB (yGr 20 (some p) 3) fun x64 =>
              yB (yLr 4 x64 j) fun x65 =>
              yB (yLd 1 x65 s59) fun x66 =>
              yB (yKr 21 x63 (kf_SB_append_bf812 Y x63 x66)) fun x67 =>
              yB (yKr 21 x67 (kf_SB_append_cf468 Y x67 (32 : Int))) fun x68 =>
              yB (yGr 20 (some p) 3) fun x69 =>
              yB (yLr 4 x69 j) fun x70 =>
              yB (yLd 1 x70 (s59 + (1 : Int))) fun x71 =>
              yB (yKr 21 x68 (kf_SB_append_bf812 Y x68 x71)) fun x72 =>
              yB (yP (s59 + 2)) fun x73 =>
              yP (Sum.inl x73)) x57) fun s58 =>
        yB (yP (j + 1)) fun x74 =>
        yP (Sum.inl x74)) Q w := by
  obtain ⟨kq, vq⟩ := hB
  have sm := hSM.2.2 j j0 jn
  have hn9 := hSM.1
  have s0 := sm.1
  have s1 := sm.2 1 (by decide) (by decide)
  have s2 := sm.2 2 (by decide) (by decide)
  have s3 := sm.2 3 (by decide) (by decide)
  have s4 := sm.2 4 (by decide) (by decide)
  have s5 := sm.2 5 (by decide) (by decide)
  have s6 := sm.2 6 (by decide) (by decide)
  have s8 := sm.2 8 (by decide) (by decide)
  have s12 := sm.2 12 (by decide) (by decide)
  have d1 := dg_len2 (rc R j 1)
  have d2 := dg_len2 (rc R j 2)
  have d3 := dg_len2 (rc R j 3)
  have d6 := dg_len2 (rc R j 6)
  have d8 := dg_len2 (rc R j 8)
  have d12 := dg_len2 (rc R j 12)
  have h1 : ∀ i, i < 5 → (yWd (9 + i)).length ≤ 5 := by decide +kernel
  have h2 := h1 (rc R j 0).toNat (by omega)
  have w16 : (yWd 16).length = 5 := rfl
  have w17 : (yWd 17).length = 6 := rfl
  have w18 : (yWd 18).length = 7 := rfl
  have w19 : (yWd 19).length = 6 := rfl
  have a1 : (if rc R j 0 = 3 then [32] ++ dg (rc R j 3) else []).length ≤ 3 := by split <;> simp <;> omega
  have a2 : (if rc R j 0 = 0 ∨ rc R j 0 = 3 then [32] ++ dg (rc R j 1) else []).length ≤ 3 := by split <;> simp <;> omega
  have a3 : (if rc R j 4 = 1 then yWd 16 else []).length ≤ 5 := by split <;> decide
  have a4 : (if rc R j 5 = 1 then yWd 17 else []).length ≤ 6 := by split <;> decide
  have a5 : (if 0 < rc R j 6 then yWd 18 ++ dg (rc R j 6) else []).length ≤ 9 := by split <;> simp only [List.length_append, List.length_nil] <;> omega
  have bq : ∀ i : Int, 0 ≤ i → i < 7 → 0 ≤ i ∧ i < ((7 : Nat) : Int) := fun i h1 h2 => ⟨h1, by omega⟩
  refine ti_gr h hp kp r2 (ti_lr h hbb kb ⟨j0, by omega⟩ (by decide) rq (yb_P (ti_chr h (by decide) (by omega) (fun w1 t1 => ?_))))
  refine ti_ld t1 hq kq (bq 0 (by decide) (by decide)) (by decide) (vq 0 (by decide) (by decide)) ?_
  refine yb_lr t1.2.2.2.2.2.1.1 ⟨s0.1, by omega⟩ (by decide) (r := some (y_ad Y (9 + (rc R j 0).toNat))) ?_ ?_
  · have := t1.2.2.2.2.2.1.2 (rc R j 0).toNat (by omega)
    rwa [show (((rc R j 0).toNat : Nat) : Int) = rc R j 0 by omega] at this
  refine ti_str t1 ⟨by omega, by omega⟩ (by simp only [List.length_append, List.length_cons, List.length_nil]; omega) (fun w2 t2 => ?_)
  refine ti_ld t2 hq kq (bq 0 (by decide) (by decide)) (by decide) (vq 0 (by decide) (by decide)) ?_
  refine yp_bind (R := fun _ w1 => TI Y w0 p R S x2 x4 b v (l ++ [59] ++ yWd (9 + (rc R j 0).toNat) ++ (if rc R j 0 = 3 then [32] ++ dg (rc R j 3) else [])) w1) ?_ (fun _ w3 t3 => ?_)
  · refine yb_R2 ⟨iR_small ⟨by omega, by omega⟩, by decide⟩ (yp_if (fun c => ?_) (fun c => ?_))
    · rw [if_neg c, List.append_nil]; exact yp_P t2
    · rw [if_pos (Classical.not_not.mp c), ← List.append_assoc]
      refine ti_chr t2 (by decide) (by simp only [List.length_append, List.length_cons, List.length_nil]; omega) (fun w4 t4 => ?_)
      refine ti_ld t4 hq kq (bq 3 (by decide) (by decide)) (by decide) (vq 3 (by decide) (by decide)) ?_
      exact ti_int t4 s3 (by simp only [List.length_append, List.length_cons, List.length_nil]; omega) (fun w5 t5 => yp_P t5)
  refine ti_ld t3 hq kq (bq 0 (by decide) (by decide)) (by decide) (vq 0 (by decide) (by decide)) ?_
  refine yp_bind (R := fun _ w1 => TI Y w0 p R S x2 x4 b v (l ++ [59] ++ yWd (9 + (rc R j 0).toNat) ++ (if rc R j 0 = 3 then [32] ++ dg (rc R j 3) else []) ++ (if rc R j 0 = 0 ∨ rc R j 0 = 3 then [32] ++ dg (rc R j 1) else [])) w1) ?_ (fun _ w6 t6 => ?_)
  · refine yp_bind (R := fun r w1 => w1 = w3 ∧ ((r = Sum.inl () ∧ (rc R j 0 = 0 ∨ rc R j 0 = 3)) ∨ (r = Sum.inr () ∧ ¬ (rc R j 0 = 0 ∨ rc R j 0 = 3)))) ?_ (fun r w1 hr => ?_)
    · refine yb_R (iR_small ⟨by omega, by omega⟩) (yp_if (fun c => yp_P ⟨rfl, Or.inl ⟨rfl, Or.inl c⟩⟩) (fun c => ?_))
      refine ti_ld t3 hq kq (bq 0 (by decide) (by decide)) (by decide) (vq 0 (by decide) (by decide)) ?_
      exact yb_R2 ⟨iR_small ⟨by omega, by omega⟩, by decide⟩ (yp_if (fun d => yp_P ⟨rfl, Or.inr ⟨rfl, fun e => e.elim c d⟩⟩) (fun d => yp_P ⟨rfl, Or.inl ⟨rfl, Or.inr (Classical.not_not.mp d)⟩⟩))
    · obtain ⟨rfl, ⟨rfl, c⟩ | ⟨rfl, c⟩⟩ := hr
      · rw [if_pos c, ← List.append_assoc, Sum.elim_inl]
        refine ti_chr (x := 32) t3 (by decide) (by simp only [List.length_append, List.length_cons, List.length_nil] at a1 ⊢; omega) (fun w4 t4 => ?_)
        refine ti_ld t4 hq kq (bq 1 (by decide) (by decide)) (by decide) (vq 1 (by decide) (by decide)) ?_
        exact ti_int t4 s1 (by simp only [List.length_append, List.length_cons, List.length_nil] at a1 ⊢; omega) (fun w5 t5 => yp_P t5)
      · rw [if_neg c, List.append_nil]; exact yp_P t3
  refine ti_chr t6 (by decide) (by simp only [List.length_append, List.length_cons, List.length_nil] at a1 a2 ⊢; omega) (fun w7 t7 => ?_)
  refine ti_ld t7 hq kq (bq 2 (by decide) (by decide)) (by decide) (vq 2 (by decide) (by decide)) ?_
  refine ti_int t7 s2 (by simp only [List.length_append, List.length_cons, List.length_nil] at a1 a2 ⊢; omega) (fun w8 t8 => ?_)
  refine ti_ld t8 hq kq (bq 4 (by decide) (by decide)) (by decide) (vq 4 (by decide) (by decide)) ?_
  refine yp_bind (R := fun _ w1 => TI Y w0 p R S x2 x4 b v (l ++ [59] ++ yWd (9 + (rc R j 0).toNat) ++ (if rc R j 0 = 3 then [32] ++ dg (rc R j 3) else []) ++ (if rc R j 0 = 0 ∨ rc R j 0 = 3 then [32] ++ dg (rc R j 1) else []) ++ [32] ++ dg (rc R j 2) ++ (if rc R j 4 = 1 then yWd 16 else [])) w1) ?_ (fun _ w9 t9 => ?_)
  · refine yb_R2 ⟨iR_small ⟨by omega, by omega⟩, by decide⟩ (yp_if (fun c => ?_) (fun c => ?_))
    · rw [if_neg c, List.append_nil]; exact yp_P t8
    · rw [if_pos (Classical.not_not.mp c)]
      exact ti_str t8 (by decide) (by simp only [List.length_append, List.length_cons, List.length_nil] at a1 a2 ⊢; omega) (fun w4 t4 => yp_P t4)
  refine ti_ld t9 hq kq (bq 5 (by decide) (by decide)) (by decide) (vq 5 (by decide) (by decide)) ?_
  refine yp_bind (R := fun _ w1 => TI Y w0 p R S x2 x4 b v (l ++ [59] ++ yWd (9 + (rc R j 0).toNat) ++ (if rc R j 0 = 3 then [32] ++ dg (rc R j 3) else []) ++ (if rc R j 0 = 0 ∨ rc R j 0 = 3 then [32] ++ dg (rc R j 1) else []) ++ [32] ++ dg (rc R j 2) ++ (if rc R j 4 = 1 then yWd 16 else []) ++ (if rc R j 5 = 1 then yWd 17 else [])) w1) ?_ (fun _ w10 t10 => ?_)
  · refine yb_R2 ⟨iR_small ⟨by omega, by omega⟩, by decide⟩ (yp_if (fun c => ?_) (fun c => ?_))
    · rw [if_neg c, List.append_nil]; exact yp_P t9
    · rw [if_pos (Classical.not_not.mp c)]
      exact ti_str t9 (by decide) (by simp only [List.length_append, List.length_cons, List.length_nil] at a1 a2 a3 ⊢; omega) (fun w4 t4 => yp_P t4)
  refine ti_ld t10 hq kq (bq 6 (by decide) (by decide)) (by decide) (vq 6 (by decide) (by decide)) ?_
  refine yp_bind (R := fun _ w1 => TI Y w0 p R S x2 x4 b v (l ++ [59] ++ yWd (9 + (rc R j 0).toNat) ++ (if rc R j 0 = 3 then [32] ++ dg (rc R j 3) else []) ++ (if rc R j 0 = 0 ∨ rc R j 0 = 3 then [32] ++ dg (rc R j 1) else []) ++ [32] ++ dg (rc R j 2) ++ (if rc R j 4 = 1 then yWd 16 else []) ++ (if rc R j 5 = 1 then yWd 17 else []) ++ (if 0 < rc R j 6 then yWd 18 ++ dg (rc R j 6) else [])) w1) ?_ (fun _ w11 t11 => ?_)
  · refine yb_R (iR_small ⟨by omega, by omega⟩) (yp_if (fun c => ?_) (fun c => ?_))
    · rw [if_neg (show ¬ 0 < rc R j 6 by omega), List.append_nil]; exact yp_P t10
    · rw [if_pos (show 0 < rc R j 6 by omega), ← List.append_assoc]
      refine ti_str t10 (by decide) (by simp only [List.length_append, List.length_cons, List.length_nil] at a1 a2 a3 a4 ⊢; omega) (fun w4 t4 => ?_)
      refine ti_ld t4 hq kq (bq 6 (by decide) (by decide)) (by decide) (vq 6 (by decide) (by decide)) ?_
      exact ti_int t4 s6 (by simp only [List.length_append, List.length_cons, List.length_nil] at a1 a2 a3 a4 ⊢; omega) (fun w5 t5 => yp_P t5)
  refine yb_P ?_
  generalize el : l ++ [59] ++ yWd (9 + (rc R j 0).toNat) ++ (if rc R j 0 = 3 then [32] ++ dg (rc R j 3) else []) ++ (if rc R j 0 = 0 ∨ rc R j 0 = 3 then [32] ++ dg (rc R j 1) else []) ++ [32] ++ dg (rc R j 2) ++ (if rc R j 4 = 1 then yWd 16 else []) ++ (if rc R j 5 = 1 then yWd 17 else []) ++ (if 0 < rc R j 6 then yWd 18 ++ dg (rc R j 6) else []) = l9 at t11
  have ll : l9.length + 11 ≤ 400 := by
    rw [← el]
    simp only [List.length_append, List.length_cons, List.length_nil] at a1 a2 a3 a4 a5 ⊢
    omega
  have le : l ++ yTb R j = l9 ++ (if rc R j 7 = 1 then yWd 19 ++ (dg (rc R j 8) ++ ([32] ++ dg (rc R j 12))) else []) := by
    rw [← el]
    unfold yTb
    simp only [List.append_assoc]
  rw [le] at k
  refine yp_bind (R := fun _ w1 => TI Y w0 p R S x2 x4 b v (l9 ++ (if rc R j 7 = 1 then yWd 19 ++ (dg (rc R j 8) ++ ([32] ++ dg (rc R j 12))) else [])) w1) ?_ (fun _ w12 t12 => yb_P (yp_P (k _ t12)))
  rcases hM with ⟨km, e7⟩ | ⟨km, e7, e8, e12⟩
  · refine yp_Lp (fun s w1 => s = 0 ∧ TI Y w0 p R S x2 x4 b v l9 w1) (fun _ _ => 0) ⟨rfl, t11⟩ (fun s w1 hs => ?_)
    obtain ⟨rfl, t⟩ := hs
    refine ti_gr t hp kp r3 (ti_lr t hkk kk4 ⟨j0, by omega⟩ (by decide) rm (yb_ln ((t.at hm).1.trans km) (Or.inl rfl) (yb_R2 ⟨by decide, by decide⟩ (yp_ifT (by decide) (yp_P ?_)))))
    rw [if_neg (show ¬ rc R j 7 = 1 by omega), List.append_nil]; exact t
  · refine yp_Lp (fun s w1 => (s = 0 ∧ TI Y w0 p R S x2 x4 b v l9 w1) ∨ (s = 2 ∧ TI Y w0 p R S x2 x4 b v (l9 ++ (if rc R j 7 = 1 then yWd 19 ++ (dg (rc R j 8) ++ ([32] ++ dg (rc R j 12))) else [])) w1)) (fun s _ => (4 - s).toNat) (Or.inl ⟨rfl, t11⟩) (fun s w1 hs => ?_)
    rcases hs with ⟨rfl, t⟩ | ⟨rfl, t⟩
    · refine ti_gr t hp kp r3 (ti_lr t hkk kk4 ⟨j0, by omega⟩ (by decide) rm (yb_ln ((t.at hm).1.trans km) (Or.inl rfl) (yb_R2 ⟨by decide, by decide⟩ (yp_ifF (by decide) ?_))))
      refine ti_str t (by decide) (by omega) (fun w2 t2 => ?_)
      refine ti_gr t2 hp kp r3 (ti_lr t2 hkk kk4 ⟨j0, by omega⟩ (by decide) rm (ti_ld t2 hm km ⟨by decide, by decide⟩ (by decide) e8 ?_))
      refine ti_int t2 s8 (by simp only [List.length_append]; omega) (fun w3 t3 => ?_)
      refine ti_chr (x := 32) t3 (by decide) (by simp only [List.length_append]; omega) (fun w4 t4 => ?_)
      refine ti_gr t4 hp kp r3 (ti_lr t4 hkk kk4 ⟨j0, by omega⟩ (by decide) rm (ti_ld t4 hm km ⟨by decide, by decide⟩ (by decide) e12 ?_))
      refine ti_int t4 s12 (by simp only [List.length_append, List.length_cons, List.length_nil]; omega) (fun w5 t5 => yb_P (yp_P ⟨Or.inr ⟨rfl, ?_⟩, by decide⟩))
      rw [if_pos e7]
      simp only [List.append_assoc] at t5 ⊢
      exact t5
    · refine ti_gr t hp kp r3 (ti_lr t hkk kk4 ⟨j0, by omega⟩ (by decide) rm (yb_ln ((t.at hm).1.trans km) (Or.inl rfl) (yb_R2 ⟨by decide, by decide⟩ (yp_ifT (by decide) (yp_P t)))))
end
