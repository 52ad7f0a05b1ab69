/-! ===== all of a RUN told ===== -/
section
variable {Y : yY} {w : yW} {p : Nat} {R : aRun} {S : Nat → Prop}
theorem run_toString {Q : Option Nat → yW → Prop} {b v : Nat} {l : List Int} (h : yBu w b v l) (hl : b < w_sz w ∧ v < w_sz w) (h400 : l.length < 400) (k : ∀ w1, yG y0 2 404 w w1 → yTx w1 (w_sz w) (w_sz w + 1) l → w_sz w1 = w_sz w + 2 → Q (some (w_sz w)) w1) : yp (kf_SB_toString Y (some b)) Q w := by
  obtain ⟨h1, h2, h3, h4, h5, h6, h7, h8⟩ := h
  unfold kf_SB_toString
  refine yb_no (fun w1 e1 => yb_Kr (Or.inl (by rw [e1.kd])) ?_)
  have z1 := e1.sz
  have ob := e1.old b (by omega)
  have ov := e1.old v (by omega)
  have hb : yBu w1 b v l := by
    refine ⟨ob.1.trans h1, by rw [ob.2.2]; exact h2, ov.1.trans h3, by rw [ob.2.1]; exact h4, by rw [ob.2.1]; exact h5, h6, fun i hi => by rw [ov.2.1]; exact h7 i hi, h8⟩
  have kb := hb.1
  have rf : w_sz w1 ≤ w_sz w1 ∧ w_sl w1 ≤ w_sl w1 := ⟨Nat.le_refl _, Nat.le_refl _⟩
  unfold kf_String_init_81219
  refine yb_Kr (Or.inl (by rw [e1.kd])) ?_
  unfold kf_String_init_db425
  refine yb_Nn (yb_Kr (Or.inl (by rw [kb])) ?_)
  unfold kf_ASB_getValue
  refine yb_gr kb hb.2.1 (yb_Nn (yp_P ⟨rf, yb_P (yb_Kr (Or.inl (by rw [kb])) ?_)⟩))
  unfold kf_SB_length
  refine yb_Kr (Or.inl (by rw [kb])) ?_
  unfold kf_ASB_length
  refine yb_gt kb hb.2.2.2.2.1 (yp_P ⟨rf, yp_P ⟨rf, yb_P (yb_Kr (Or.inl (by rw [kb])) (bu_latin hb ⟨rf, yb_R (by decide) (yp_ifF (by decide) ?_)⟩))⟩⟩)
  refine yb_pz e1.kd (Or.inl rfl) (yb_K ?_)
  generalize ew2 : y_iv w1 _ = w2
  have z2 : w_sz w2 = w_sz w1 := by subst ew2; rfl
  have l2 : w_sl w2 = w_sl w1 := by subst ew2; rfl
  have g2 : yG y0 1 4 w w2 := by subst ew2; exact (e1.g.st (Or.inl (Nat.le_refl _)))
  have k2 : w_kd w2 (w_sz w) = (22, 0) := by subst ew2; exact e1.kd
  have c2 : w_iv w2 (w_sz w) 1 = 0 := by subst ew2; exact yu_s
  have nb : b ≠ w_sz w := by omega
  have nv : v ≠ w_sz w := by omega
  have kv2 : w_kd w2 v = (3, 400) := by subst ew2; exact hb.2.2.1
  have vv2 : ∀ i : Nat, i < l.length → w_iv w2 v (i : Int) = l.getD i 0 := by
    subst ew2
    intro i hi
    show iu _ _ _ _ v i = _
    rw [yu_at nv]; exact hb.2.2.2.2.2.2.1 i hi
  clear ew2
  unfold kf_Arrays_copyOfRange
  refine yp_bind (R := fun _ w3 => w3 = w2) ?_ (fun _ w3 e3 => ?_)
  · refine yb_R (by decide) (yp_ifF (fun z => z rfl) (yb_ln kv2 (Or.inr (Or.inl rfl)) (yb_R2 ⟨iR_small ⟨by omega, by omega⟩, by decide⟩ (yp_ifF (by omega) (yp_P rfl)))))
  subst e3
  refine yb_K ?_
  unfold kf_Arrays_copyOfRangeByte
  refine yb_K ?_
  unfold kf_Arrays_checkLength
  have rf3 : w_sz w3 ≤ w_sz w3 ∧ w_sl w3 ≤ w_sl w3 := ⟨Nat.le_refl _, Nat.le_refl _⟩
  refine yb_R2 ⟨iR_small ⟨by omega, by omega⟩, by decide⟩ (yp_ifT (by omega) (yp_P ⟨rf3, yb_P (yb_na ⟨by omega, by omega⟩ (fun w4 e4 => ?_))⟩))
  have z4 := e4.sz
  have s4 := e4.sl
  have o4 : ∀ q, q ≠ w_sz w3 → _ := e4.old
  have kv4 : w_kd w4 v = (3, 400) := (o4 v (by omega)).1.trans kv2
  refine yb_P (yb_ln kv4 (Or.inr (Or.inl rfl)) (yb_Min ⟨iR_small ⟨by omega, by omega⟩, iR_small ⟨by omega, by omega⟩⟩ ?_))
  rw [if_pos (show (l.length : Int) - 0 < ((400 : Nat) : Int) - 0 by omega)]
  have kn4 : w_kd w4 (w_sz w3) = (3, l.length) := by
    rw [e4.kd]
    show (3, ((l.length : Int) - 0).toNat) = _
    rw [show ((l.length : Int) - 0).toNat = l.length by omega]
  have vv4 : ∀ i : Nat, i < l.length → w_iv w4 v (i : Int) = l.getD i 0 := fun i hi => by rw [(o4 v (by omega)).2.1]; exact vv2 i hi
  refine yb_cp (Or.inl kv4) kn4 (by omega) ⟨by decide, by decide, by omega⟩ ⟨by omega, by omega⟩ ⟨by decide, by omega⟩ (fun _ i i0 i1 => ?_) (yb_Nn (yp_P ⟨⟨by show w_sz w3 ≤ w_sz w4; omega, by show w_sl w3 ≤ w_sl w4; omega⟩, yb_Nn (yp_P ⟨⟨by show w_sz w3 ≤ w_sz w4; omega, by show w_sl w3 ≤ w_sl w4; omega⟩, ?_⟩)⟩))
  · have e := vv4 i.toNat (by omega)
    rw [show ((i.toNat : Nat) : Int) = i by omega] at e
    rw [Int.zero_add, e]
    have := yLe_at h8 i.toNat
    omega
  · have k4 : w_kd w4 (w_sz w) = (22, 0) := (o4 _ (by omega)).1.trans k2
    have cp : ∀ x, x ≠ w_sz w3 → ycpy (w_iv w4) v (w_sz w3) 0 0 ((l.length : Int) - 0) x = w_iv w4 x := fun x hx => funext fun _ => if_neg (fun e => hx e.1)
    have gF : yG y0 (1 + 1) (4 + ((l.length : Int) - 0).toNat) w w4 := g2.trans e4.g (fun _ _ z => z)
    refine yb_pr k4 (yp_P ⟨⟨by show w_sz w1 ≤ w_sz w4; omega, by show w_sl w1 ≤ w_sl w4; omega⟩, yp_P ⟨⟨by show w_sz w1 ≤ w_sz w4; omega, by show w_sl w1 ≤ w_sl w4; omega⟩, yb_Nn (yp_P (k _ ?_ ⟨Or.inl (by show (w_kd w4 (w_sz w)).1 = 22; rw [k4]), ?_, ?_, ?_, by omega, ?_, h8⟩ (by show w_sz w4 = _; omega)))⟩⟩)
    · exact (((gF.iv (fun q hq _ => cp q (by omega))).sr (Or.inl (Nat.le_refl _))).le (fun _ _ z => z) (Nat.le_refl _) (by omega))
    · show ycpy _ _ _ _ _ _ (w_sz w) 1 = 0
      rw [cp _ (by omega), (o4 _ (by omega)).2.1]; exact c2
    · show yur _ _ _ _ (w_sz w) 0 = _
      rw [yur_s, show w_sz w3 = w_sz w + 1 by omega]
    · refine Or.inl ?_
      rw [show w_sz w + 1 = w_sz w3 by omega]; exact kn4
    · intro i hi
      show ycpy _ _ _ _ _ _ (w_sz w + 1) i = _
      rw [show w_sz w + 1 = w_sz w3 by omega]
      show (if w_sz w3 = w_sz w3 ∧ (0 : Int) ≤ (i : Int) ∧ (i : Int) < 0 + ((l.length : Int) - 0) then w_iv w4 v (0 + ((i : Int) - 0)) else _) = _
      rw [if_pos ⟨rfl, by omega, by omega⟩, show (0 : Int) + ((i : Int) - 0) = (i : Int) by omega]
      exact vv4 i hi
theorem run_told {Q : Option Nat → yW → Prop} (hS : yS9 Y w) (hL : LR w p R S) (hR : SM R) (k : ∀ w1 q v, yG y0 6 821 w w1 → yTx w1 q v (yTt R (rn R).toNat) → (w_sz w ≤ q ∧ w_sz w ≤ v) ∧ (q < w_sz w1 ∧ v < w_sz w1) → Q (some q) w1) : yp (kf_LRun_told Y (some p)) Q w := by
  obtain ⟨hp, kp⟩ := (⟨hL.own.2, hL.many.1⟩ : p < w_sz w ∧ w_kd w p = (20, 0))
  obtain ⟨s, rs0, ks, vs, -, hs⟩ := hL.sets
  obtain ⟨bb, kk, r2, kb, r3, kk4, -, ⟨-, hbb⟩, ⟨-, hkk⟩, hrow⟩ := hL.rows
  have hYB : Y.1 ≤ w_sz w := hS.2.2.2
  have ht : ∀ i, 1 ≤ i → i ≤ 19 → w_kd w (y_ad Y i) = (36, 0) ∧ y_ad Y i < w_sz w := fun i h1 h2 => ⟨(hS.1 i h1 h2).1, by have := (hS.1 i h1 h2).2.1; omega⟩
  unfold kf_LRun_told
  refine yb_na ⟨by decide, by decide⟩ (fun w1 e1 => ?_)
  have z1 := e1.sz
  have t1 : ∀ i, 1 ≤ i → i ≤ 19 → w_kd w1 (y_ad Y i) = (36, 0) := fun i h1 h2 => (e1.old _ (by have := (ht i h1 h2).2; omega)).1.trans (ht i h1 h2).1
  have k1 : w_kd w1 (w_sz w) = (7, 8) := e1.kd
  refine yb_sr k1 (t1 1 (by decide) (by decide)) ⟨by decide, by decide⟩ (by decide) ?_
  refine yb_sr k1 (t1 2 (by decide) (by decide)) ⟨by decide, by decide⟩ (by decide) ?_
  refine yb_sr k1 (t1 3 (by decide) (by decide)) ⟨by decide, by decide⟩ (by decide) ?_
  refine yb_sr k1 (t1 4 (by decide) (by decide)) ⟨by decide, by decide⟩ (by decide) ?_
  refine yb_sr k1 (t1 5 (by decide) (by decide)) ⟨by decide, by decide⟩ (by decide) ?_
  refine yb_sr k1 (t1 6 (by decide) (by decide)) ⟨by decide, by decide⟩ (by decide) ?_
  refine yb_sr k1 (t1 7 (by decide) (by decide)) ⟨by decide, by decide⟩ (by decide) ?_
  refine yb_sr k1 (t1 8 (by decide) (by decide)) ⟨by decide, by decide⟩ (by decide) ?_
  generalize ew2 : y_rv _ _ = w2
  have L0 : w_sz w ≤ w_sz w := Nat.le_refl _
  have g2 : yG y0 1 8 w w2 := by
    subst ew2
    exact (((((((e1.g.sr (Or.inl L0)).sr (Or.inl L0)).sr (Or.inl L0)).sr (Or.inl L0)).sr (Or.inl L0)).sr (Or.inl L0)).sr (Or.inl L0)).sr (Or.inl L0)
  have z2 : w_sz w2 = w_sz w + 1 := by subst ew2; exact e1.sz
  have k2 : w_kd w2 (w_sz w) = (7, 8) := by subst ew2; exact k1
  have v2 : ∀ i : Nat, i < 8 → w_rv w2 (w_sz w) i = some (y_ad Y (i + 1)) := by
    subst ew2
    intro i i8
    simp only [yv_7]
    have : i = 0 ∨ i = 1 ∨ i = 2 ∨ i = 3 ∨ i = 4 ∨ i = 5 ∨ i = 6 ∨ i = 7 := by omega
    rcases this with rfl | rfl | rfl | rfl | rfl | rfl | rfl | rfl <;> simp [yur]
  clear ew2
  refine yb_P (yb_na ⟨by decide, by decide⟩ (fun w3 e3 => ?_))
  have z3 := e3.sz
  have t3 : ∀ i, 1 ≤ i → i ≤ 19 → w_kd w3 (y_ad Y i) = (36, 0) := fun i h1 h2 => by
    have q := ht i h1 h2
    rw [(e3.old _ (by omega)).1, (g2.at q.2 (fun z => z)).1]
    exact q.1
  have k3 : w_kd w3 (w_sz w2) = (7, 5) := e3.kd
  refine yb_sr k3 (t3 9 (by decide) (by decide)) ⟨by decide, by decide⟩ (by decide) ?_
  refine yb_sr k3 (t3 10 (by decide) (by decide)) ⟨by decide, by decide⟩ (by decide) ?_
  refine yb_sr k3 (t3 11 (by decide) (by decide)) ⟨by decide, by decide⟩ (by decide) ?_
  refine yb_sr k3 (t3 12 (by decide) (by decide)) ⟨by decide, by decide⟩ (by decide) ?_
  refine yb_sr k3 (t3 13 (by decide) (by decide)) ⟨by decide, by decide⟩ (by decide) ?_
  generalize ew4 : y_rv _ _ = w4
  have L2 : w_sz w ≤ w_sz w2 := by omega
  have g4 : yG y0 2 13 w w4 := by
    subst ew4
    exact (((((g2.trans (D' := y0) e3.g (fun _ _ z => z)).sr (Or.inl L2)).sr (Or.inl L2)).sr (Or.inl L2)).sr (Or.inl L2)).sr (Or.inl L2)
  have z4 : w_sz w4 = w_sz w2 + 1 := by subst ew4; exact e3.sz
  have k4 : w_kd w4 (w_sz w2) = (7, 5) := by subst ew4; exact k3
  have v4 : ∀ i : Nat, i < 5 → w_rv w4 (w_sz w2) i = some (y_ad Y (9 + i)) := by
    subst ew4
    intro i i8
    simp only [yv_7]
    have : i = 0 ∨ i = 1 ∨ i = 2 ∨ i = 3 ∨ i = 4 := by omega
    rcases this with rfl | rfl | rfl | rfl | rfl <;> simp [yur]
  have o2 : w_kd w4 (w_sz w) = (7, 8) ∧ ∀ i : Nat, i < 8 → w_rv w4 (w_sz w) i = some (y_ad Y (i + 1)) := by
    subst ew4
    have ne : w_sz w ≠ w_sz w2 := by omega
    refine ⟨(e3.old _ ne).1.trans k2, fun i i8 => ?_⟩
    simp only [yv_7, yur_at ne, (e3.old _ ne).2.2]
    exact v2 i i8
  clear ew4
  refine yb_P (yb_no (fun w5 e5 => yb_Kr (Or.inl (by rw [e5.kd])) ?_))
  have z5 := e5.sz
  have k5 : w_kd w5 (w_sz w4) = (21, 0) := e5.kd
  unfold kf_SB_init
  refine yb_Kr (Or.inl (by rw [k5])) ?_
  unfold kf_ASB_init
  refine yb_Nn (yb_R (by decide) (yp_ifF (by decide) (yb_na ⟨by decide, by decide⟩ (fun w6 e6 => ?_))))
  have z6 := e6.sz
  have s6 := e6.sl
  have ne5 : w_sz w4 ≠ w_sz w5 := by omega
  have k6 : w_kd w6 (w_sz w4) = (21, 0) := (e6.old _ ne5).1.trans k5
  have rf9 : w_sz w5 ≤ w_sz w6 ∧ w_sl w5 ≤ w_sl w6 := ⟨by omega, by omega⟩
  refine yb_pr k6 (yb_pz k6 (Or.inl rfl) (yp_P ⟨rf9, yp_P ⟨rf9, yb_P (yb_P ?_)⟩⟩))
  generalize ew7 : y_iv _ _ = w7
  have L4 : w_sz w ≤ w_sz w4 := by omega
  have T0 : TI Y w p R S (w_sz w) (w_sz w2) (w_sz w4) (w_sz w5) (yTs R 0) w7 := by
    have g7 : yG y0 4 417 w w7 := by
      subst ew7
      exact (((g4.trans (D' := y0) e5.g (fun _ _ z => z)).trans (D' := y0) e6.g (fun _ _ z => z)).sr (Or.inl L4)).st (Or.inl L4)
    have n0 : w_sz w ≠ w_sz w4 := by omega
    have n1 : w_sz w ≠ w_sz w5 := by omega
    have n2 : w_sz w2 ≠ w_sz w4 := by omega
    have n3 : w_sz w2 ≠ w_sz w5 := by omega
    have z7 : w_sz w7 = w_sz w6 := by subst ew7; rfl
    refine ⟨g7, hS.keep g7 (fun _ _ z => z), hYB, (hL.mono (S' := fun q => S q ∧ q < w_sz w) (fun q h1 h2 => ⟨h2, h1⟩)).keep g7 (fun _ _ _ z => z), ?_, ?_, ⟨?_, ?_, ?_, ?_, ?_, Nat.zero_le _, fun i hi => absurd hi (Nat.not_lt_zero _), fun x hx => absurd hx List.not_mem_nil⟩, ⟨by omega, by omega⟩, ⟨by omega, by omega, by omega, by omega⟩⟩
    · subst ew7
      refine ⟨(e6.old _ n1).1.trans ((e5.old _ n0).1.trans o2.1), fun i i8 => ?_⟩
      simp only [yv_2, yv_7, yur_at n0, (e6.old _ n1).2.2, (e5.old _ n0).2.2]
      exact o2.2 i i8
    · subst ew7
      refine ⟨(e6.old _ n3).1.trans ((e5.old _ n2).1.trans k4), fun i i8 => ?_⟩
      simp only [yv_2, yv_7, yur_at n2, (e6.old _ n3).2.2, (e5.old _ n2).2.2]
      exact v4 i i8
    · subst ew7; exact k6
    · subst ew7
      simp only [yv_2, yv_7, yur_s]
    · subst ew7; exact e6.kd
    · subst ew7; exact yu_s
    · subst ew7
      simp only [yv_1, yv_6, yu_n (show (3 : Int) ≠ 1 by decide), (e6.old _ ne5).2.1, e5.iv]
      rfl
  clear ew7
  refine yp_bind (R := fun _ w1 => TI Y w p R S (w_sz w) (w_sz w2) (w_sz w4) (w_sz w5) (yTs R 8) w1) ?_ (fun _ w8 T8 => yb_P ?_)
  · refine yp_Lp (fun s w1 => ∃ n : Nat, s = (n : Int) ∧ n ≤ 8 ∧ TI Y w p R S (w_sz w) (w_sz w2) (w_sz w4) (w_sz w5) (yTs R n) w1) (fun s _ => (8 - s).toNat) ⟨0, rfl, by decide, T0⟩ (fun s9 w1 hs9 => ?_)
    obtain ⟨n, rfl, n8, T⟩ := hs9
    have tl := yTs_len (R := R) n n8
    refine yb_R2 ⟨iR_small ⟨by omega, by omega⟩, by decide⟩ (yp_if (fun c => yp_P ?_) (fun c => ?_))
    · have : n = 8 := by omega
      rw [this] at T
      exact T
    · have w1l : (yWd (n + 1)).length ≤ 7 := yWd_len _ (by omega)
      have wsl : (if n = 0 then yWd 15 else yWd 14).length ≤ 1 := by split <;> decide
      refine yp_bind (R := fun r w3 => w3 = w1 ∧ r = some (y_ad Y (if n = 0 then 15 else 14))) ?_ (fun r w3 hr => ?_)
      · refine yb_R (iR_small ⟨by omega, by omega⟩) (yp_if (fun d => yp_P ⟨rfl, ?_⟩) (fun d => yp_P ⟨rfl, ?_⟩))
        · rw [if_pos (by omega)]
        · rw [if_neg (by omega)]
      · obtain ⟨rfl, rfl⟩ := hr
        have wi : yWd (if n = 0 then 15 else 14) = if n = 0 then yWd 15 else yWd 14 := by split <;> rfl
        refine ti_str T (by split <;> decide) (by rw [wi]; omega) (fun w4 T4 => ?_)
        rw [wi] at T4
        refine yb_lr T4.2.2.2.2.1.1 ⟨by omega, by omega⟩ (by decide) (T4.2.2.2.2.1.2 n (by omega)) ?_
        refine ti_str T4 ⟨by omega, by omega⟩ (by rw [List.length_append]; omega) (fun w5 T5 => ?_)
        refine ti_chr T5 (by decide) (by simp only [List.length_append]; omega) (fun w6 T6 => ?_)
        refine ti_gr T6 hp kp rs0 (ti_ld T6 hs ks ⟨by omega, by omega⟩ (by decide) (vs n (by omega) (by omega)) ?_)
        exact ti_int T6 (hR.2.1 n (by omega) (by omega)) (by simp only [List.length_append, List.length_cons, List.length_nil]; omega) (fun w7 T7 => yb_P (yp_P ⟨⟨n + 1, by omega, by omega, T7⟩, by omega⟩))
  · have n6 := hR.1
    refine yp_bind (R := fun _ w1 => TI Y w p R S (w_sz w) (w_sz w2) (w_sz w4) (w_sz w5) (yTt R (rn R).toNat) w1) ?_ (fun _ w9 T9 => ?_)
    · refine yp_Lp (fun s w1 => ∃ n : Nat, s = (n : Int) ∧ (n : Int) ≤ rn R ∧ TI Y w p R S (w_sz w) (w_sz w2) (w_sz w4) (w_sz w5) (yTt R n) w1) (fun s _ => (rn R - s).toNat) ⟨0, rfl, n6.1, T8⟩ (fun s9 w1 hs9 => ?_)
      obtain ⟨n, rfl, nn, T⟩ := hs9
      have tl := yTt_len hR n nn
      refine yb_gt ((T.at hp).1.trans kp) (v := rn R) (by rw [(T.at hp).2.1]; exact hL.many.2) (yb_R2 ⟨iR_small ⟨by omega, by omega⟩, iR_small ⟨by omega, by omega⟩⟩ (yp_if (fun c => yp_P ?_) (fun c => ?_)))
      · have : (rn R).toNat = n := by omega
        rw [this]
        exact T
      · obtain ⟨q, m, rq, rm, hB, hM, -, hq, hm⟩ := hrow n (by omega) (by omega)
        exact ti_block hp kp r2 hbb kb r3 hkk kk4 rq hq hB rm hm hM hR (by omega) (by omega) T (by omega) (fun w2 T2 => ⟨⟨n + 1, by omega, by omega, T2⟩, by omega⟩)
    · have tl := yTt_len hR (rn R).toNat (by omega)
      refine yb_Kr (Or.inl (by rw [T9.2.2.2.2.2.2.1.1])) (run_toString T9.2.2.2.2.2.2.1 T9.2.2.2.2.2.2.2.2.2.2 (by omega) (fun wz gz tz sz9 => ⟨⟨gz.2.1.1, gz.2.2.1.1⟩, yb_Nn (yp_P (k wz _ _ ?_ tz ?_))⟩))
      · exact T9.1.trans gz (fun _ _ z => z)
      · have := T9.1.2.1.1
        omega
end
