/-! ===== a RUN of the law's: counted, copied ===== -/
theorem LR.ext {w : yW} {p : Nat} {R R' : aRun} {S : Nat → Prop} (h : LR w p R S) (e0 : rn R' = rn R) (e1 : ∀ k, 0 ≤ k → k < 8 → rs R' k = rs R k) (e2 : ∀ b i, 0 ≤ b → b < rn R → (0 ≤ i ∧ i ≤ 8) ∨ i = 12 → rc R' b i = rc R b i) : LR w p R' S := by
  obtain ⟨c, h1, ⟨a0, a1, a2, a3, a4, a5, a6, a7⟩, h3, h4⟩ := h
  refine ⟨c, h1, ⟨by rw [e0]; exact a0, by rw [e0]; exact a1, ⟨a2.1, fun i i0 i8 => (a2.2 i i0 i8).trans (e1 i i0 i8).symm⟩, a3, a4, a5, fun j j0 jn => ?_, fun j k j0 jn k0 kn => a7 j k j0 (by omega) k0 (by omega)⟩, fun q hq => h3 q ?_, fun j j0 jn => h4 j j0 (by omega)⟩
  · rw [e0] at jn
    obtain ⟨g1, g2, g3, g4⟩ := a6 j j0 jn
    refine ⟨g1, g2, ⟨g3.1, fun i i0 i7 => (g3.2 i i0 i7).trans (e2 j i j0 jn (Or.inl ⟨i0, by omega⟩)).symm⟩, ?_⟩
    unfold LMk
    rw [e2 j 7 j0 jn (Or.inl ⟨by decide, by decide⟩), e2 j 8 j0 jn (Or.inl ⟨by decide, by decide⟩), e2 j 12 j0 jn (Or.inr rfl)]
    exact g4
  · unfold LOw at hq ⊢
    rw [e0] at hq
    exact hq
theorem run_pieces {Y : yY} {Q : Int → yW → Prop} {w : yW} {p : Nat} {R : aRun} {S : Nat → Prop} (hL : LR w p R S) (hR : ∀ j, 0 ≤ j → j < rn R → 0 ≤ rc R j 1 ∧ rc R j 1 ≤ 30) (h : Q (np R) w) : yp (kf_LRun_pieces Y (some p)) Q w := by
  obtain ⟨c, rfl, ⟨h0, ⟨h1, h2, h3, h4, h5⟩, -, h8, h9, h10, h11, h12⟩, -, -⟩ := hL
  unfold kf_LRun_pieces
  refine yb_P (yb_P ?_)
  refine yp_bind (R := fun r w1 => r = np R ∧ w1 = w) ?_ (fun r w1 hr => ?_)
  · refine yp_Lp (fun s w1 => (0 ≤ s.2 ∧ s.2 ≤ rn R) ∧ s.1 = fs R s.2 ∧ w1 = w) (fun s _ => (rn R - s.2).toNat) ⟨⟨by show (0 : Int) ≤ 0; omega, h0.1⟩, rfl, rfl⟩ (fun s w1 hs => ?_)
    obtain ⟨⟨s0, s1⟩, s2, rfl⟩ := hs
    refine yb_gt h1 h5 (yb_R2 ⟨iR_small ⟨by omega, by omega⟩, iR_small ⟨by omega, by omega⟩⟩ ?_)
    refine yp_if (fun c1 => ?_) (fun c1 => ?_)
    · have : s.2 = rn R := by omega
      refine yp_P ⟨?_, rfl⟩
      rw [s2, this]; rfl
    · have hj := h11 s.2 s0 (by omega)
      refine yb_gr h1 h3 (yb_lr h8 ⟨s0, by omega⟩ (by decide) hj.1 (yb_ld hj.2.2.1.1 ⟨by decide, by decide⟩ (by decide) (hj.2.2.1.2 1 (by decide) (by decide)) (yb_P (yb_P (yp_P ?_)))))
      refine ⟨⟨⟨?_, ?_⟩, ?_, rfl⟩, ?_⟩
      · show 0 ≤ s.2 + 1; omega
      · show s.2 + 1 ≤ rn R; omega
      · show s.1 + rc R s.2 1 = fs R (s.2 + 1)
        rw [fs_s s0, s2]
      · show (rn R - (s.2 + 1)).toNat < (rn R - s.2).toNat
        omega
  · obtain ⟨rfl, rfl⟩ := hr
    exact yp_P h
/-- where a copy stands: j BLOCKS of it are there -/
def CpI (w0 : yW) (R : aRun) (c : LC) (p s b k : Nat) (j : Int) (w : yW) : Prop :=
  yG y0 (4 + j.toNat) (46 + 7 * j.toNat) w0 w ∧ ((w_sz w0 ≤ p ∧ w_sz w0 ≤ s ∧ w_sz w0 ≤ b ∧ w_sz w0 ≤ k) ∧ (p < w_sz w ∧ s < w_sz w ∧ b < w_sz w ∧ k < w_sz w)) ∧
  (w_kd w p = (20, 0) ∧ w_rv w p 0 = some s ∧ w_rv w p 2 = some b ∧ w_rv w p 3 = some k ∧ w_iv w p 1 = rn R) ∧ (w_kd w s = (1, 8) ∧ ∀ i, 0 ≤ i → i < 8 → w_iv w s i = rs R i) ∧ w_kd w b = (4, 17) ∧ w_kd w k = (4, 17) ∧ b ≠ k ∧
  ∃ bl : Int → Nat, (∀ i, 0 ≤ i → i < j → w_rv w b i = some (bl i) ∧ w_rv w k i = some (c.2.2.2.2.2 i) ∧ LBk w (bl i) R i ∧ w_sz w0 ≤ bl i ∧ bl i < w_sz w) ∧ (∀ i l, 0 ≤ i → i < j → 0 ≤ l → l < j → bl i = bl l → i = l)
theorem cp_step {w0 w : yW} {R : aRun} {c : LC} {S : Nat → Prop} {p s b k : Nat} {j : Int} {Q : (Int ⊕ Unit) → yW → Prop} (hc : LRs w0 c R) (ho : ∀ q, LOw c R q → S q ∧ q < w_sz w0) (hm : ∀ j, 0 ≤ j → j < rn R → c.2.2.2.2.2 j < w_sz w0) (hI : CpI w0 R c p s b k j w) (j0 : 0 ≤ j) (jn : j < rn R) (h : ∀ w1, CpI w0 R c p s b k (j + 1) w1 → Q (Sum.inl (j + 1)) w1) :
    yp (yB (yGr 20 (some p) 2) fun x11 => yB (yGr 20 (some c.1) 2) fun x12 => yB (yLr 4 x12 j) fun x13 => yB (yCl x13) fun x14 => yB (yKd 1 x14) fun _ => yB (ySr 4 1 x11 j x14) fun _ => yB (yGr 20 (some p) 3) fun x15 => yB (yGr 20 (some c.1) 3) fun x16 => yB (yLr 4 x16 j) fun x17 => yB (ySr 4 1 x15 j x17) fun _ => yB (yP (j + 1)) fun x18 => yP (Sum.inl x18)) Q w := by
  obtain ⟨hG, ⟨⟨a1, a2, a3, a4⟩, b1, b2, b3, b4⟩, ⟨d1, d2, d3, d4, d5⟩, ⟨f1, f2⟩, f3, f4, f5, bl, g1, g2⟩ := hI
  have hl := hG.2.1.1
  have hcw : LRs w c R := hc.moved (fun q hq => ⟨hG.2.2.2.1 q (ho q hq).2, hG.2.2.2.2 q (ho q hq).2 (Or.inl fun z => z)⟩) (fun i i0 iN => ⟨hG.2.2.2.1 _ (hm i i0 iN), (hG.2.2.2.2 _ (hm i i0 iN) (Or.inl fun z => z)).1⟩)
  obtain ⟨k0, ⟨k1, k2, k3, k4, k5⟩, -, k8, k9, k10, k11, k12⟩ := hcw
  obtain ⟨m1, m2, m3, m4⟩ := k11 j j0 jn
  have o3 := (ho _ (Or.inr (Or.inr (Or.inr (Or.inl rfl))))).2
  have o1 := (ho _ (Or.inl rfl)).2
  have om := hm j j0 jn
  obtain ⟨nm, hnm⟩ : ∃ n, w_kd w (c.2.2.2.2.2 j) = (1, n) := by
    rcases m4 with m | m
    · exact ⟨0, m.1⟩
    · exact ⟨2, m.1⟩
  refine yb_gr d1 d3 (yb_gr k1 k3 (yb_lr k8 ⟨j0, by omega⟩ (by decide) m1 (yb_cl m3.1 (fun w1 e1 => ?_))))
  have z1 := e1.sz
  have kd1 : ∀ q, q < w_sz w → w_kd w1 q = w_kd w q := fun q hq => (e1.old q (by omega)).1
  have iv1 : ∀ q, q < w_sz w → w_iv w1 q = w_iv w q := fun q hq => (e1.old q (by omega)).2.1
  have rv1 : ∀ q, q < w_sz w → w_rv w1 q = w_rv w q := fun q hq => (e1.old q (by omega)).2.2
  refine yb_Kd e1.kd (yb_sr ((kd1 b b3).trans f3) e1.kd ⟨j0, by omega⟩ (by decide) ?_)
  have hpb : p ≠ b := fun e => by rw [e, f3] at d1; cases d1
  have hpk : p ≠ k := fun e => by rw [e, f4] at d1; cases d1
  have hc3b : c.2.2.2.1 ≠ b := by omega
  have hc1b : c.1 ≠ b := by omega
  refine yb_gr ((kd1 p b1).trans d1) (r := some k) ?_ (yb_gr ((kd1 c.1 (by omega)).trans k1) (r := some c.2.2.2.1) ?_ (yb_lr ((kd1 _ (by omega)).trans k9) ⟨j0, by omega⟩ (by decide) (r := some (c.2.2.2.2.2 j)) ?_ (yb_sr ((kd1 k b4).trans f4) ((kd1 _ (by omega)).trans hnm) ⟨j0, by omega⟩ (by decide) (yb_P (yp_P (h _ ?_))))))
  · show yur _ b j _ p 3 = _
    rw [yur_at hpb, rv1 p b1]; exact d4
  · show yur _ b j _ c.1 3 = _
    rw [yur_at hc1b, rv1 _ (by omega)]; exact k4
  · show yur _ b j _ c.2.2.2.1 j = _
    rw [yur_at hc3b, rv1 _ (by omega)]; exact m2
  · have gG : yG y0 (4 + j.toNat + 1) (46 + 7 * j.toNat + 7) w0 w1 := hG.trans e1.g (fun _ _ z => z)
    have rvp : ∀ q, q ≠ b → q ≠ k → ∀ (x y : Option Nat), yur (yur (w_rv w1) b j x) k j y q = w_rv w1 q := fun q q1 q2 x y => by rw [yur_at q2, yur_at q1]
    refine ⟨((gG.sr (Or.inl a3)).sr (Or.inl a4)).le (fun _ _ z => z) (by omega) (by omega), ⟨⟨a1, a2, a3, a4⟩, ?_, ?_, ?_, ?_⟩, ⟨(kd1 p b1).trans d1, ?_, ?_, ?_, ?_⟩, ⟨(kd1 s b2).trans f1, fun i i0 i8 => ?_⟩, (kd1 b b3).trans f3, (kd1 k b4).trans f4, f5, fun i => if i = j then w_sz w else bl i, fun i i0 ij => ?_, fun i l i0 ij l0 lj e => ?_⟩
    · show p < w_sz w1; omega
    · show s < w_sz w1; omega
    · show b < w_sz w1; omega
    · show k < w_sz w1; omega
    · show yur (yur _ _ _ _) _ _ _ p 0 = _
      rw [rvp p hpb hpk, rv1 p b1]; exact d2
    · show yur (yur _ _ _ _) _ _ _ p 2 = _
      rw [rvp p hpb hpk, rv1 p b1]; exact d3
    · show yur (yur _ _ _ _) _ _ _ p 3 = _
      rw [rvp p hpb hpk, rv1 p b1]; exact d4
    · show w_iv w1 p 1 = _
      rw [iv1 p b1]; exact d5
    · show w_iv w1 s i = _
      rw [iv1 s b2]; exact f2 i i0 i8
    · show yur (yur _ _ _ _) _ _ _ b i = _ ∧ yur (yur _ _ _ _) _ _ _ k i = _ ∧ LBk w1 _ R i ∧ _ ∧ _ < w_sz w1
      rw [yur_at f5]
      by_cases ci : i = j
      · subst ci
        dsimp only
        rw [yur_s, yur_s, if_pos rfl]
        refine ⟨rfl, rfl, ⟨e1.kd, fun x x0 x7 => ?_⟩, hl, by omega⟩
        rw [e1.iv]
        exact m3.2 x x0 x7
      · obtain ⟨q1, q2, q3, q4, q5⟩ := g1 i i0 (by omega)
        dsimp only
        rw [yur_n ci, yur_n ci, if_neg ci, yur_at (Ne.symm f5), rv1 b b3, rv1 k b4]
        refine ⟨q1, q2, ⟨(kd1 _ q5).trans q3.1, fun x x0 x7 => ?_⟩, q4, by omega⟩
        rw [iv1 _ q5]
        exact q3.2 x x0 x7
    · dsimp only at e
      by_cases ci : i = j
      · by_cases cl : l = j
        · omega
        · rw [if_pos ci, if_neg cl] at e
          have := (g1 l l0 (by omega)).2.2.2.2
          omega
      · by_cases cl : l = j
        · rw [if_neg ci, if_pos cl] at e
          have := (g1 i i0 (by omega)).2.2.2.2
          omega
        · rw [if_neg ci, if_neg cl] at e
          exact g2 i l i0 (by omega) l0 (by omega) e
theorem run_copy {Y : yY} {Q : Option Nat → yW → Prop} {w : yW} {p : Nat} {R : aRun} {S : Nat → Prop} (hL : LR w p R S) (h : ∀ w1, yG y0 20 158 w w1 → LR w1 (w_sz w) R (fun q => w_sz w ≤ q) → Q (some (w_sz w)) w1) : yp (kf_LRun_copy Y (some p)) Q w := by
  obtain ⟨c, rfl, hc, ho, hm⟩ := hL
  unfold kf_LRun_copy
  refine yb_no (fun w1 e1 => yb_Kr (Or.inl (by rw [e1.kd])) (run_init e1.kd (by have := e1.sz; omega) (by rw [e1.iv]) (fun w2 g2 l2 => ⟨⟨g2.2.1.1, g2.2.2.1.1⟩, ?_⟩)))
  have z1 := e1.sz
  have z2 := g2.2.1
  obtain ⟨c2, hc2, ⟨-, ⟨d1, d2, d3, d4, -⟩, ⟨f1, -⟩, f3, f4, f5, -, -⟩, o2, -⟩ := l2
  have G2 : yG y0 4 46 w w2 := by
    refine (e1.g.trans (D' := fun q => q = w_sz w) g2 (fun q hq e => by omega)).le (fun _ _ z => z) (by omega) (by decide)
  have hcw : LRs w2 c R := hc.moved (fun q hq => ⟨G2.2.2.2.1 q (ho q hq).2, G2.2.2.2.2 q (ho q hq).2 (Or.inl fun z => z)⟩) (fun i i0 iN => ⟨G2.2.2.2.1 _ (hm i i0 iN), (G2.2.2.2.2 _ (hm i i0 iN) (Or.inl fun z => z)).1⟩)
  have hn := hcw.1
  have q1 := o2 _ (Or.inl rfl)
  have q2 := o2 _ (Or.inr (Or.inl rfl))
  have q3 := o2 _ (Or.inr (Or.inr (Or.inl rfl)))
  have q4 := o2 _ (Or.inr (Or.inr (Or.inr (Or.inl rfl))))
  have oc1 := (ho _ (Or.inl rfl)).2
  have oc2 := (ho _ (Or.inr (Or.inl rfl))).2
  obtain ⟨k0, ⟨k1, k2, k3, k4, k5⟩, ⟨k6, k7⟩, k8, k9, k10, k11, k12⟩ := hcw
  rw [hc2] at d1 d2 d3 d4 q1
  have hps : w_sz w ≠ c2.2.1 := fun e => by rw [← e, d1] at f1; cases f1
  have s2 : w_sz w ≤ c2.2.1 := by rcases q2.1 with e | e <;> omega
  have s3 : w_sz w ≤ c2.2.2.1 := by rcases q3.1 with e | e <;> omega
  have s4 : w_sz w ≤ c2.2.2.2.1 := by rcases q4.1 with e | e <;> omega
  refine yb_P (yb_gr k1 k2 (yb_gr d1 d2 (yb_cp (Or.inl k6) f1 (by omega) ⟨by decide, by decide, by decide⟩ ⟨by decide, by decide⟩ ⟨by decide, by decide⟩ (fun e => by cases e) ?_)))
  have hcs : c.1 ≠ c2.2.1 := by omega
  have cpat : ∀ q, q ≠ c2.2.1 → ycpy (w_iv w2) c.2.1 c2.2.1 0 0 8 q = w_iv w2 q := fun q hq => funext fun _ => if_neg (fun e => hq e.1)
  refine yb_gt k1 (v := rn R) ?_ (yb_pt d1 (yb_P ?_))
  · show ycpy _ _ _ _ _ _ c.1 1 = _
    rw [cpat _ hcs]; exact k5
  generalize ew3 : y_iv (y_iv w2 _) _ = w3
  have hI : CpI w R c (w_sz w) c2.2.1 c2.2.2.1 c2.2.2.2.1 0 w3 := by
    subst ew3
    refine ⟨?_, ⟨⟨Nat.le_refl _, s2, s3, s4⟩, q1.2, q2.2, q3.2, q4.2⟩, ⟨d1, d2, d3, d4, yu_s⟩, ⟨f1, fun i i0 i8 => ?_⟩, f3, f4, f5, fun _ => 0, fun i i0 i1 => by omega, fun i l i0 i1 => by omega⟩
    · refine yG.st (yG.iv G2 (fun q h1 h2 => cpat q (by omega))) (Or.inl (Nat.le_refl _))
    · show iu (ycpy _ _ _ _ _ _) (w_sz w) 1 _ c2.2.1 i = _
      rw [yu_at (Ne.symm hps)]
      show (if c2.2.1 = c2.2.1 ∧ (0 : Int) ≤ i ∧ i < 0 + 8 then w_iv w2 c.2.1 (0 + (i - 0)) else _) = _
      rw [if_pos ⟨rfl, i0, by omega⟩, show (0 : Int) + (i - 0) = i by omega]
      exact k7 i i0 i8
  clear ew3
  refine yp_bind (R := fun _ w1 => CpI w R c (w_sz w) c2.2.1 c2.2.2.1 c2.2.2.2.1 (rn R) w1) ?_ (fun r w1 hr => ?_)
  · refine yp_Lp (fun (j : Int) w1 => (0 ≤ j ∧ j ≤ rn R) ∧ CpI w R c (w_sz w) c2.2.1 c2.2.2.1 c2.2.2.2.1 j w1) (fun j _ => (rn R - j).toNat) ⟨⟨Int.le_refl _, hn.1⟩, hI⟩ (fun j w1 hs => ?_)
    obtain ⟨⟨j0, j1⟩, hj⟩ := hs
    have hG := hj.1
    have t1 : w_kd w1 c.1 = (20, 0) := (hG.2.2.2.1 _ oc1).trans hc.2.1.1
    have t2 : w_iv w1 c.1 1 = rn R := by rw [(hG.2.2.2.2 _ oc1 (Or.inl fun z => z)).1]; exact hc.2.1.2.2.2.2
    refine yb_gt t1 t2 (yb_R2 ⟨iR_small ⟨by omega, by omega⟩, iR_small ⟨by omega, by omega⟩⟩ (yp_if (fun c1 => ?_) (fun c1 => ?_)))
    · refine yp_P ?_
      have : j = rn R := by omega
      rw [this] at hj
      exact hj
    · exact cp_step hc ho hm hj j0 (by omega) (fun w4 h4 => ⟨⟨⟨by omega, by omega⟩, h4⟩, by omega⟩)
  · obtain ⟨hG, ⟨⟨a1, a2, a3, a4⟩, b1, b2, b3, b4⟩, h3, h4, h5, h6, h7, bl, g1, g2⟩ := hr
    refine yb_Nn (yp_P (h _ (hG.le (fun _ _ z => z) (by omega) (by omega)) ⟨(w_sz w, c2.2.1, c2.2.2.1, c2.2.2.2.1, bl, c.2.2.2.2.2), rfl, ⟨hn, h3, h4, h5, h6, h7, fun j j0 jn => ?_, g2⟩, fun q hq => ?_, fun j j0 jn => ?_⟩))
    · obtain ⟨q1, q2, q3, q4, q5⟩ := g1 j j0 jn
      refine ⟨q1, q2, q3, ?_⟩
      have e := hG.2.2.2.2 _ (hm j j0 jn) (Or.inl fun z => z)
      have e' := hG.2.2.2.1 _ (hm j j0 jn)
      have := (hc.2.2.2.2.2.2.1 j j0 jn).2.2.2
      unfold LMk at this ⊢
      rw [e', e.1]
      exact this
    · rcases hq with rfl | rfl | rfl | rfl | ⟨j, j0, jn, rfl⟩
      · exact ⟨a1, b1⟩
      · exact ⟨a2, b2⟩
      · exact ⟨a3, b3⟩
      · exact ⟨a4, b4⟩
      · exact ⟨(g1 j j0 jn).2.2.2.1, (g1 j j0 jn).2.2.2.2⟩
    · have := hm j j0 jn
      have := hG.2.1.1
      show c.2.2.2.2.2 j < w_sz w1
      omega
