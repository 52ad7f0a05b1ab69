/-! ===== a text told to the object ===== -/
theorem yG.κ {D : Nat → Prop} {a b : Nat} {w w1 : yW} (κ : iMem) (h : yG D a b w w1) : yG D a b (κ, w.2) (κ, w1.2) := ⟨rfl, h.2⟩
theorem yG.then {D D' : Nat → Prop} {a b a' b' : Nat} {w w1 w2 : yW} (h : yG D a b w (w.1, w1.2)) (h' : yG D' a' b' w1 w2) (hD : ∀ q, q < w_sz w → D' q → D q) : yG D (a + a') (b + b') w (w.1, w2.2) := h.trans (h'.κ w.1) hD
def lc (l : List Int) (j : Int) : Int := l.getD j.toNat 0
def pa (c : Int → Int) (k m : Int) : Nat → Int
  | 0 => 0
  | t + 1 => 256 * pa c k m t + c (k + 4 * m + t)
theorem pa_in {c : Int → Int} {k m : Int} (hc : ∀ j, 0 ≤ c j ∧ c j ≤ 127) : 0 ≤ pa c k m 3 ∧ pa c k m 3 < 8388608 ∧ 0 ≤ pa c k m 2 ∧ pa c k m 2 < 8388608 ∧ 0 ≤ pa c k m 1 ∧ pa c k m 1 < 8388608 := by
  have h0 := hc (k + 4 * m + (0 : Nat))
  have h1 := hc (k + 4 * m + (1 : Nat))
  have h2 := hc (k + 4 * m + (2 : Nat))
  unfold pa pa pa pa
  omega
theorem pa_4 {c : Int → Int} {k m : Int} : pa c k m 4 = pk4 (c (k + 4 * m)) (c (k + 4 * m + 1)) (c (k + 4 * m + 2)) (c (k + 4 * m + 3)) := by
  unfold pa pa pa pa pa pk4
  rw [show k + 4 * m + ((0 : Nat) : Int) = k + 4 * m by omega]
  show 256 * (256 * (256 * (256 * 0 + c (k + 4 * m)) + c (k + 4 * m + 1)) + c (k + 4 * m + 2)) + c (k + 4 * m + 3) = _
  omega
def paI (c : Int → Int) (k i m : Int) : Int := if i ≤ 4 * m then 0 else if 4 * m + 4 ≤ i then pa c k m 4 else pa c k m (i - 4 * m).toNat
theorem paI_s {c : Int → Int} {k i m : Int} (h : 4 * m ≤ i ∧ i < 4 * m + 4) : paI c k (i + 1) m = 256 * paI c k i m + c (k + i) := by
  obtain ⟨t, ht⟩ : ∃ t : Nat, i = 4 * m + t := ⟨(i - 4 * m).toNat, by omega⟩
  have e1 : paI c k (i + 1) m = pa c k m (t + 1) := by
    unfold paI
    rw [if_neg (by omega)]
    by_cases z : 4 * m + 4 ≤ i + 1
    · rw [if_pos z, show t + 1 = 4 by omega]
    · rw [if_neg z, show (i + 1 - 4 * m).toNat = t + 1 by omega]
  have e2 : paI c k i m = pa c k m t := by
    unfold paI
    by_cases z : i ≤ 4 * m
    · rw [if_pos z, show t = 0 by omega]; rfl
    · rw [if_neg z, if_neg (by omega), show (i - 4 * m).toNat = t by omega]
  rw [e1, e2, ht]
  show 256 * pa c k m t + c (k + 4 * m + t) = _
  rw [show k + 4 * m + (t : Int) = k + (4 * m + t) by omega]
theorem paI_in {c : Int → Int} {k i m : Int} (hc : ∀ j, 0 ≤ c j ∧ c j ≤ 127) (h : 4 * m ≤ i ∧ i < 4 * m + 4) : 0 ≤ paI c k i m ∧ paI c k i m < 8388608 := by
  have := pa_in (k := k) (m := m) hc
  unfold paI
  by_cases z : i ≤ 4 * m
  · rw [if_pos z]; omega
  · rw [if_neg z, if_neg (by omega)]
    have : (i - 4 * m).toNat = 1 ∨ (i - 4 * m).toNat = 2 ∨ (i - 4 * m).toNat = 3 := by omega
    rcases this with e | e | e <;> rw [e] <;> omega
theorem fe_lc {c : Int → Int} {L j : Int} {T : Int → Int} (hc : ∀ j, 0 ≤ c j ∧ c j ≤ 127) (h : L ≤ j ∧ j < L + 20) : feT L T (pa c L 0 4) (pa c L 1 4) (pa c L 2 4) (pa c L 3 4) (pa c L 4 4) j = c j := by
  obtain ⟨m, t, m0, m5, t0, t4, rfl⟩ : ∃ m t : Int, 0 ≤ m ∧ m < 5 ∧ 0 ≤ t ∧ t < 4 ∧ j = L + (4 * m + t) := ⟨(j - L) / 4, (j - L) % 4, by omega, by omega, by omega, by omega, by omega⟩
  have ef : fdV (pa c L 0 4) (pa c L 1 4) (pa c L 2 4) (pa c L 3 4) (pa c L 4 4) (4 * m + t) = pa c L m 4 := by
    unfold fdV
    have : m = 0 ∨ m = 1 ∨ m = 2 ∨ m = 3 ∨ m = 4 := by omega
    rcases this with rfl | rfl | rfl | rfl | rfl
    · rw [if_pos (by omega)]
    · rw [if_neg (by omega), if_pos (by omega)]
    · rw [if_neg (by omega), if_neg (by omega), if_pos (by omega)]
    · rw [if_neg (by omega), if_neg (by omega), if_neg (by omega), if_pos (by omega)]
    · rw [if_neg (by omega), if_neg (by omega), if_neg (by omega), if_neg (by omega)]
  unfold feT
  rw [if_neg (by omega), show L + (4 * m + t) - L = 4 * m + t by omega, ef, pa_4, show (4 * m + t) % 4 = t by omega]
  obtain ⟨b1, b2, b3, b4⟩ := by_pk (hc (L + 4 * m)) (hc (L + 4 * m + 1)) (hc (L + 4 * m + 2)) (hc (L + 4 * m + 3))
  have : t = 0 ∨ t = 1 ∨ t = 2 ∨ t = 3 := by omega
  rcases this with rfl | rfl | rfl | rfl
  · exact b1.trans (congrArg c (by omega))
  · exact b2.trans (congrArg c (by omega))
  · exact b3.trans (congrArg c (by omega))
  · exact b4.trans (congrArg c (by omega))
theorem yTx.keep {D : Nat → Prop} {a b q v : Nat} {w w1 : yW} {l : List Int} (h : yTx w q v l) (hq : q < w_sz w ∧ v < w_sz w) (hG : yG D a b w w1) (hD : ¬ D q ∧ ¬ D v) : yTx w1 q v l :=
  h.moved (hG.at hq.1 hD.1) ⟨(hG.at hq.2 hD.2).1, (hG.at hq.2 hD.2).2.1⟩
theorem run_says {Y : yY} {Q : Int → yW → Prop} {w : yW} {q v : Nat} {l : List Int} {R : aRun} {H : Nat → aRun} {n : Nat} {x : Int} {K : Int → aRun} {f : Int → Int} {T0 : Int → Int} (hc : cI R H n x K f 0 T0 w.1) (ht : yTx w q v l) (hq : q < w_sz w ∧ v < w_sz w) (hl : l.length ≤ 400) (k : ∀ w1 x1 T, yG y0 20 100 w (w.1, w1.2) → cI R H n x1 K f (l.length : Int) T w1.1 → (∀ j, 0 ≤ j → j < (l.length : Int) → T j = lc l j) → Q 1 w1) : yp (kf_Law_says Y (some q)) Q w := by
  have hle : ∀ j, 0 ≤ lc l j ∧ lc l j ≤ 127 := fun j => yLe_at ht.2.2.2.2.2.2 j.toNat
  unfold kf_Law_says
  refine yb_P (yb_P ?_)
  refine yp_bind (R := fun r w1 => (l.length : Int) ≤ r ∧ ∃ x1 T, yG y0 20 100 w (w.1, w1.2) ∧ cI R H n x1 K f r T w1.1 ∧ ∀ j, 0 ≤ j → j < (l.length : Int) → T j = lc l j) ?_ (fun r w1 hr => ?_)
  · refine yp_Lp (fun s w1 => ∃ (i : Nat) (x1 : Int) (T : Int → Int), s = ((20 * i : Int), (20 * i : Int)) ∧ 20 * i ≤ l.length + 19 ∧ yG y0 i (5 * i) w (w.1, w1.2) ∧ cI R H n x1 K f (20 * (i : Int)) T w1.1 ∧ ∀ j : Int, 0 ≤ j → j < 20 * (i : Int) → j < (l.length : Int) → T j = lc l j) (fun s _ => (500 - s.2).toNat) ⟨0, x, T0, rfl, by omega, yG.refl, hc, fun j j0 j1 => by omega⟩ (fun s w1 hs => ?_)
    obtain ⟨i, x1, T, rfl, hi, hG, hI, hT⟩ := hs
    have ht1 : yTx w1 q v l := ht.keep (D := y0) (w1 := (w.1, w1.2)) hq hG ⟨fun z => z, fun z => z⟩
    have sz1 : w_sz w ≤ w_sz w1 := hG.2.1.1
    refine yb_Kr (ht1.1.imp id (fun e => ⟨rfl, e⟩)) (tx_length ht1 ⟨⟨Nat.le_refl _, Nat.le_refl _⟩, yb_R2 ⟨iR_small ⟨by show _ ≤ (20 * i : Int); omega, by show (20 * i : Int) ≤ _; omega⟩, iR_small ⟨by omega, by omega⟩⟩ (yp_if (fun c => yp_P ?_) (fun c => ?_))⟩)
    · have c' : (l.length : Int) ≤ 20 * i := c
      exact ⟨c', x1, T, hG.le (fun _ _ z => z) (by omega) (by omega), hI, fun j j0 j1 => hT j j0 (by omega) j1⟩
    · have c' : ¬ (l.length : Int) ≤ 20 * i := c
      refine yb_na ⟨by decide, by decide⟩ (fun w2 e2 => yb_P (yb_P ?_))
      have z2 := e2.sz
      have k2 : w_kd w2 (w_sz w1) = (1, 5) := e2.kd
      have hG2 : yG y0 (i + 1) (5 * i + 5) w (w.1, w2.2) := hG.then e2.g (fun _ _ z => z)
      refine yp_bind (R := fun _ w3 => yG y0 (i + 1) (5 * i + 5) w (w.1, w3.2) ∧ w3.1 = w1.1 ∧ w_sz w3 = w_sz w2 ∧ w_sl w3 = w_sl w2 ∧ w_kd w3 (w_sz w1) = (1, 5) ∧ ∀ m, 0 ≤ m → m < 5 → w_iv w3 (w_sz w1) m = pa (lc l) (20 * i) m 4) ?_ (fun _ w3 h3 => ?_)
      · refine yp_Lp (fun s w3 => (0 ≤ s ∧ s ≤ 20) ∧ yG y0 (i + 1) (5 * i + 5) w (w.1, w3.2) ∧ w3.1 = w1.1 ∧ w_sz w3 = w_sz w2 ∧ w_sl w3 = w_sl w2 ∧ w_kd w3 (w_sz w1) = (1, 5) ∧ ∀ m, 0 ≤ m → m < 5 → w_iv w3 (w_sz w1) m = paI (lc l) (20 * i) s m) (fun s _ => (20 - s).toNat) ⟨⟨Int.le_refl _, by decide⟩, hG2, e2.κ, rfl, rfl, k2, fun m m0 m5 => by rw [e2.iv]; unfold paI; rw [if_pos (by omega)]⟩ (fun s w3 hs => ?_)
        obtain ⟨⟨s0, s20⟩, hG3, hκ, z3, l3, k3, v3⟩ := hs
        refine yb_R2 ⟨iR_small ⟨by omega, by omega⟩, by decide⟩ (yp_if (fun d => yp_P ?_) (fun d => ?_))
        · have : s = 20 := by omega
          subst this
          refine ⟨hG3, hκ, z3, l3, k3, fun m m0 m5 => ?_⟩
          rw [v3 m m0 m5]
          unfold paI
          rw [if_neg (by omega), if_pos (by omega)]
        · have ed : s.tdiv 4 = s / 4 := Int.tdiv_eq_ediv_of_nonneg s0
          have ht3 : yTx w3 q v l := ht.keep (D := y0) (w1 := (w.1, w3.2)) hq hG3 ⟨fun z => z, fun z => z⟩
          refine yb_Dv ⟨⟨iR_small ⟨by omega, by omega⟩, by decide⟩, by decide, by decide⟩ (yb_Dv ⟨⟨iR_small ⟨by omega, by omega⟩, by decide⟩, by decide, by decide⟩ ?_)
          rw [ed]
          refine yb_ld k3 ⟨by omega, by omega⟩ (by decide) (v3 (s / 4) (by omega) (by omega)) (yb_Kr (ht3.1.imp id (fun e => ⟨rfl, e⟩)) (tx_length ht3 ⟨⟨Nat.le_refl _, Nat.le_refl _⟩, ?_⟩))
          refine yp_bind (R := fun r w4 => r = lc l (20 * i + s) ∧ w4 = w3) ?_ (fun r w4 hr => ?_)
          · refine yb_R2 ⟨iR_small ⟨by show _ ≤ (20 * i : Int) + s; omega, by show (20 * i : Int) + s ≤ _; omega⟩, iR_small ⟨by omega, by omega⟩⟩ (yp_if (fun e => yp_P ⟨?_, rfl⟩) (fun e => ?_))
            · have e' : (l.length : Int) ≤ 20 * i + s := e
              unfold lc
              rw [List.getD_eq_getElem?_getD, List.getElem?_eq_none (by omega)]
              rfl
            · have e' : ¬ (l.length : Int) ≤ 20 * i + s := e
              exact yb_Kr (ht3.1.imp id (fun e => ⟨rfl, e⟩)) (tx_charAt ht3 ⟨by show (0 : Int) ≤ 20 * i + s; omega, by show (20 * i : Int) + s < _; omega⟩ ⟨⟨Nat.le_refl _, Nat.le_refl _⟩, yp_P ⟨rfl, rfl⟩⟩)
          · obtain ⟨rfl, rfl⟩ := hr
            have pin := paI_in (k := 20 * i) (i := s) (m := s / 4) hle ⟨by omega, by omega⟩
            have lin := hle (20 * i + s)
            rw [ybPk pin ⟨lin.1, by omega⟩]
            refine yb_st k3 ⟨by omega, by omega⟩ (by decide) (yb_P (yp_P ⟨⟨⟨by omega, by omega⟩, ?_, hκ, z3, l3, k3, fun m m0 m5 => ?_⟩, by omega⟩))
            · exact hG3.st (w1 := (w.1, w4.2)) (Or.inl sz1)
            · show iu _ _ _ _ (w_sz w1) m = _
              by_cases em : m = s / 4
              · rw [em, yu_s, paI_s ⟨by omega, by omega⟩]
              · rw [yu_n em, v3 m m0 m5]
                unfold paI
                by_cases lo : s ≤ 4 * m
                · rw [if_pos lo, if_pos (by omega)]
                · rw [if_neg lo, if_pos (by omega), if_neg (by omega), if_pos (by omega)]
      · obtain ⟨hG3, hκ, z3, l3, k3, v3⟩ := h3
        have iRp : ∀ m, iR (pa (lc l) (20 * i) m 4) := fun m => by
          rw [pa_4]
          have a0 := hle (20 * i + 4 * m)
          have a1 := hle (20 * i + 4 * m + 1)
          have a2 := hle (20 * i + 4 * m + 2)
          have a3 := hle (20 * i + 4 * m + 3)
          unfold pk4 iR
          omega
        refine yb_ld k3 (by decide) (by decide) (v3 0 (by decide) (by decide)) (yb_ld k3 (by decide) (by decide) (v3 1 (by decide) (by decide)) (yb_ld k3 (by decide) (by decide) (v3 2 (by decide) (by decide)) (yb_ld k3 (by decide) (by decide) (v3 3 (by decide) (by decide)) (yb_ld k3 (by decide) (by decide) (v3 4 (by decide) (by decide)) (yb_C (fun z hz => ?_) ?_)))))
        · simp only [List.mem_cons, List.not_mem_nil, or_false] at hz
          rcases hz with rfl | rfl | rfl | rfl | rfl <;> exact iRp _
        · rw [hκ]
          refine ip_mono (ca_feed hI _ _ _ _ _ (S := fun r R' H' n' K' f' L' T' => r = 20 * i + 20 ∧ R' = R ∧ H' = H ∧ n' = n ∧ K' = K ∧ f' = f ∧ L' = 20 * i + 20 ∧ T' = feT (20 * i) T (pa (lc l) (20 * i) 0 4) (pa (lc l) (20 * i) 1 4) (pa (lc l) (20 * i) 2 4) (pa (lc l) (20 * i) 3 4) (pa (lc l) (20 * i) 4 4)) (fun _ => ⟨rfl, rfl, rfl, rfl, rfl, rfl, rfl, rfl⟩) (fun z => absurd (show (20 * i : Int) ≤ 380 by omega) z)) (fun r κ1 hr => ?_)
          obtain ⟨R', H', n', x', K', f', L', T', ⟨rfl, rfl, rfl, rfl, rfl, rfl, rfl, rfl⟩, hI'⟩ := hr
          refine yb_P (yb_P (yp_P ⟨⟨i + 1, x', feT (20 * i) T (pa (lc l) (20 * i) 0 4) (pa (lc l) (20 * i) 1 4) (pa (lc l) (20 * i) 2 4) (pa (lc l) (20 * i) 3 4) (pa (lc l) (20 * i) 4 4), ?_, by omega, ?_, ?_, fun j j0 j1 j2 => ?_⟩, ?_⟩))
          · show ((20 * i + 20 : Int), (20 * i + 20 : Int)) = _
            rw [show (20 * ((i + 1 : Nat) : Int)) = 20 * i + 20 by omega]
          · exact hG3.le (fun _ _ z => z) (Nat.le_refl _) (by omega)
          · rw [show (20 * ((i + 1 : Nat) : Int)) = 20 * i + 20 by omega]; exact hI'
          · by_cases jl : j < 20 * i
            · unfold feT
              rw [if_pos jl]
              exact hT j j0 jl j2
            · exact fe_lc hle ⟨by omega, by omega⟩
          · show (500 - (20 * i + 20 : Int)).toNat < (500 - (20 * i : Int)).toNat
            omega
  · obtain ⟨hlr, x1, T, hG, hI, hT⟩ := hr
    have ht1 : yTx w1 q v l := ht.keep (D := y0) (w1 := (w.1, w1.2)) hq hG ⟨fun z => z, fun z => z⟩
    have hr400 : 0 ≤ r ∧ r ≤ 400 := hI.2.1.2.2.2.1
    have rf : w_sz w1 ≤ w_sz w1 ∧ w_sl w1 ≤ w_sl w1 := ⟨Nat.le_refl _, Nat.le_refl _⟩
    refine yb_Kr (ht1.1.imp id (fun e => ⟨rfl, e⟩)) (tx_length ht1 ⟨rf, yb_R2 ⟨iR_small ⟨by omega, by omega⟩, iR_small ⟨by omega, by omega⟩⟩ (yp_ifF (by omega) (yb_Kr (ht1.1.imp id (fun e => ⟨rfl, e⟩)) (tx_length ht1 ⟨rf, yb_C (fun z hz => ?_) ?_⟩)))⟩)
    · simp only [List.mem_cons, List.not_mem_nil, or_false] at hz
      rw [hz]
      exact iR_small ⟨by omega, by omega⟩
    · refine ip_mono (ca_end hI (l.length : Int) (S := fun r' R' H' n' K' f' L' T' => r' = (l.length : Int) ∧ R' = R ∧ H' = H ∧ n' = n ∧ K' = K ∧ f' = f ∧ L' = (l.length : Int) ∧ T' = T) (fun _ => ⟨rfl, rfl, rfl, rfl, rfl, rfl, rfl, rfl⟩) (fun z => absurd (show 0 ≤ (l.length : Int) ∧ (l.length : Int) ≤ r by omega) z)) (fun r' κ1 hr' => ?_)
      obtain ⟨R', H', n', x', K', f', L', T', ⟨rfl, rfl, rfl, rfl, rfl, rfl, rfl, rfl⟩, hI'⟩ := hr'
      have ht2 : yTx (κ1, w1.2) q v l := ht1
      refine yb_Kr (ht2.1.imp id (fun e => ⟨rfl, e⟩)) (tx_length ht2 ⟨⟨Nat.le_refl _, Nat.le_refl _⟩, yb_R2 ⟨iR_small ⟨by omega, by omega⟩, iR_small ⟨by omega, by omega⟩⟩ (yp_ifF (fun z => z rfl) (yb_Nw (by decide) (yp_P (k (κ1, w1.2) x' T' hG hI' hT))))⟩)
