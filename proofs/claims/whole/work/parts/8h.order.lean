/-! ===== two neighbours exchanged ===== -/
def RX (R : aRun) (i j : Int) : aRun := (R.1, R.2.1, fun b w => if b = i then R.2.2 j w else if b = j then R.2.2 i w else R.2.2 b w)
theorem RX_rc {R : aRun} {i j b w : Int} : rc (RX R i j) b w = if b = i then rc R j w else if b = j then rc R i w else rc R b w := rfl
theorem sI_swap {f g : Int → Int} {i n : Int} (h0 : 0 ≤ i) (hn : i + 2 ≤ n) (h1 : g i = f (i + 1)) (h2 : g (i + 1) = f i) (h3 : ∀ k, k ≠ i → k ≠ i + 1 → g k = f k) : sI g n = sI f n := by
  have e0 : sI g i = sI f i := sI_congr (fun k k0 k1 => h3 k (by omega) (by omega))
  have a1 : sI g (i + 1) = sI g i + g i := sI_s h0
  have a2 : sI g (i + 1 + 1) = sI g (i + 1) + g (i + 1) := sI_s (by omega)
  have b1 : sI f (i + 1) = sI f i + f i := sI_s h0
  have b2 : sI f (i + 1 + 1) = sI f (i + 1) + f (i + 1) := sI_s (by omega)
  have key : ∀ k : Nat, sI g (i + 2 + k) = sI f (i + 2 + k) := by
    intro k
    induction k with
    | zero => rw [show i + 2 + ((0 : Nat) : Int) = i + 1 + 1 by omega]; omega
    | succ k ih =>
      rw [show i + 2 + ((k + 1 : Nat) : Int) = (i + 2 + k) + 1 by omega, sI_s (by omega), sI_s (by omega), ih, h3 _ (by omega) (by omega)]
  have := key (n - (i + 2)).toNat
  rwa [show i + 2 + (((n - (i + 2)).toNat : Nat) : Int) = n by omega] at this
theorem RX_wf {R : aRun} {i : Int} (h : WF R) (h0 : 0 ≤ i) (h1 : i + 1 < rn R) : WF (RX R i (i + 1)) := by
  obtain ⟨a1, a2, a3, a4⟩ := h
  refine ⟨a1, a2, fun b b0 b1 => ?_, ?_⟩
  · have e : ∃ b', (0 ≤ b' ∧ b' < rn R) ∧ ∀ w, rc (RX R i (i + 1)) b w = rc R b' w := by
      by_cases c : b = i
      · exact ⟨i + 1, by omega, fun w => by rw [RX_rc, if_pos c]⟩
      · by_cases d : b = i + 1
        · exact ⟨i, by omega, fun w => by rw [RX_rc, if_neg c, if_pos d]⟩
        · exact ⟨b, ⟨b0, b1⟩, fun w => by rw [RX_rc, if_neg c, if_neg d]⟩
    obtain ⟨b', hb, e⟩ := e
    have := a3 b' hb.1 hb.2
    unfold WFb at this ⊢
    rw [e, e, e, e, e, e, e, e, e, e, e, e]
    exact this
  · have e : np (RX R i (i + 1)) = np R := by
      show sI (fun b => rc (RX R i (i + 1)) b 1) (rn R) = sI (fun b => rc R b 1) (rn R)
      refine sI_swap h0 (by omega) ?_ ?_ (fun k k0 k1 => ?_)
      · exact if_pos rfl
      · show (if i + 1 = i then _ else if i + 1 = i + 1 then _ else _) = _
        rw [if_neg (by omega), if_pos rfl]
        rfl
      · show (if k = i then _ else if k = i + 1 then _ else _) = _
        rw [if_neg k0, if_neg k1]
        rfl
    rw [e]; exact a4
section
variable {τ : iMem} {R : aRun}
theorem ip_putCell {o : Nat} {b w v : Int} {Q : Unit → iMem → Prop} (ho : isRun o) (hm : o + 2 < 405) (b0 : 0 ≤ b) (b1 : b < 16) (w0 : 0 ≤ w) (w1 : w < 16) : ip (iz_Run_putCell o b w v) Q τ ↔ Q () (iu τ (o + 2) (b * 16 + w) v) := by
  unfold iz_Run_putCell
  rw [ip_ifF (by omega), ip_ifF (by omega), ip_ifF (by omega), ip_ifF (by omega), ip_A]
  refine (and_iff_right ⟨by omega, by omega⟩).trans ?_
  rw [ip_A]
  refine (and_iff_right ⟨by omega, by omega⟩).trans ?_
  rw [ip_B, ip_St, rr_2 ho, rl_2 ho]
  refine (and_iff_right ⟨⟨by omega, by omega⟩, by omega⟩).trans ?_
  rw [ip_P]
theorem ip_rcell {o : Nat} {b w : Int} {Q : Int → iMem → Prop} (ho : isRun o) (b0 : 0 ≤ b) (b1 : b < 16) (w0 : 0 ≤ w) (w1 : w < 16) : ip (iz_Run_cell o b w) Q τ ↔ Q (τ (o + 2) (b * 16 + w)) τ := by
  unfold iz_Run_cell
  rw [ip_ifF (by omega), ip_ifF (by omega), ip_ifF (by omega), ip_ifT w1, ip_A]
  refine (and_iff_right ⟨by omega, by omega⟩).trans ?_
  rw [ip_A]
  refine (and_iff_right ⟨by omega, by omega⟩).trans ?_
  rw [ip_B, ip_Ld, rr_2 ho, rl_2 ho]
  refine (and_iff_right ⟨by omega, by omega⟩).trans ?_
  rw [ip_P]
/-- the cell that stands there then -/
def xch (i j k : Int) : Int := if 16 * i ≤ k ∧ k < 16 * i + 16 then k - 16 * i + 16 * j else if 16 * j ≤ k ∧ k < 16 * j + 16 then k - 16 * j + 16 * i else k
theorem ip_exchange {o : Nat} {i j : Int} {Q : Unit → iMem → Prop} (ho : isRun o) (hm : o + 2 < 405) (i0 : 0 ≤ i) (i1 : i < 16) (j0 : 0 ≤ j) (j1 : j < 16) (hij : i ≠ j)
    (hQ : ∀ τ', (∀ k, τ' (o + 2) k = τ (o + 2) (xch i j k)) → (∀ a k, a ≠ o + 2 → τ' a k = τ a k) → Q () τ') : ip (iz_Run_exchange o i j) Q τ := by
  unfold iz_Run_exchange
  rw [ip_B]
  refine ip_mono (Q := fun _ τ' => (∀ k, τ' (o + 2) k = τ (o + 2) (xch i j k)) ∧ (∀ a k, a ≠ o + 2 → τ' a k = τ a k)) ?_ (fun _ τ' e => by rw [ip_P]; exact hQ τ' e.1 e.2)
  refine ip_W (fun w τ' => (0 ≤ w ∧ w ≤ 16) ∧ (∀ k, τ' (o + 2) k = τ (o + 2) (if 16 * i ≤ k ∧ k < 16 * i + w then k - 16 * i + 16 * j else if 16 * j ≤ k ∧ k < 16 * j + w then k - 16 * j + 16 * i else k)) ∧ (∀ a k, a ≠ o + 2 → τ' a k = τ a k)) (fun w _ => (16 - w).toNat) ?_ ⟨⟨Int.le_refl _, by omega⟩, fun k => by rw [if_neg (by omega), if_neg (by omega)], fun _ _ _ => rfl⟩
  intro w τ' ⟨b1, b2, b3⟩
  by_cases c : 16 ≤ w
  · rw [ip_ifT c, ip_P]
    refine ⟨fun k => ?_, b3⟩
    rw [b2 k]
    unfold xch
    rw [show w = 16 by omega]
  · rw [ip_ifF c, ip_B, ip_rcell ho i0 i1 b1.1 (by omega), ip_B, ip_rcell ho j0 j1 b1.1 (by omega), ip_B, ip_putCell ho hm i0 i1 b1.1 (by omega), ip_B, ip_putCell ho hm j0 j1 b1.1 (by omega), ip_A]
    refine ⟨⟨by omega, by omega⟩, ?_⟩
    rw [ip_B, ip_P, ip_P]
    simp only [Sum.elim_inl]
    refine ⟨⟨⟨by omega, by omega⟩, fun k => ?_, fun a k h => ?_⟩, by omega⟩
    · by_cases c2 : k = j * 16 + w
      · subst c2
        rw [iu_eq, b2, if_neg (by omega), if_neg (by omega), if_neg (by omega), if_pos (by omega)]
        congr 1
        omega
      · rw [iu_ne (Or.inr c2)]
        by_cases c1 : k = i * 16 + w
        · subst c1
          rw [iu_eq, b2, if_neg (by omega), if_neg (by omega), if_pos (by omega)]
          congr 1
          omega
        · rw [iu_ne (Or.inr c1), b2]
          congr 1
          by_cases d1 : 16 * i ≤ k ∧ k < 16 * i + w
          · rw [if_pos d1, if_pos (by omega)]
          · by_cases d2 : 16 * j ≤ k ∧ k < 16 * j + w
            · rw [if_neg d1, if_pos d2, if_neg (by omega), if_pos (by omega)]
            · rw [if_neg d1, if_neg d2, if_neg (by omega), if_neg (by omega)]
    · rw [iu_ne (Or.inl h), iu_ne (Or.inl h)]; exact b3 a k h
theorem ip_trades {i j : Int} {Q : Unit → iMem → Prop} (i0 : 0 ≤ i) (i1 : i < 16) (j0 : 0 ≤ j) (j1 : j < 16) (hij : i ≠ j)
    (hQ : ∀ τ', (∀ k, τ' 368 (9 + k) = τ 368 (9 + xch i j k)) → (∀ a k, ¬ (a = 368 ∧ 9 ≤ k ∧ k < 265) → τ' a k = τ a k) → Q () τ') : ip (iz_Model_trades 367 i j) Q τ := by
  unfold iz_Model_trades
  rw [ip_B]
  refine ip_mono (Q := fun _ τ' => (∀ k, τ' 368 (9 + k) = τ 368 (9 + xch i j k)) ∧ (∀ a k, ¬ (a = 368 ∧ 9 ≤ k ∧ k < 265) → τ' a k = τ a k)) ?_ (fun _ τ' e => by rw [ip_P]; exact hQ τ' e.1 e.2)
  refine ip_W (fun w τ' => (0 ≤ w ∧ w ≤ 16) ∧ (∀ k, τ' 368 (9 + k) = τ 368 (9 + (if 16 * i ≤ k ∧ k < 16 * i + w then k - 16 * i + 16 * j else if 16 * j ≤ k ∧ k < 16 * j + w then k - 16 * j + 16 * i else k))) ∧ (∀ a k, ¬ (a = 368 ∧ 9 ≤ k ∧ k < 265) → τ' a k = τ a k)) (fun w _ => (16 - w).toNat) ?_ ⟨⟨Int.le_refl _, by omega⟩, fun k => by rw [if_neg (by omega), if_neg (by omega)], fun _ _ _ => rfl⟩
  intro w τ' ⟨b1, b2, b3⟩
  by_cases c : 16 ≤ w
  · rw [ip_ifT c, ip_P]
    refine ⟨fun k => ?_, b3⟩
    rw [b2 k]
    unfold xch
    rw [show w = 16 by omega]
  · rw [ip_ifF c, ip_B, ip_ofr i0 (by omega) (by omega) (by omega), ip_B, ip_ofr j0 (by omega) (by omega) (by omega), ip_A]
    refine ⟨⟨by omega, by omega⟩, ?_⟩
    rw [ip_A]
    refine ⟨⟨by omega, by omega⟩, ?_⟩
    rw [ip_A]
    refine ⟨⟨by omega, by omega⟩, ?_⟩
    rw [ip_B, ip_St, m_0, l_368]
    refine ⟨⟨⟨by omega, by omega⟩, by omega⟩, ?_⟩
    rw [ip_A]
    refine ⟨⟨by omega, by omega⟩, ?_⟩
    rw [ip_A]
    refine ⟨⟨by omega, by omega⟩, ?_⟩
    rw [ip_A]
    refine ⟨⟨by omega, by omega⟩, ?_⟩
    rw [ip_B, ip_St, l_368]
    refine ⟨⟨⟨by omega, by omega⟩, by omega⟩, ?_⟩
    rw [ip_A]
    refine ⟨⟨by omega, by omega⟩, ?_⟩
    rw [ip_B, ip_P, ip_P]
    simp only [Sum.elim_inl]
    have g1 := b2 (16 * j + w)
    have g2 := b2 (16 * i + w)
    rw [if_neg (by omega), if_neg (by omega), ← Int.add_assoc] at g1 g2
    refine ⟨⟨⟨by omega, by omega⟩, fun k => ?_, fun a k h => ?_⟩, by omega⟩
    · by_cases c2 : k = 16 * j + w
      · subst c2
        rw [show 9 + (16 * j + w) = 9 + 16 * j + w by omega, iu_eq, g2, if_neg (by omega), if_pos (by omega)]
        congr 1
        omega
      · rw [iu_ne (Or.inr (by omega))]
        by_cases c1 : k = 16 * i + w
        · subst c1
          rw [show 9 + (16 * i + w) = 9 + 16 * i + w by omega, iu_eq, g1, if_pos (by omega)]
          congr 1
          omega
        · rw [iu_ne (Or.inr (by omega)), b2]
          congr 1
          by_cases d1 : 16 * i ≤ k ∧ k < 16 * i + w
          · rw [if_pos d1, if_pos (by omega)]
          · by_cases d2 : 16 * j ≤ k ∧ k < 16 * j + w
            · rw [if_neg d1, if_pos d2, if_neg (by omega), if_pos (by omega)]
            · rw [if_neg d1, if_neg d2, if_neg (by omega), if_neg (by omega)]
    · rw [iu_ne (by omega), iu_ne (by omega)]; exact b3 a k h
theorem RX_c {τ' : iMem} {o : Nat} {i j : Int} (h : RunC τ o R) (i0 : 0 ≤ i) (i1 : i < rn R) (j0 : 0 ≤ j) (j1 : j < rn R) (hij : i ≠ j) (h1 : ∀ k, τ' (o + 2) k = τ (o + 2) (xch i j k)) (h2 : ∀ a k, a ≠ o + 2 → τ' a k = τ a k) : RunC τ' o (RX R i j) := by
  refine ⟨(h2 _ _ (by omega)).trans h.1, fun k k0 k1 => (h2 _ _ (by omega)).trans (h.2.1 k k0 k1), fun b w b0 b1 w0 w1 => ?_⟩
  have b1 : b < rn R := b1
  rw [h1, RX_rc]
  unfold xch
  by_cases c : b = i
  · subst c
    rw [if_pos (by omega), if_pos rfl, show 16 * b + w - 16 * b + 16 * j = 16 * j + w by omega]
    exact h.2.2 j w j0 j1 w0 w1
  · by_cases d : b = j
    · subst d
      rw [if_neg (by omega), if_pos (by omega), if_neg c, if_pos rfl, show 16 * b + w - 16 * b + 16 * i = 16 * i + w by omega]
      exact h.2.2 i w i0 i1 w0 w1
    · rw [if_neg (by omega), if_neg (by omega), if_neg c, if_neg d]
      exact h.2.2 b w b0 b1 w0 w1
theorem pw_in {w : Int} (w0 : 0 ≤ w) (w1 : w < 16) : 0 ≤ pw w ∧ pw w < 16 := by
  unfold pw
  omega
theorem RX_m {τ' : iMem} {i j : Int} (h : RunM τ 368 0 R) (i0 : 0 ≤ i) (i1 : i < rn R) (j0 : 0 ≤ j) (j1 : j < rn R) (hij : i ≠ j) (h1 : ∀ k, τ' 368 (9 + k) = τ 368 (9 + xch i j k)) (h2 : ∀ a k, ¬ (a = 368 ∧ 9 ≤ k ∧ k < 265) → τ' a k = τ a k) : RunM τ' 368 0 (RX R i j) := by
  refine ⟨(h2 _ _ (by omega)).trans h.1, fun k k0 k1 => (h2 _ _ (by omega)).trans (h.2.1 k k0 k1), fun b w b0 b1 w0 w1 => ?_⟩
  have b1 : b < rn R := b1
  have hp := pw_in w0 w1
  have hg := fun b b0 b1 => h.2.2 b w b0 b1 w0 w1
  rw [show 0 + 9 + 16 * b + pw w = 9 + (16 * b + pw w) by omega, h1, RX_rc]
  unfold xch
  by_cases c : b = i
  · subst c
    rw [if_pos (by omega), if_pos rfl, ← hg j j0 j1]
    congr 1
    omega
  · by_cases d : b = j
    · subst d
      rw [if_neg (by omega), if_pos (by omega), if_neg c, if_pos rfl, ← hg i i0 i1]
      congr 1
      omega
    · rw [if_neg (by omega), if_neg (by omega), if_neg c, if_neg d, ← hg b b0 b1]
      congr 1
      omega
theorem RX_RX {o : Nat} {i j : Int} (hij : i ≠ j) (h : RunC τ o (RX (RX R i j) i j)) : RunC τ o R := by
  refine ⟨h.1, h.2.1, fun b w b0 b1 w0 w1 => ?_⟩
  have e := h.2.2 b w b0 b1 w0 w1
  rw [RX_rc, RX_rc, RX_rc, RX_rc] at e
  rw [e]
  by_cases c : b = i
  · subst c
    rw [if_pos rfl, if_neg (Ne.symm hij), if_pos rfl]
  · by_cases d : b = j
    · subst d
      rw [if_neg c, if_pos rfl, if_pos rfl]
    · rw [if_neg c, if_neg d, if_neg c, if_neg d]
noncomputable def ordN (R : aRun) : Nat → Int × Int
  | 0 => (-2, -2)
  | n + 1 => if ans (RX R n (n + 1)) < 0 then ordN R n else if (ordN R n).2 = -2 ∨ ans (RX R n (n + 1)) < (ordN R n).2 then ((n : Int), ans (RX R n (n + 1))) else ordN R n
theorem ordN_s (n : Nat) : ordN R (n + 1) = if ans (RX R n (n + 1)) < 0 then ordN R n else if (ordN R n).2 = -2 ∨ ans (RX R n (n + 1)) < (ordN R n).2 then ((n : Int), ans (RX R n (n + 1))) else ordN R n := rfl
theorem ordN_in : ∀ n : Nat, (ordN R n).1 = -2 ↔ (ordN R n).2 = -2 := by
  intro n
  induction n with
  | zero => exact ⟨fun _ => rfl, fun _ => rfl⟩
  | succ n ih =>
    rw [ordN_s]
    split
    · exact ih
    · split
      · rename_i h1 h2
        exact ⟨fun z => by have z : (n : Int) = -2 := z; omega, fun z => by have z : ans (RX R n (n + 1)) = -2 := z; omega⟩
      · exact ih
noncomputable def ordV (R : aRun) (k : Int) : Int := if 0 ≤ k ∧ k ≤ 1 then (if k = 0 then (ordN R (rn R - 1).toNat).1 else (ordN R (rn R - 1).toNat).2) else -1
theorem ord_ends : rn R ≤ 1 → (rn R - 1).toNat = 0 := fun h => by omega
theorem gv_order (hI : InvX R τ) (k : Int) : gv R (iz_Top_order 0 k) (ordV R k) τ := by
  have hw := hI.1
  have hn := hw.1
  unfold gv iz_Top_order ordV
  by_cases c1 : k < 0
  · rw [ip_ifT c1, ip_P, if_neg (show ¬ (0 ≤ k ∧ k ≤ 1) by omega)]
    exact ⟨rfl, hI, fun _ _ _ => rfl⟩
  · rw [ip_ifF c1]
    by_cases c2 : k ≤ 1
    · rw [ip_ifT c2, if_pos (show (0 ≤ k ∧ k ≤ 1) by omega), t_0, t_7, p_0, ip_B]
      refine ip_ask hI (fun τ1 w1 w2 w3 => ?_)
      rw [ip_B]
      refine ip_mono (Q := fun v τ2 => v = ordN R (rn R - 1).toNat ∧ InvX R τ2 ∧ ∀ a k, a < 322 ∨ 366 < a → τ2 a k = τ a k) ?_ (fun v τ2 e => ?_)
      · refine ip_W (fun (q : Int × (Int × Int)) τ2 => (0 ≤ q.2.2 ∧ q.2.2 ≤ 16) ∧ (q.2.2 = 0 ∨ q.2.2 < rn R) ∧ (q.1, q.2.1) = ordN R q.2.2.toNat ∧ InvX R τ2 ∧ RunC τ2 323 R ∧ ∀ a k, a < 322 ∨ 366 < a → τ2 a k = τ a k) (fun (q : Int × (Int × Int)) _ => (16 - q.2.2).toNat) ?_ ⟨⟨Int.le_refl _, by show (0 : Int) ≤ 16; omega⟩, Or.inl rfl, rfl, w1, w2, fun a k h => w3 a k (by omega)⟩
        intro q τ2 ⟨b1, b2, b3, b4, b5, b6⟩
        obtain ⟨be, pg, i⟩ := q
        dsimp only at b1 b2 b3 ⊢
        rw [ip_B, ip_Gt, b4.2.1.1.1, ip_A]
        refine ⟨⟨by omega, by omega⟩, ?_⟩
        by_cases z : rn R ≤ i + 1
        · rw [ip_ifT z, ip_P]
          refine ⟨?_, b4, b6⟩
          show (be, pg) = _
          rw [b3, show (rn R - 1).toNat = i.toNat by omega]
        · rw [ip_ifF z, ip_A]
          refine ⟨⟨by omega, by omega⟩, ?_⟩
          rw [ip_B]
          refine ip_exchange r_323 (by omega) b1.1 (by omega) (by omega) (by omega) (by omega) (fun τ3 x1 x2 => ?_)
          have hR3 := RX_c b5 b1.1 (by omega) (by omega) (by omega) (by omega) x1 x2
          have hI3 : InvX R τ3 := b4.b (b4.2.2.1.frame (fun a k _ => x2 a k (by omega))) (fun a k _ => x2 a k (by omega))
          refine ip_askPour hI3 (RX_wf hw b1.1 (by omega)) hR3 (fun τ4 v1 v2 v3 => ?_)
          rw [ip_A]
          refine ⟨⟨by omega, by omega⟩, ?_⟩
          rw [ip_B]
          refine ip_exchange r_323 (by omega) b1.1 (by omega) (by omega) (by omega) (by omega) (fun τ5 y1 y2 => ?_)
          have hR5 := RX_RX (by omega) (RX_c v2 b1.1 (by show i < rn R; omega) (by omega) (by show i + 1 < rn R; omega) (by omega) y1 y2)
          have hI5 : InvX R τ5 := v1.b (v1.2.2.1.frame (fun a k _ => y2 a k (by omega))) (fun a k _ => y2 a k (by omega))
          have hf5 : ∀ a k, a < 322 ∨ 366 < a → τ5 a k = τ a k := fun a k h => by rw [y2 a k (by omega), v3 a k h, x2 a k (by omega), b6 a k h]
          have e1 : (ordN R i.toNat).1 = be := (congrArg Prod.fst b3).symm
          have e2 : (ordN R i.toNat).2 = pg := (congrArg Prod.snd b3).symm
          have en := ordN_s (R := R) i.toNat
          rw [show ((i.toNat : Nat) : Int) = i by omega, ← b3] at en
          dsimp only at en
          rw [ip_B]
          have tail : ∀ x y, (x, y) = ordN R (i.toNat + 1) → ip (iA (i + 1) fun y4 => iB (iP y4) fun x7 => iP (Sum.inl (x, (y, x7)) : (Int × (Int × Int)) ⊕ (Int × Int))) (fun r τ' => Sum.elim (fun s' => ((0 ≤ s'.2.2 ∧ s'.2.2 ≤ 16) ∧ (s'.2.2 = 0 ∨ s'.2.2 < rn R) ∧ (s'.1, s'.2.1) = ordN R s'.2.2.toNat ∧ InvX R τ' ∧ RunC τ' 323 R ∧ ∀ a k, a < 322 ∨ 366 < a → τ' a k = τ a k) ∧ (16 - s'.2.2).toNat < (16 - i).toNat) (fun v => v = ordN R (rn R - 1).toNat ∧ InvX R τ' ∧ ∀ a k, a < 322 ∨ 366 < a → τ' a k = τ a k) r) τ5 := by
            intro x y hxy
            rw [ip_A]
            refine ⟨⟨by omega, by omega⟩, ?_⟩
            rw [ip_B, ip_P, ip_P]
            simp only [Sum.elim_inl]
            exact ⟨⟨⟨by omega, by omega⟩, Or.inr (by omega), by rw [show (i + 1).toNat = i.toNat + 1 by omega]; exact hxy, hI5, hR5, hf5⟩, by omega⟩
          by_cases d1 : ans (RX R i (i + 1)) < 0
          · rw [if_pos d1] at en
            rw [ip_ifT d1, ip_P]
            exact tail _ _ en.symm
          · rw [if_neg d1] at en
            rw [ip_ifF d1, ip_B]
            by_cases d2 : pg = -2
            · rw [if_pos (Or.inl d2)] at en
              rw [ip_ifT d2, ip_P]
              simp only [Sum.elim_inl, ip_P]
              exact tail _ _ en.symm
            · rw [ip_ifF d2]
              by_cases d3 : pg ≤ ans (RX R i (i + 1))
              · rw [if_neg (by omega)] at en
                rw [ip_ifT d3, ip_P]
                simp only [Sum.elim_inr, ip_P]
                exact tail _ _ en.symm
              · rw [if_pos (Or.inr (by omega))] at en
                rw [ip_ifF d3, ip_P]
                simp only [Sum.elim_inl, ip_P]
                exact tail _ _ en.symm
      · have fin : InvX R τ2 ∧ ∀ a k, ¬ zw a k → τ2 a k = τ a k := ⟨e.2.1, fun a k z => e.2.2 a k (by unfold zw at z; omega)⟩
        rw [e.1]
        by_cases c3 : k = 0
        · rw [ip_ifF (by omega), ip_P, if_pos c3]; exact ⟨rfl, fin⟩
        · rw [ip_ifT c3, ip_P, if_neg c3]; exact ⟨rfl, fin⟩
    · rw [ip_ifF c2, ip_P, if_neg (show ¬ (0 ≤ k ∧ k ≤ 1) by omega)]
      exact ⟨rfl, hI, fun _ _ _ => rfl⟩
theorem gv_Morder (hI : InvX R τ) (k : Int) : gv R (iz_Model_order 367 k) (ordV R k) τ := by
  have hw := hI.1
  have hn := hw.1
  unfold gv iz_Model_order ordV
  rw [ip_B, ip_in]
  by_cases c1 : k < 0 ∨ 1 < k
  · rw [if_pos c1, ip_ifF (by omega), ip_P, if_neg (show ¬ (0 ≤ k ∧ k ≤ 1) by omega)]
    exact ⟨rfl, hI, fun _ _ _ => rfl⟩
  · rw [if_neg c1, ip_ifT (by omega), if_pos (show (0 ≤ k ∧ k ≤ 1) by omega), ip_B]
    refine ip_keepsAside (fun τ1 w1 w2 => ?_)
    rw [ip_B]
    refine ip_mono (Q := fun v τ2 => v = ordN R (rn R - 1).toNat ∧ ∀ a k, ¬ mz a k → τ2 a k = τ a k) ?_ (fun v τ2 e => ?_)
    · refine ip_W (fun (q : Int × (Int × Int)) τ2 => (0 ≤ q.2.2 ∧ q.2.2 ≤ 16) ∧ (q.2.2 = 0 ∨ q.2.2 < rn R) ∧ (q.1, q.2.1) = ordN R q.2.2.toNat ∧ (∀ k, 0 ≤ k → k < 265 → τ2 372 k = τ 368 k) ∧ ∀ a k, ¬ mz a k → τ2 a k = τ a k) (fun (q : Int × (Int × Int)) _ => (16 - q.2.2).toNat) ?_ ⟨⟨Int.le_refl _, by show (0 : Int) ≤ 16; omega⟩, Or.inl rfl, rfl, w1, fun a k z => w2 a k (by unfold mz at z; omega)⟩
      intro q τ2 ⟨b1, b2, b3, b4, b6⟩
      obtain ⟨be, pg, i⟩ := q
      dsimp only at b1 b2 b3 ⊢
      have hI2 := hI.m b6
      have hR2 := hI2.2.2.2
      rw [ip_B, ip_blocks, rm_n hR2, ip_A]
      refine ⟨⟨by omega, by omega⟩, ?_⟩
      by_cases z : rn R ≤ i + 1
      · rw [ip_ifT z, ip_P]
        refine ⟨?_, b6⟩
        show (be, pg) = _
        rw [b3, show (rn R - 1).toNat = i.toNat by omega]
      · rw [ip_ifF z, ip_A]
        refine ⟨⟨by omega, by omega⟩, ?_⟩
        rw [ip_B]
        refine ip_trades b1.1 (by omega) (by omega) (by omega) (by omega) (fun τ3 x1 x2 => ?_)
        have hR3 := RX_m hR2 b1.1 (by omega) (by omega) (by omega) (by omega) x1 x2
        rw [ip_B]
        refine ip_pours (RX_wf hw b1.1 (by omega)) hR3 (fun τ4 _ _ v3 => ?_)
        rw [ip_B]
        refine ip_putsBack (fun τ5 u1 u2 => ?_)
        have f4 : ∀ k, τ4 372 k = τ2 372 k := fun k => (v3 _ _ (by unfold mlw pmw; omega)).trans (x2 _ _ (by omega))
        have e368 : ∀ j, τ5 368 j = τ 368 j := back_is (τ1 := τ2) (τ2 := τ4) b4 f4 (fun j hj => ((v3 _ _ (by unfold mlw pmw; omega)).trans (x2 _ _ (by omega))).trans (b6 _ _ (by unfold mz; omega))) u1 u2
        have hf5 : ∀ a j, ¬ mz a j → τ5 a j = τ a j := fun a j z => by
          by_cases c : a = 368
          · rw [c]; exact e368 j
          · rw [u2 a j (by omega), v3 a j (by unfold mz at z; unfold mlw pmw; omega), x2 a j (by omega), b6 a j z]
        have g5 : ∀ k, 0 ≤ k → k < 265 → τ5 372 k = τ 368 k := fun k k0 k1 => by rw [u2 _ _ (by omega), f4, b4 k k0 k1]
        have e1 : (ordN R i.toNat).1 = be := (congrArg Prod.fst b3).symm
        have e2 : (ordN R i.toNat).2 = pg := (congrArg Prod.snd b3).symm
        have hin := ordN_in (R := R) i.toNat
        rw [e1, e2] at hin
        have en := ordN_s (R := R) i.toNat
        rw [show ((i.toNat : Nat) : Int) = i by omega, ← b3] at en
        dsimp only at en
        rw [ip_B]
        have tail : ∀ x y, (x, y) = ordN R (i.toNat + 1) → ip (iA (i + 1) fun y4 => iB (iP y4) fun x7 => iP (Sum.inl (x, (y, x7)) : (Int × (Int × Int)) ⊕ (Int × Int))) (fun r τ' => Sum.elim (fun s' => ((0 ≤ s'.2.2 ∧ s'.2.2 ≤ 16) ∧ (s'.2.2 = 0 ∨ s'.2.2 < rn R) ∧ (s'.1, s'.2.1) = ordN R s'.2.2.toNat ∧ (∀ k, 0 ≤ k → k < 265 → τ' 372 k = τ 368 k) ∧ ∀ a k, ¬ mz a k → τ' a k = τ a k) ∧ (16 - s'.2.2).toNat < (16 - i).toNat) (fun v => v = ordN R (rn R - 1).toNat ∧ ∀ a k, ¬ mz a k → τ' a k = τ a k) r) τ5 := by
          intro x y hxy
          rw [ip_A]
          refine ⟨⟨by omega, by omega⟩, ?_⟩
          rw [ip_B, ip_P, ip_P]
          simp only [Sum.elim_inl]
          exact ⟨⟨⟨by omega, by omega⟩, Or.inr (by omega), by rw [show (i + 1).toNat = i.toNat + 1 by omega]; exact hxy, g5, hf5⟩, by omega⟩
        by_cases d1 : ans (RX R i (i + 1)) < 0
        · rw [if_pos d1] at en
          rw [ip_ifT d1, ip_P]
          exact tail _ _ en.symm
        · rw [if_neg d1] at en
          rw [ip_ifF d1, ip_B]
          by_cases d2 : be = -2
          · rw [if_pos (Or.inl (hin.mp d2))] at en
            rw [ip_ifT d2, ip_P]
            simp only [Sum.elim_inl, ip_P]
            exact tail _ _ en.symm
          · have d2' : ¬ pg = -2 := fun q => d2 (hin.mpr q)
            rw [ip_ifF d2]
            by_cases d3 : ans (RX R i (i + 1)) < pg
            · rw [if_pos (Or.inr d3)] at en
              rw [ip_ifT d3, ip_P]
              simp only [Sum.elim_inl, ip_P]
              exact tail _ _ en.symm
            · rw [if_neg (by omega)] at en
              rw [ip_ifF d3, ip_P]
              simp only [Sum.elim_inr, ip_P]
              exact tail _ _ en.symm
    · have fin : InvX R τ2 ∧ ∀ a k, ¬ zw a k → τ2 a k = τ a k := ⟨hI.m e.2, fun a k z => e.2 a k (fun y => z (Or.inr (Or.inr y)))⟩
      rw [e.1]
      by_cases c3 : k = 0
      · rw [ip_ifF (by omega), ip_P, if_pos c3]; exact ⟨rfl, fin⟩
      · rw [ip_ifT c3, ip_P, if_neg c3]; exact ⟨rfl, fin⟩
theorem two_order (hI : InvX R τ) (k : Int) : two R (iz_Top_order 0 k) (iz_Model_order 367 k) τ := gv_two (gv_order hI k) (fun _ q _ => gv_Morder q k)
end
