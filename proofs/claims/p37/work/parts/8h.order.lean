/-! ===== two neighbours exchanged ===== -/
def RX (R : aRun) (i j : Int) : aRun := (R.1, R.2.1, fun b w => if b = i then R.2.2 j w else if b = j then R.2.2 i w else R.2.2 b w)
theorem RX_rc {R : aRun} {i j b w : Int} : rc (RX R i j) b w = if b = i then rc R j w else if b = j then rc R i w else rc R b w := rfl
theorem sI_swap {f g : Int → Int} {i n : Int} (h0 : 0 ≤ i) (hn : i + 2 ≤ n) (h1 : g i = f (i + 1)) (h2 : g (i + 1) = f i) (h3 : ∀ k, k ≠ i → k ≠ i + 1 → g k = f k) : sI g n = sI f n := by
  have e0 : sI g i = sI f i := sI_congr (fun k k0 k1 => h3 k (by omega) (by omega))
  have a1 : sI g (i + 1) = sI g i + g i := sI_s h0
  have a2 : sI g (i + 1 + 1) = sI g (i + 1) + g (i + 1) := sI_s (by omega)
  have b1 : sI f (i + 1) = sI f i + f i := sI_s h0
  have b2 : sI f (i + 1 + 1) = sI f (i + 1) + f (i + 1) := sI_s (by omega)
  have key : ∀ k : Nat, sI g (i + 2 + k) = sI f (i + 2 + k) := by
    intro k
    induction k with
    | zero => rw [show i + 2 + ((0 : Nat) : Int) = i + 1 + 1 by omega]; omega
    | succ k ih =>
      rw [show i + 2 + ((k + 1 : Nat) : Int) = (i + 2 + k) + 1 by omega, sI_s (by omega), sI_s (by omega), ih, h3 _ (by omega) (by omega)]
  have := key (n - (i + 2)).toNat
  rwa [show i + 2 + (((n - (i + 2)).toNat : Nat) : Int) = n by omega] at this
theorem RX_wf {R : aRun} {i : Int} (h : WF R) (h0 : 0 ≤ i) (h1 : i + 1 < rn R) : WF (RX R i (i + 1)) := by
  obtain ⟨a1, a2, a3, a4⟩ := h
  refine ⟨a1, a2, fun b b0 b1 => ?_, ?_⟩
  · have e : ∃ b', (0 ≤ b' ∧ b' < rn R) ∧ ∀ w, rc (RX R i (i + 1)) b w = rc R b' w := by
      by_cases c : b = i
      · exact ⟨i + 1, by omega, fun w => by rw [RX_rc, if_pos c]⟩
      · by_cases d : b = i + 1
        · exact ⟨i, by omega, fun w => by rw [RX_rc, if_neg c, if_pos d]⟩
        · exact ⟨b, ⟨b0, b1⟩, fun w => by rw [RX_rc, if_neg c, if_neg d]⟩
    obtain ⟨b', hb, e⟩ := e
    have := a3 b' hb.1 hb.2
    unfold WFb at this ⊢
    rw [e, e, e, e, e, e, e, e, e, e, e, e]
    exact this
  · have e : np (RX R i (i + 1)) = np R := by
      show sI (fun b => rc (RX R i (i + 1)) b 1) (rn R) = sI (fun b => rc R b 1) (rn R)
      refine sI_swap h0 (by omega) ?_ ?_ (fun k k0 k1 => ?_)
      · exact if_pos rfl
      · show (if i + 1 = i then _ else if i + 1 = i + 1 then _ else _) = _
        rw [if_neg (by omega), if_pos rfl]
        rfl
      · show (if k = i then _ else if k = i + 1 then _ else _) = _
        rw [if_neg k0, if_neg k1]
        rfl
    rw [e]; exact a4
section
variable {τ : iMem} {R : aRun}
theorem ip_putCell {o : Nat} {b w v : Int} {Q : Unit → iMem → Prop} (ho : isRun o) (hm : o + 2 < 405) (b0 : 0 ≤ b) (b1 : b < 16) (w0 : 0 ≤ w) (w1 : w < 16) : ip (iz_Run_putCell o b w v) Q τ ↔ Q () (iu τ (o + 2) (b * 16 + w) v) := by
  unfold iz_Run_putCell
  rw [ip_ifF (by omega), ip_ifF (by omega), ip_ifF (by omega), ip_ifF (by omega), ip_A]
  refine (and_iff_right ⟨by omega, by omega⟩).trans ?_
  rw [ip_A]
  refine (and_iff_right ⟨by omega, by omega⟩).trans ?_
  rw [ip_B, ip_St, rr_2 ho, rl_2 ho]
  refine (and_iff_right ⟨⟨by omega, by omega⟩, by omega⟩).trans ?_
  rw [ip_P]
theorem ip_rcell {o : Nat} {b w : Int} {Q : Int → iMem → Prop} (ho : isRun o) (b0 : 0 ≤ b) (b1 : b < 16) (w0 : 0 ≤ w) (w1 : w < 16) : ip (iz_Run_cell o b w) Q τ ↔ Q (τ (o + 2) (b * 16 + w)) τ := by
  unfold iz_Run_cell
  rw [ip_ifF (by omega), ip_ifF (by omega), ip_ifF (by omega), ip_ifT w1, ip_A]
  refine (and_iff_right ⟨by omega, by omega⟩).trans ?_
  rw [ip_A]
  refine (and_iff_right ⟨by omega, by omega⟩).trans ?_
  rw [ip_B, ip_Ld, rr_2 ho, rl_2 ho]
  refine (and_iff_right ⟨by omega, by omega⟩).trans ?_
  rw [ip_P]
/-- the cell that stands there then -/
def xch (i j k : Int) : Int := if 16 * i ≤ k ∧ k < 16 * i + 16 then k - 16 * i + 16 * j else if 16 * j ≤ k ∧ k < 16 * j + 16 then k - 16 * j + 16 * i else k
theorem ip_exchange {o : Nat} {i j : Int} {Q : Unit → iMem → Prop} (ho : isRun o) (hm : o + 2 < 405) (i0 : 0 ≤ i) (i1 : i < 16) (j0 : 0 ≤ j) (j1 : j < 16) (hij : i ≠ j)
    (hQ : ∀ τ', (∀ k, τ' (o + 2) k = τ (o + 2) (xch i j k)) → (∀ a k, a ≠ o + 2 → τ' a k = τ a k) → Q () τ') : ip (iz_Run_exchange o i j) Q τ := by
  unfold iz_Run_exchange
  rw [ip_B]
  refine ip_mono (Q := fun _ τ' => (∀ k, τ' (o + 2) k = τ (o + 2) (xch i j k)) ∧ (∀ a k, a ≠ o + 2 → τ' a k = τ a k)) ?_ (fun _ τ' e => by rw [ip_P]; exact hQ τ' e.1 e.2)
  refine ip_W (fun w τ' => (0 ≤ w ∧ w ≤ 16) ∧ (∀ k, τ' (o + 2) k = τ (o + 2) (if 16 * i ≤ k ∧ k < 16 * i + w then k - 16 * i + 16 * j else if 16 * j ≤ k ∧ k < 16 * j + w then k - 16 * j + 16 * i else k)) ∧ (∀ a k, a ≠ o + 2 → τ' a k = τ a k)) (fun w _ => (16 - w).toNat) ?_ ⟨⟨Int.le_refl _, by omega⟩, fun k => by rw [if_neg (by omega), if_neg (by omega)], fun _ _ _ => rfl⟩
  intro w τ' ⟨b1, b2, b3⟩
  by_cases c : 16 ≤ w
  · rw [ip_ifT c, ip_P]
    refine ⟨fun k => ?_, b3⟩
    rw [b2 k]
    unfold xch
    rw [show w = 16 by omega]
  · rw [ip_ifF c, ip_B, ip_rcell ho i0 i1 b1.1 (by omega), ip_B, ip_rcell ho j0 j1 b1.1 (by omega), ip_B, ip_putCell ho hm i0 i1 b1.1 (by omega), ip_B, ip_putCell ho hm j0 j1 b1.1 (by omega), ip_A]
    refine ⟨⟨by omega, by omega⟩, ?_⟩
    rw [ip_B, ip_P, ip_P]
    simp only [Sum.elim_inl]
    refine ⟨⟨⟨by omega, by omega⟩, fun k => ?_, fun a k h => ?_⟩, by omega⟩
    · by_cases c2 : k = j * 16 + w
      · subst c2
        rw [iu_eq, b2, if_neg (by omega), if_neg (by omega), if_neg (by omega), if_pos (by omega)]
        congr 1
        omega
      · rw [iu_ne (Or.inr c2)]
        by_cases c1 : k = i * 16 + w
        · subst c1
          rw [iu_eq, b2, if_neg (by omega), if_neg (by omega), if_pos (by omega)]
          congr 1
          omega
        · rw [iu_ne (Or.inr c1), b2]
          congr 1
          by_cases d1 : 16 * i ≤ k ∧ k < 16 * i + w
          · rw [if_pos d1, if_pos (by omega)]
          · by_cases d2 : 16 * j ≤ k ∧ k < 16 * j + w
            · rw [if_neg d1, if_pos d2, if_neg (by omega), if_pos (by omega)]
            · rw [if_neg d1, if_neg d2, if_neg (by omega), if_neg (by omega)]
    · rw [iu_ne (Or.inl h), iu_ne (Or.inl h)]; exact b3 a k h
theorem RX_c {τ' : iMem} {o : Nat} {i j : Int} (h : RunC τ o R) (i0 : 0 ≤ i) (i1 : i < rn R) (j0 : 0 ≤ j) (j1 : j < rn R) (hij : i ≠ j) (h1 : ∀ k, τ' (o + 2) k = τ (o + 2) (xch i j k)) (h2 : ∀ a k, a ≠ o + 2 → τ' a k = τ a k) : RunC τ' o (RX R i j) := by
  refine ⟨(h2 _ _ (by omega)).trans h.1, fun k k0 k1 => (h2 _ _ (by omega)).trans (h.2.1 k k0 k1), fun b w b0 b1 w0 w1 => ?_⟩
  have b1 : b < rn R := b1
  rw [h1, RX_rc]
  unfold xch
  by_cases c : b = i
  · subst c
    rw [if_pos (by omega), if_pos rfl, show 16 * b + w - 16 * b + 16 * j = 16 * j + w by omega]
    exact h.2.2 j w j0 j1 w0 w1
  · by_cases d : b = j
    · subst d
      rw [if_neg (by omega), if_pos (by omega), if_neg c, if_pos rfl, show 16 * b + w - 16 * b + 16 * i = 16 * i + w by omega]
      exact h.2.2 i w i0 i1 w0 w1
    · rw [if_neg (by omega), if_neg (by omega), if_neg c, if_neg d]
      exact h.2.2 b w b0 b1 w0 w1
theorem pw_in {w : Int} (w0 : 0 ≤ w) (w1 : w < 16) : 0 ≤ pw w ∧ pw w < 16 := by
  unfold pw
  omega
theorem RX_RX {o : Nat} {i j : Int} (hij : i ≠ j) (h : RunC τ o (RX (RX R i j) i j)) : RunC τ o R := by
  refine ⟨h.1, h.2.1, fun b w b0 b1 w0 w1 => ?_⟩
  have e := h.2.2 b w b0 b1 w0 w1
  rw [RX_rc, RX_rc, RX_rc, RX_rc] at e
  rw [e]
  by_cases c : b = i
  · subst c
    rw [if_pos rfl, if_neg (Ne.symm hij), if_pos rfl]
  · by_cases d : b = j
    · subst d
      rw [if_neg c, if_pos rfl, if_pos rfl]
    · rw [if_neg c, if_neg d, if_neg c, if_neg d]
noncomputable def ordN (R : aRun) : Nat → Int × Int
  | 0 => (-2, -2)
  | n + 1 => if ans (RX R n (n + 1)) < 0 then ordN R n else if (ordN R n).2 = -2 ∨ ans (RX R n (n + 1)) < (ordN R n).2 then ((n : Int), ans (RX R n (n + 1))) else ordN R n
theorem ordN_s (n : Nat) : ordN R (n + 1) = if ans (RX R n (n + 1)) < 0 then ordN R n else if (ordN R n).2 = -2 ∨ ans (RX R n (n + 1)) < (ordN R n).2 then ((n : Int), ans (RX R n (n + 1))) else ordN R n := rfl
theorem ordN_in : ∀ n : Nat, (ordN R n).1 = -2 ↔ (ordN R n).2 = -2 := by
  intro n
  induction n with
  | zero => exact ⟨fun _ => rfl, fun _ => rfl⟩
  | succ n ih =>
    rw [ordN_s]
    split
    · exact ih
    · split
      · rename_i h1 h2
        exact ⟨fun z => by have z : (n : Int) = -2 := z; omega, fun z => by have z : ans (RX R n (n + 1)) = -2 := z; omega⟩
      · exact ih
noncomputable def ordV (R : aRun) (k : Int) : Int := if 0 ≤ k ∧ k ≤ 1 then (if k = 0 then (ordN R (rn R - 1).toNat).1 else (ordN R (rn R - 1).toNat).2) else -1
theorem ord_ends : rn R ≤ 1 → (rn R - 1).toNat = 0 := fun h => by omega
end
