/-! ===== the other one's acts kept ===== -/
section
variable {τ τ' : iMem} {R : aRun} {H : Nat → aRun} {n : Nat} {x : Int} {K : Int → aRun} {f : Int → Int} {L : Int} {T : Int → Int}
/-! the object's -/
theorem ip_beginAct {Q : Unit → iMem → Prop} (hC : RunC τ 1 R) (hn : rn R ≤ 16) (hP : PaC H n x τ) (n10 : n ≤ 10)
    (hQ : ∀ τ', PaC (puH H n R) (puN n) ((x + 1) % 10) τ' → RunC τ' 1 R → τ' 0 9 = 0 → τ' 0 10 = 0 → (∀ a k, ¬ ((13 ≤ a ∧ a ≤ 44) ∨ (a = 0 ∧ (k = 9 ∨ k = 10))) → τ' a k = τ a k) → Q () τ') : ip (iz_Top_beginAct 0) Q τ := by
  unfold iz_Top_beginAct
  rw [t_3, t_0, ip_B]
  refine ip_push hC hn hP n10 (fun τ1 w1 w2 => ?_)
  unfold iz_Top_changed
  rw [ip_B, ip_B, ip_Pz]
  refine ⟨Or.inl rfl, ?_⟩
  rw [ip_B, ip_Pz]
  refine ⟨Or.inl rfl, ?_⟩
  rw [ip_P, ip_P]
  have hf : ∀ a k, ¬ (a = 0 ∧ (k = 9 ∨ k = 10)) → iu (iu τ1 0 9 0) 0 10 0 a k = τ1 a k := fun a k z => by rw [iu_ne (by omega), iu_ne (by omega)]
  refine hQ _ (w1.frame (fun a k _ _ => hf a k (by omega))) (hC.frame (fun a k _ _ => by rw [hf a k (by omega), w2 a k (by omega)])) ?_ iu_eq (fun a k z => by rw [hf a k (by omega), w2 a k (by omega)])
  rw [iu_ne (Or.inr (by omega)), iu_eq]
theorem CS.next {R' : aRun} {H' : Nat → aRun} {n' : Nat} {x' : Int} (h : CS R H n x K f L T τ) (hC : RunC τ' 1 R') (h9 : τ' 0 9 = 0) (h10 : τ' 0 10 = 0) (hP : PaC H' n' x' τ') (hf : ∀ a k, (a = 0 ∧ k = 5) ∨ (a = 4 ∨ a = 5) ∨ (45 ≤ a ∧ a ≤ 366) → τ' a k = τ a k) : CS R' H' n' x' K f L T τ' := by
  obtain ⟨⟨g1, g2, g3, g4, g5, g6, g7⟩, gB, gP, gK, gT⟩ := h
  refine ⟨⟨hC, ?_, g3.frame (hf _ _ (by omega)) (fun k => hf _ _ (by omega)), Or.inl h9, Or.inl h10, fun q => by omega, fun q => by omega⟩, gB.frame (fun a k z => hf a k (by omega)), hP, gK.frame (hf _ _ (by omega)) (fun a k _ _ => hf a k (by omega)), gT.frame (hf _ _ (by omega)) (fun k => hf _ _ (by omega))⟩
  unfold FlZ at g2 ⊢
  rw [hf _ _ (by omega), hf _ _ (by omega), hf _ _ (by omega)]
  exact g2
/-! what an act makes of a RUN -/
def RP (R : aRun) (b w v : Int) : aRun := (R.1, R.2.1, fun c u => if c = b ∧ u = w then v else R.2.2 c u)
def RA (R : aRun) (b : Int) : aRun := (R.1 + 1, R.2.1, fun c u => if c = R.1 then R.2.2 b u else R.2.2 c u)
def RD (R : aRun) (b : Int) : aRun := (R.1 - 1, R.2.1, fun c u => if c < b then R.2.2 c u else R.2.2 (c + 1) u)
theorem RP_rc {b w v c u : Int} : rc (RP R b w v) c u = if c = b ∧ u = w then v else rc R c u := rfl
theorem RA_rc {b c u : Int} : rc (RA R b) c u = if c = rn R then rc R b u else rc R c u := rfl
theorem RD_rc {b c u : Int} : rc (RD R b) c u = if c < b then rc R c u else rc R (c + 1) u := rfl
theorem RP_wf {b w v : Int} (h : WF R) (h0 : 0 ≤ b) (h1 : b < rn R) (hv : (w = 4 ∧ rc R b 0 ≠ 4 ∧ (v = 0 ∨ v = 1)) ∨ (w = 6 ∧ 0 ≤ v ∧ v ≤ 30)) : WF (RP R b w v) := by
  obtain ⟨a1, a2, a3, a4⟩ := h
  have w1 : ∀ c u, u ≠ 4 → u ≠ 6 → rc (RP R b w v) c u = rc R c u := fun c u u4 u6 => by rw [RP_rc, if_neg (by omega)]
  refine ⟨a1, a2, fun c c0 c1 => ?_, ?_⟩
  · have g := a3 c c0 c1
    have e4 : rc (RP R b w v) c 4 = if c = b ∧ (4 : Int) = w then v else rc R c 4 := RP_rc
    have e6 : rc (RP R b w v) c 6 = if c = b ∧ (6 : Int) = w then v else rc R c 6 := RP_rc
    unfold WFb at g ⊢
    rw [w1 c 0 (by omega) (by omega), w1 c 1 (by omega) (by omega), w1 c 2 (by omega) (by omega), w1 c 3 (by omega) (by omega), w1 c 5 (by omega) (by omega), w1 c 7 (by omega) (by omega), w1 c 12 (by omega) (by omega), w1 c 13 (by omega) (by omega), w1 c 14 (by omega) (by omega), w1 c 15 (by omega) (by omega), e4, e6]
    by_cases c4 : c = b
    · subst c4
      rcases hv with ⟨v1, v2, v3⟩ | ⟨v1, v2⟩
      · rw [if_pos ⟨rfl, v1.symm⟩, if_neg (by omega)]; omega
      · rw [if_neg (by omega), if_pos ⟨rfl, v1.symm⟩]; omega
    · rw [if_neg (fun z => c4 z.1), if_neg (fun z => c4 z.1)]
      exact g
  · have e : np (RP R b w v) = np R := sI_congr (fun i _ _ => w1 i 1 (by omega) (by omega))
    rw [e]; exact a4
theorem WFb_of {R' : aRun} {b c : Int} (h : WFb R b) (e : ∀ u, rc R' c u = rc R b u) : WFb R' c := by
  unfold WFb at h ⊢
  rw [e, e, e, e, e, e, e, e, e, e, e, e]
  exact h
theorem RA_wf {b : Int} (h : WF R) (h0 : 0 ≤ b) (h1 : b < rn R) (h16 : rn R < 16) (hp : np R + rc R b 1 ≤ 90) : WF (RA R b) := by
  obtain ⟨a1, a2, a3, a4⟩ := h
  have en : rn (RA R b) = rn R + 1 := rfl
  refine ⟨by rw [en]; omega, a2, fun c c0 c1 => ?_, ?_⟩
  · rw [en] at c1
    by_cases d : c = rn R
    · exact WFb_of (a3 b h0 h1) (fun u => by rw [RA_rc, if_pos d])
    · exact WFb_of (a3 c c0 (by omega)) (fun u => by rw [RA_rc, if_neg d])
  · have e : np (RA R b) = np R + rc R b 1 := by
      show sI (fun c => rc (RA R b) c 1) (rn R + 1) = sI (fun c => rc R c 1) (rn R) + rc R b 1
      rw [sI_s a1.1]
      congr 1
      · exact sI_congr (fun i i0 i1 => by show rc (RA R b) i 1 = rc R i 1; rw [RA_rc, if_neg (by omega)])
      · show rc (RA R b) (rn R) 1 = _
        rw [RA_rc, if_pos rfl]
    rw [e]; exact hp
theorem sI_cut {f g : Int → Int} {b : Int} (b0 : 0 ≤ b) (h1 : ∀ k, k < b → g k = f k) (h2 : ∀ k, b ≤ k → g k = f (k + 1)) : ∀ k : Nat, sI g (b + k) = sI f (b + k + 1) - f b := by
  intro k
  induction k with
  | zero =>
    rw [show b + ((0 : Nat) : Int) = b by omega, sI_s b0, sI_congr (fun i _ i1 => h1 i i1)]
    omega
  | succ k ih =>
    rw [show b + ((k + 1 : Nat) : Int) = b + k + 1 by omega, sI_s (by omega), ih, h2 _ (by omega), sI_s (n := b + k + 1) (by omega)]
    omega
theorem RD_wf {b : Int} (h : WF R) (h0 : 0 ≤ b) (h1 : b < rn R) : WF (RD R b) := by
  obtain ⟨a1, a2, a3, a4⟩ := h
  have en : rn (RD R b) = rn R - 1 := rfl
  refine ⟨by rw [en]; omega, a2, fun c c0 c1 => ?_, ?_⟩
  · rw [en] at c1
    by_cases d : c < b
    · exact WFb_of (a3 c c0 (by omega)) (fun u => by rw [RD_rc, if_pos d])
    · exact WFb_of (a3 (c + 1) (by omega) (by omega)) (fun u => by rw [RD_rc, if_neg d])
  · have e := sI_cut (f := fun c => rc R c 1) (g := fun c => rc (RD R b) c 1) h0 (fun k hk => by show rc (RD R b) k 1 = rc R k 1; rw [RD_rc, if_pos hk]) (fun k hk => by show rc (RD R b) k 1 = rc R (k + 1) 1; rw [RD_rc, if_neg (by omega)]) (rn R - 1 - b).toNat
    rw [show b + (((rn R - 1 - b).toNat : Nat) : Int) = rn R - 1 by omega, show rn R - 1 + 1 = rn R by omega] at e
    have hb := (a3 b h0 h1).2.1.1
    have e2 : np (RD R b) = np R - rc R b 1 := e
    omega
theorem RX_wf2 {i j : Int} (h : WF R) (i0 : 0 ≤ i) (i1 : i < rn R) (j0 : 0 ≤ j) (j1 : j < rn R) (hij : i ≠ j) : WF (RX R i j) := by
  obtain ⟨a1, a2, a3, a4⟩ := h
  refine ⟨a1, a2, fun b b0 b1 => ?_, ?_⟩
  · have b1 : b < rn R := b1
    by_cases c : b = i
    · exact WFb_of (a3 j j0 j1) (fun u => by rw [RX_rc, if_pos c])
    · by_cases d : b = j
      · exact WFb_of (a3 i i0 i1) (fun u => by rw [RX_rc, if_neg c, if_pos d])
      · exact WFb_of (a3 b b0 b1) (fun u => by rw [RX_rc, if_neg c, if_neg d])
  · have pt : ∀ (c v : Int), 0 ≤ c → ∀ m : Nat, sI (fun k => if k = c then v else 0) (m : Int) = if c < m then v else 0 := by
      intro c v c0 m
      induction m with
      | zero => rw [if_neg (by omega)]; rfl
      | succ m ih =>
        rw [show ((m + 1 : Nat) : Int) = (m : Int) + 1 by omega, sI_s (by omega), ih]
        show (if c < (m : Int) then v else 0) + (if (m : Int) = c then v else 0) = _
        by_cases z : c < (m : Int)
        · rw [if_pos z, if_neg (by omega), if_pos (by omega)]; omega
        · by_cases y : (m : Int) = c
          · rw [if_neg z, if_pos y, if_pos (by omega)]; omega
          · rw [if_neg z, if_neg y, if_neg (by omega)]; omega
    have e : np (RX R i j) = np R := by
      show sI (fun b => rc (RX R i j) b 1) (rn R) = sI (fun b => rc R b 1) (rn R)
      have e1 : sI (fun b => rc (RX R i j) b 1) (rn R) = sI (fun b => rc R b 1 + ((if b = i then rc R j 1 - rc R i 1 else 0) + (if b = j then rc R i 1 - rc R j 1 else 0))) (rn R) := sI_congr (fun b _ _ => by
        show rc (RX R i j) b 1 = rc R b 1 + ((if b = i then rc R j 1 - rc R i 1 else 0) + (if b = j then rc R i 1 - rc R j 1 else 0))
        rw [RX_rc]
        by_cases c : b = i
        · rw [if_pos c, if_pos c, if_neg (by omega), c]; omega
        · by_cases d : b = j
          · rw [if_neg c, if_pos d, if_neg c, if_pos d, d]; omega
          · rw [if_neg c, if_neg d, if_neg c, if_neg d]; omega)
      have p1 := pt i (rc R j 1 - rc R i 1) i0 (rn R).toNat
      have p2 := pt j (rc R i 1 - rc R j 1) j0 (rn R).toNat
      rw [show (((rn R).toNat : Nat) : Int) = rn R by omega] at p1 p2
      rw [if_pos i1] at p1
      rw [if_pos j1] at p2
      have e2 : sI (fun b => rc R b 1 + ((if b = i then rc R j 1 - rc R i 1 else 0) + (if b = j then rc R i 1 - rc R j 1 else 0))) (rn R) = sI (fun b => rc R b 1) (rn R) + sI (fun b => (if b = i then rc R j 1 - rc R i 1 else 0) + (if b = j then rc R i 1 - rc R j 1 else 0)) (rn R) := sI_add
      have e3 : sI (fun b => (if b = i then rc R j 1 - rc R i 1 else 0) + (if b = j then rc R i 1 - rc R j 1 else 0)) (rn R) = sI (fun b => if b = i then rc R j 1 - rc R i 1 else 0) (rn R) + sI (fun b => if b = j then rc R i 1 - rc R j 1 else 0) (rn R) := sI_add
      omega
    rw [e]; exact a4
end
