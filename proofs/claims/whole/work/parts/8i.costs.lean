section
variable {τ : iMem} {R : aRun}
theorem gv_asksK (hI : InvX R τ) {s h : Int} {K : Int → iM Int} {v : Int} (hK : ∀ τ1, InvX R τ1 → gv R (K 0) (-1) τ1) (h1 : 0 ≤ s → s < ns R → 0 ≤ h → h ≤ 2000 → ∀ τ1, InvX R τ1 → τ1 0 9 = 1 → Cx R 70 53 1 τ1 → gv R (K 1) v τ1)
    (h2 : ¬ ((0 ≤ s ∧ s < ns R) ∧ 0 ≤ h ∧ h ≤ 2000) → v = -1) : gv R (iB (iz_Top_asks 0 s h) K) v τ := by
  have e : ∀ τ1, InvX R τ1 → (∀ a k, ¬ zw a k → τ1 a k = τ a k) → ¬ ((0 ≤ s ∧ s < ns R) ∧ 0 ≤ h ∧ h ≤ 2000) → ip (K 0) (fun r τ2 => r = v ∧ InvX R τ2 ∧ ∀ a k, ¬ zw a k → τ2 a k = τ a k) τ1 := by
    intro τ1 hX hf hz
    rw [h2 hz]
    exact gv_go hf (hK τ1 hX)
  unfold gv
  rw [ip_B]
  unfold iz_Top_asks
  by_cases c1 : s < 0
  · rw [ip_ifT c1, ip_P]
    exact e τ hI (fun _ _ _ => rfl) (by omega)
  · rw [ip_ifF c1, ip_B, ip_K]
    refine ip_laidOut hI.1 hI.2.1 (fun τ1 w1 w2 w3 w4 => ⟨t_k, ?_⟩)
    have hf : ∀ a k, ¬ zw a k → τ1 a k = τ a k := fun a k h => w4 a k (fun z => h (Or.inl z))
    have hX := hI.c w1 w4
    rw [ip_B, ip_Gt, pr_1 isPress_52, w3.2.1.2.1]
    by_cases c2 : ns R ≤ s
    · rw [ip_ifT c2, ip_P]
      exact e τ1 hX hf (by omega)
    · rw [ip_ifF c2]
      by_cases c3 : h < 0
      · rw [ip_ifT c3, ip_P]
        exact e τ1 hX hf (by omega)
      · rw [ip_ifF c3]
        by_cases c4 : 2000 < h
        · rw [ip_ifT c4, ip_P]
          exact e τ1 hX hf (by omega)
        · rw [ip_ifF c4, ip_P]
          exact gv_go hf (h1 (by omega) (by omega) (by omega) (by omega) τ1 hX w2 w3)
theorem ip_leastOf {pr ft fl ru ra sp : Nat} {nr s : Int} {Q : Int → iMem → Prop} (hp : isPress pr ft fl ru ra sp nr) (hw : WF R) (hx : Cx R ft fl ru τ) (a1 : 0 ≤ s) (a2 : s < ns R)
    (hQ : ∀ τ', FtI R ft τ' → (∀ a k, ¬ fw ft a k → τ' a k = τ a k) → Q (lst R s (bg R s) 0 2000) τ') : ip (iz_Fitter_leastOf ft s) Q τ := by
  have hns := ns_in hw
  have hn16 := hw.1.2
  have hb := bg_step hw s
  have hf := pr_F hp
  have hff := ft_F hf
  unfold iz_Fitter_leastOf
  rw [ip_B, ft_1 hf, fl_16 hff, ip_at a1 (by rw [fl_l13 hff]; omega), (hx.2.1.2.2.2.2 s a1 a2).1, ip_B]
  refine ip_leastFrom hf hw hx.1 hx.2.1 hx.2.2.1 hx.2.2.2 a1 a2 (Int.le_refl _) hb.2.1 (en_begin a1 a2) (Int.le_refl _) (by omega) (by omega) (Int.le_refl _) (fun τ2 hF hk => ?_)
  rw [ip_P]
  exact hQ τ2 hF hk
theorem lst_in (hw : WF R) {s : Int} : lst R s (bg R s) 0 2000 = -2 ∨ (0 ≤ lst R s (bg R s) 0 2000 ∧ lst R s (bg R s) 0 2000 ≤ 2000) := by
  have hb := bg_step hw s
  rcases lst_or hw (s := s) (p := bg R s) (c := 0) (top := 2000) (by omega) (by omega) (by omega) with h | h
  · exact Or.inl h.1
  · exact Or.inr ⟨h.1.1.1, h.2⟩
/-- a cell of every BLOCK at nought -/
def RC (R : aRun) (j : Int) : aRun := (R.1, R.2.1, fun b w => if w = j then 0 else R.2.2 b w)
theorem RC_rc {j b w : Int} : rc (RC R j) b w = if w = j then 0 else rc R b w := rfl
theorem RC_fs {j b : Int} (h : j = 4 ∨ j = 5) : fs (RC R j) b = fs R b := by
  unfold fs
  exact sI_congr (fun i _ _ => by (try dsimp only); rw [RC_rc, if_neg (by omega)])
theorem RC_sc {j b : Int} (h : j = 4 ∨ j = 5) : sc (RC R j) b = sc R b := by
  unfold sc
  exact sI_congr (fun i _ _ => by (try dsimp only); rw [RC_rc, if_neg (show ¬ (0 : Int) = j by omega)])
theorem RC_ns {j : Int} (h : j = 4 ∨ j = 5) : ns (RC R j) = ns R := by
  unfold ns
  rw [RC_sc h]
  rfl
theorem RC_wf {j : Int} (h : j = 4 ∨ j = 5) (hw : WF R) : WF (RC R j) := by
  obtain ⟨a1, a2, a3, a4⟩ := hw
  refine ⟨a1, a2, fun b b0 b1 => ?_, ?_⟩
  · have := a3 b b0 b1
    unfold WFb at this ⊢
    rw [RC_rc, RC_rc, RC_rc, RC_rc, RC_rc, RC_rc, RC_rc, RC_rc, RC_rc, RC_rc, RC_rc, RC_rc, if_neg (show ¬ (0 : Int) = j by omega), if_neg (show ¬ (1 : Int) = j by omega), if_neg (show ¬ (2 : Int) = j by omega), if_neg (show ¬ (3 : Int) = j by omega), if_neg (show ¬ (6 : Int) = j by omega), if_neg (show ¬ (7 : Int) = j by omega), if_neg (show ¬ (12 : Int) = j by omega), if_neg (show ¬ (13 : Int) = j by omega), if_neg (show ¬ (14 : Int) = j by omega), if_neg (show ¬ (15 : Int) = j by omega)]
    rcases h with rfl | rfl
    · rw [if_pos rfl, if_neg (show ¬ (5 : Int) = 4 by omega)]
      omega
    · rw [if_pos rfl, if_neg (show ¬ (4 : Int) = 5 by omega)]
      omega
  · have e : np (RC R j) = np R := by
      unfold np
      rw [RC_fs h]
      rfl
    rw [e]; exact a4
theorem ip_clearCells {o : Nat} {j : Int} {Q : Unit → iMem → Prop} (ho : isRun o) (hm : o + 2 < 405) (hR : RunC τ o R) (hn : rn R ≤ 16) (j0 : 0 ≤ j) (j1 : j < 16) (hn0 : 0 ≤ rn R)
    (hQ : ∀ τ', RunC τ' o (RC R j) → (∀ a k, a ≠ o + 2 → τ' a k = τ a k) → Q () τ') : ip (iz_Run_clearCells o j) Q τ := by
  unfold iz_Run_clearCells
  rw [ip_B]
  refine ip_mono (Q := fun _ τ' => RunC τ' o (RC R j) ∧ (∀ a k, a ≠ o + 2 → τ' a k = τ a k)) ?_ (fun _ τ' e => by rw [ip_P]; exact hQ τ' e.1 e.2)
  refine ip_W (fun i τ' => (0 ≤ i ∧ i ≤ rn R) ∧ (∀ b w, 0 ≤ b → b < rn R → 0 ≤ w → w < 16 → τ' (o + 2) (16 * b + w) = if w = j ∧ b < i then 0 else rc R b w) ∧ (∀ a k, a ≠ o + 2 → τ' a k = τ a k)) (fun i _ => (rn R - i).toNat) ?_ ⟨⟨Int.le_refl _, hn0⟩, fun b w b0 b1 w0 w1 => by rw [if_neg (by omega)]; exact hR.2.2 b w b0 b1 w0 w1, fun _ _ _ => rfl⟩
  intro i τ' ⟨b1, b2, b3⟩
  rw [ip_B, ip_Gt, b3 _ _ (by omega), hR.1]
  by_cases c : rn R ≤ i
  · rw [ip_ifT c, ip_P]
    refine ⟨⟨(b3 _ _ (by omega)).trans hR.1, fun k k0 k1 => (b3 _ _ (by omega)).trans (hR.2.1 k k0 k1), fun b w h0 h1 h2 h3 => ?_⟩, b3⟩
    have h1 : b < rn R := h1
    rw [b2 b w h0 h1 h2 h3, RC_rc]
    by_cases d : w = j
    · rw [if_pos d, if_pos ⟨d, by omega⟩]
    · rw [if_neg d, if_neg (fun q => d q.1)]
  · rw [ip_ifF c, ip_B, ip_putCell ho hm b1.1 (by omega) j0 j1, ip_A]
    refine ⟨⟨by omega, by omega⟩, ?_⟩
    rw [ip_B, ip_P, ip_P]
    simp only [Sum.elim_inl]
    refine ⟨⟨⟨by omega, by omega⟩, fun b w h0 h1 h2 h3 => ?_, fun a k h => (iu_ne (Or.inl h)).trans (b3 a k h)⟩, by omega⟩
    by_cases d : b = i ∧ w = j
    · rw [d.1, d.2, show 16 * i + j = i * 16 + j by omega, iu_eq, if_pos (by omega)]
    · rw [iu_ne (Or.inr (by omega)), b2 b w h0 h1 h2 h3]
      by_cases y : w = j ∧ b < i
      · rw [if_pos y, if_pos (by omega)]
      · rw [if_neg y, if_neg (by omega)]
/-- without a law -/
def RW (R : aRun) (k : Int) : aRun := if k = 0 then RS R 2 1 else if k = 1 then RS R 3 1 else if k = 2 then RS R 4 0 else if k = 3 then RC R 4 else RC R 5
theorem RW_is {k : Int} (P : aRun → Prop) (h0 : k = 0 → P (RS R 2 1)) (h1 : k = 1 → P (RS R 3 1)) (h2 : k = 2 → P (RS R 4 0)) (h3 : k = 3 → P (RC R 4)) (h4 : k ≠ 0 → k ≠ 1 → k ≠ 2 → k ≠ 3 → P (RC R 5)) : P (RW R k) := by
  unfold RW
  by_cases c0 : k = 0
  · rw [if_pos c0]; exact h0 c0
  · rw [if_neg c0]
    by_cases c1 : k = 1
    · rw [if_pos c1]; exact h1 c1
    · rw [if_neg c1]
      by_cases c2 : k = 2
      · rw [if_pos c2]; exact h2 c2
      · rw [if_neg c2]
        by_cases c3 : k = 3
        · rw [if_pos c3]; exact h3 c3
        · rw [if_neg c3]; exact h4 c0 c1 c2 c3
theorem RW_wf {k : Int} (hw : WF R) : WF (RW R k) :=
  RW_is (fun A => WF A) (fun _ => RS_wf hw (by unfold okS lwV hiV; omega)) (fun _ => RS_wf hw (by unfold okS lwV hiV; omega)) (fun _ => RS_wf hw (by unfold okS lwV hiV; omega)) (fun _ => RC_wf (Or.inl rfl) hw) (fun _ _ _ _ => RC_wf (Or.inr rfl) hw)
theorem RW_ns {k : Int} : ns (RW R k) = ns R := RW_is (fun A => ns A = ns R) (fun _ => rfl) (fun _ => rfl) (fun _ => rfl) (fun _ => RC_ns (Or.inl rfl)) (fun _ _ _ _ => RC_ns (Or.inr rfl))
theorem RW_rn {k : Int} : rn (RW R k) = rn R := RW_is (fun A => rn A = rn R) (fun _ => rfl) (fun _ => rfl) (fun _ => rfl) (fun _ => rfl) (fun _ _ _ _ => rfl)
theorem ip_put {j x : Int} {Q : Unit → iMem → Prop} (hS : InvS τ) (hs : okS j x) (hQ : Q () (iu τ 324 j x)) : ip (iz_Run_put 323 j x) Q τ := by
  have hs' := hs
  unfold okS at hs'
  unfold iz_Run_put
  rw [ip_B]
  refine ip_takes hS (fun r' hr' => ?_)
  have hr'' : r' = 1 := by
    rcases hr' with h | h
    · exact h.1
    · exact absurd hs h.2
  rw [ip_ifF (by omega), ip_B, ip_St, rr_1 r_323, rl_1 r_323]
  refine ⟨⟨⟨by omega, by omega⟩, by omega⟩, ?_⟩
  rw [ip_P]; exact hQ
theorem ip_withoutLaw {k : Int} {Q : Unit → iMem → Prop} (hS : InvS τ) (hw : WF R) (hR : RunC τ 323 R) (k0 : 0 ≤ k) (k4 : k ≤ 4)
    (hQ : ∀ τ', RunC τ' 323 (RW R k) → (∀ a j, ¬ (323 ≤ a ∧ a ≤ 325) → τ' a j = τ a j) → Q () τ') : ip (iz_Run_withoutLaw 323 k) Q τ := by
  unfold iz_Run_withoutLaw
  by_cases c0 : k = 0
  · rw [ip_ifT c0, ip_B]
    refine ip_put hS (by unfold okS lwV hiV; omega) ?_
    rw [ip_P]
    exact hQ _ (by rw [show RW R k = RS R 2 1 from if_pos c0]; exact RS_rc hR) (fun a j h => iu_ne (Or.inl (by omega)))
  · rw [ip_ifF c0]
    by_cases c1 : k = 1
    · rw [ip_ifT c1, ip_B]
      refine ip_put hS (by unfold okS lwV hiV; omega) ?_
      rw [ip_P]
      exact hQ _ (by rw [show RW R k = RS R 3 1 by unfold RW; rw [if_neg c0, if_pos c1]]; exact RS_rc hR) (fun a j h => iu_ne (Or.inl (by omega)))
    · rw [ip_ifF c1]
      by_cases c2 : k = 2
      · rw [ip_ifT c2, ip_B]
        refine ip_put hS (by unfold okS lwV hiV; omega) ?_
        rw [ip_P]
        exact hQ _ (by rw [show RW R k = RS R 4 0 by unfold RW; rw [if_neg c0, if_neg c1, if_pos c2]]; exact RS_rc hR) (fun a j h => iu_ne (Or.inl (by omega)))
      · rw [ip_ifF c2]
        by_cases c3 : k = 3
        · rw [ip_ifT c3, ip_B]
          refine ip_clearCells r_323 (by omega) hR hw.1.2 (by omega) (by omega) hw.1.1 (fun τ' w1 w2 => ?_)
          rw [ip_P]
          exact hQ _ (by rw [show RW R k = RC R 4 by unfold RW; rw [if_neg c0, if_neg c1, if_neg c2, if_pos c3]]; exact w1) (fun a j h => w2 a j (by omega))
        · rw [ip_ifF c3, ip_B]
          refine ip_clearCells r_323 (by omega) hR hw.1.2 (by omega) (by omega) hw.1.1 (fun τ' w1 w2 => ?_)
          rw [ip_P]
          exact hQ _ (by rw [show RW R k = RC R 5 by unfold RW; rw [if_neg c0, if_neg c1, if_neg c2, if_neg c3]]; exact w1) (fun a j h => w2 a j (by omega))
noncomputable def cosV (R : aRun) (s k : Int) : Int := if (0 ≤ s ∧ s < ns R) ∧ 0 ≤ k ∧ k ≤ 4 then (if lst R s (bg R s) 0 2000 = -2 then -2 else lst R s (bg R s) 0 2000 - lst (RW R k) s (bg (RW R k) s) 0 2000) else -1
theorem gv_costs (hI : InvX R τ) (hS : InvS τ) (s k : Int) : gv R (iz_Top_costs 0 s k) (cosV R s k) τ := by
  have hw := hI.1
  have hw' := RW_wf (k := k) hw
  have l1 := lst_in hw (s := s)
  have l2 := lst_in hw' (s := s)
  by_cases c : (0 ≤ s ∧ s < ns R) ∧ 0 ≤ k ∧ k ≤ 4
  · unfold iz_Top_costs
    have hSx : ∀ τ1, (∀ a k, ¬ zw a k → τ1 a k = τ a k) → InvS τ1 := fun τ1 hf => hS.frame (fun a k h => hf a k (by unfold zw qw mz; omega))
    unfold gv
    rw [ip_B]
    unfold iz_Top_asks
    rw [ip_ifF (by omega), ip_B, ip_K]
    refine ip_laidOut hw hI.2.1 (fun τ1 w1 w2 w3 w4 => ⟨t_k, ?_⟩)
    have hf1 : ∀ a k, ¬ zw a k → τ1 a k = τ a k := fun a k h => w4 a k (fun z => h (Or.inl z))
    have hX := hI.c w1 w4
    rw [ip_B, ip_Gt, pr_1 isPress_52, w3.2.1.2.1, ip_ifF (by omega), ip_ifF (by omega), ip_ifF (by omega), ip_P, ip_ifF (by omega), ip_ifF (by omega), ip_ifT c.2.2, t_6, pr_2 isPress_52, ip_B]
    refine ip_leastOf isPress_52 hw w3 c.1.1 c.1.2 (fun τ2 hF hk => ?_)
    have hX2 := hX.fit w2 hF hk
    have hf2 : ∀ a k, ¬ zw a k → τ2 a k = τ a k := fun a k z => (hk a k (fw_zw z)).trans (hf1 a k z)
    by_cases z : lst R s (bg R s) 0 2000 = -2
    · have ev : cosV R s k = -2 := by unfold cosV; rw [if_pos c, if_pos z]
      rw [ip_ifF (by omega), ip_P, ev]
      exact ⟨rfl, hX2, hf2⟩
    · have ev : cosV R s k = lst R s (bg R s) 0 2000 - lst (RW R k) s (bg (RW R k) s) 0 2000 := by unfold cosV; rw [if_pos c, if_neg z]
      rw [ip_ifT z, t_0, t_7, p_0, pr_2 isPress_322, ip_B]
      refine ip_ask hX2 (fun τ3 x1 x2 x3 => ?_)
      have hf3 : ∀ a k, ¬ zw a k → τ3 a k = τ a k := fun a k z => (x3 a k (by unfold zw at z; omega)).trans (hf2 a k z)
      rw [ip_B]
      refine ip_withoutLaw (hSx τ3 hf3) hw x2 c.2.1 c.2.2 (fun τ4 y1 y2 => ?_)
      have hI4 : InvX R τ4 := x1.b (x1.2.2.1.frame (fun a k _ => y2 a k (by omega))) (fun a k _ => y2 a k (by omega))
      rw [ip_B]
      refine ip_Play isPress_322 hw' y1 hI4.2.2.1.1 hI4.2.2.1.2.1 (fun τ5 v1 v2 => ?_)
      rw [ip_B]
      refine ip_leastOf isPress_322 hw' v1 c.1.1 (by rw [RW_ns]; exact c.1.2) (fun τ6 hF6 hk6 => ?_)
      have hx6 := v1.fit (pr_F isPress_322) hF6 hk6
      have hf6 : ∀ a j, a < 322 ∨ 366 < a → τ6 a j = τ4 a j := fun a j h => by rw [hk6 a j (by unfold fw; omega), v2 a j (by omega)]
      have hI6 : InvX R τ6 := hI4.b ⟨hx6.2.1.z hw', hF6.l, by rw [hk6 322 5 (by unfold fw; omega), hk6 322 6 (by unfold fw; omega), v2 322 5 (by omega), v2 322 6 (by omega)]; exact hI4.2.2.1.2.2⟩ hf6
      rw [ip_A]
      refine ⟨⟨by omega, by omega⟩, ?_⟩
      rw [ip_P, ev]
      refine ⟨rfl, hI6, fun a j z => ?_⟩
      rw [hf6 a j (by unfold zw at z; omega), y2 a j (by unfold zw at z; omega), hf3 a j z]
  · have ev : cosV R s k = -1 := if_neg c
    rw [ev]
    unfold iz_Top_costs
    refine gv_asksK hI (fun τ1 hX => gv_const hX (fun Q h => by rw [ip_ifT rfl, ip_P]; exact h)) (fun a1 a2 a3 a4 τ1 hX h9 hx => ?_) (fun _ => rfl)
    refine gv_const hX (fun Q h => ?_)
    rw [ip_ifF (by omega)]
    by_cases d : k < 0
    · rw [ip_ifT d, ip_P]; exact h
    · rw [ip_ifF d, ip_ifF (by omega), ip_P]; exact h
theorem RC_rm {τ' : iMem} {j : Int} (h : RunM τ 368 0 R) (hj : j = 4 ∨ j = 5) (h1 : ∀ b, 0 ≤ b → b < rn R → τ' 368 (9 + 16 * b + j) = 0) (h2 : ∀ a k, ¬ (a = 368 ∧ ∃ b, 0 ≤ b ∧ b < rn R ∧ k = 9 + 16 * b + j) → τ' a k = τ a k) : RunM τ' 368 0 (RC R j) := by
  refine ⟨(h2 _ _ (fun q => by obtain ⟨-, b, b0, b1, e⟩ := q; omega)).trans h.1, fun k k0 k1 => (h2 _ _ (fun q => by obtain ⟨-, b, b0, b1, e⟩ := q; omega)).trans (h.2.1 k k0 k1), fun b w b0 b1 w0 w1 => ?_⟩
  have b1 : b < rn R := b1
  have hp := pw_in w0 w1
  rw [RC_rc]
  by_cases c : w = j
  · subst c
    have e : 0 + 9 + 16 * b + pw w = 9 + 16 * b + w := by unfold pw; omega
    rw [e, if_pos rfl]
    exact h1 b b0 b1
  · rw [if_neg c, ← h.2.2 b w b0 b1 w0 w1]
    refine h2 _ _ (fun q => ?_)
    obtain ⟨-, b', c0, c1, e⟩ := q
    unfold pw at hp e
    omega
theorem ip_loosens {k : Int} {Q : Unit → iMem → Prop} (hw : WF R) (hR : RunM τ 368 0 R) (k0 : 0 ≤ k) (k4 : k ≤ 4)
    (hQ : ∀ τ', RunM τ' 368 0 (RW R k) → (∀ a j, ¬ (a = 368 ∧ 0 ≤ j ∧ j < 265) → τ' a j = τ a j) → Q () τ') : ip (iz_Model_loosens 367 k) Q τ := by
  have hn := hw.1
  unfold iz_Model_loosens
  rw [ip_B]
  have tail : ∀ τ1, k ≤ 2 → Q () τ1 → ip (iB (α := Unit) (iW (S := Int) (α := Unit) (fun s3 => iB (iz_Model_blocks 367) fun x4 => if x4 ≤ s3 then iP (Sum.inr ()) else if k ≤ 2 then iP (Sum.inr ()) else iB (α := Int) (if ¬ k = 3 then iP 5 else iP 4) fun s5 => iA (16 * s3) fun y1 => iA (9 + y1) fun y2 => iA (y2 + s5) fun y3 => iB (iSt (qm_rf 367 0) y3 0) fun _ => iA (s3 + 1) fun y4 => iB (iP y4) fun x6 => iP (Sum.inl x6)) 0) fun s2 => iP ()) Q τ1 := by
    intro τ1 hk hq
    rw [ip_B]
    refine ip_W (fun i τ2 => i = 0 ∧ τ2 = τ1) (fun _ _ => 0) ?_ ⟨rfl, rfl⟩
    intro i τ2 ⟨e1, e2⟩
    subst e1 e2
    rw [ip_B, ip_blocks]
    by_cases c : τ2 368 8 ≤ 0
    · rw [ip_ifT c, ip_P]
      simp only [Sum.elim_inr, ip_P]; exact hq
    · rw [ip_ifF c, ip_ifT hk, ip_P]
      simp only [Sum.elim_inr, ip_P]; exact hq
  by_cases c0 : k = 0
  · rw [ip_ifF (by omega), ip_B, ip_St, m_0, l_368]
    refine ⟨⟨⟨by omega, by omega⟩, by omega⟩, ?_⟩
    rw [ip_P]
    refine tail _ (by omega) (hQ _ ?_ (fun a j h => iu_ne (by omega)))
    rw [show RW R k = RS R 2 1 from if_pos c0]
    exact RS_rm hR (by omega) (by omega)
  · rw [ip_ifT c0]
    by_cases c1 : k = 1
    · rw [ip_ifF (by omega), ip_B, ip_St, m_0, l_368]
      refine ⟨⟨⟨by omega, by omega⟩, by omega⟩, ?_⟩
      rw [ip_P]
      refine tail _ (by omega) (hQ _ ?_ (fun a j h => iu_ne (by omega)))
      rw [show RW R k = RS R 3 1 by unfold RW; rw [if_neg c0, if_pos c1]]
      exact RS_rm hR (by omega) (by omega)
    · rw [ip_ifT c1]
      by_cases c2 : k = 2
      · rw [ip_ifF (by omega), ip_B, ip_St, m_0, l_368]
        refine ⟨⟨⟨by omega, by omega⟩, by omega⟩, ?_⟩
        rw [ip_P]
        refine tail _ (by omega) (hQ _ ?_ (fun a j h => iu_ne (by omega)))
        rw [show RW R k = RS R 4 0 by unfold RW; rw [if_neg c0, if_neg c1, if_pos c2]]
        exact RS_rm hR (by omega) (by omega)
      · rw [ip_ifT c2, ip_P]
        have hj : ∃ j : Int, (j = 4 ∨ j = 5) ∧ RW R k = RC R j ∧ ∀ f : Int → iM (Int ⊕ Unit), ∀ τ' Q', ip (f j) Q' τ' → ip (iB (α := Int) (if ¬ k = 3 then iP 5 else iP 4) f) Q' τ' := by
          by_cases c3 : k = 3
          · exact ⟨4, Or.inl rfl, by unfold RW; rw [if_neg c0, if_neg c1, if_neg c2, if_pos c3], fun f τ' Q' h => by rw [ip_B, ip_ifF (by omega), ip_P]; exact h⟩
          · exact ⟨5, Or.inr rfl, by unfold RW; rw [if_neg c0, if_neg c1, if_neg c2, if_neg c3], fun f τ' Q' h => by rw [ip_B, ip_ifT c3, ip_P]; exact h⟩
        obtain ⟨j, hj1, hj2, hj3⟩ := hj
        rw [ip_B]
        refine ip_mono (Q := fun _ τ' => (∀ b, 0 ≤ b → b < rn R → τ' 368 (9 + 16 * b + j) = 0) ∧ (∀ a x, ¬ (a = 368 ∧ ∃ b, 0 ≤ b ∧ b < rn R ∧ x = 9 + 16 * b + j) → τ' a x = τ a x)) ?_ (fun _ τ' e => ?_)
        · refine ip_W (fun i τ' => (0 ≤ i ∧ i ≤ rn R) ∧ (∀ b, 0 ≤ b → b < i → τ' 368 (9 + 16 * b + j) = 0) ∧ (∀ a x, ¬ (a = 368 ∧ ∃ b, 0 ≤ b ∧ b < rn R ∧ x = 9 + 16 * b + j) → τ' a x = τ a x)) (fun i _ => (rn R - i).toNat) ?_ ⟨⟨Int.le_refl _, hn.1⟩, fun b b0 b1 => by omega, fun _ _ _ => rfl⟩
          intro i τ' ⟨b1, b2, b3⟩
          rw [ip_B, ip_blocks, b3 368 8 (fun q => by obtain ⟨-, b, q0, q1, e⟩ := q; omega), rm_n hR]
          by_cases c : rn R ≤ i
          · rw [ip_ifT c, ip_P]
            exact ⟨fun b h0 h1 => b2 b h0 (by omega), b3⟩
          · rw [ip_ifF c, ip_ifF (by omega)]
            refine hj3 _ _ _ ?_
            rw [ip_A]
            refine ⟨⟨by omega, by omega⟩, ?_⟩
            rw [ip_A]
            refine ⟨⟨by omega, by omega⟩, ?_⟩
            rw [ip_A]
            refine ⟨⟨by omega, by omega⟩, ?_⟩
            rw [ip_B, ip_St, m_0, l_368]
            refine ⟨⟨⟨by omega, by omega⟩, by omega⟩, ?_⟩
            rw [ip_A]
            refine ⟨⟨by omega, by omega⟩, ?_⟩
            rw [ip_B, ip_P, ip_P]
            simp only [Sum.elim_inl]
            refine ⟨⟨⟨by omega, by omega⟩, fun b h0 h1 => ?_, fun a x h => ?_⟩, by omega⟩
            · by_cases d : b = i
              · subst d; exact iu_eq
              · rw [iu_ne (Or.inr (by omega))]; exact b2 b h0 (by omega)
            · have hne : a ≠ 368 ∨ x ≠ 9 + 16 * i + j := by
                by_cases y : a = 368
                · exact Or.inr (fun q => h ⟨y, i, b1.1, by omega, q⟩)
                · exact Or.inl y
              rw [iu_ne hne]
              exact b3 a x h
        · rw [ip_P]
          refine hQ τ' ?_ (fun a x h => e.2 a x (fun q => ?_))
          · rw [hj2]; exact RC_rm hR hj1 e.1 e.2
          · obtain ⟨q1, b, q2, q3, q4⟩ := q
            exact h ⟨q1, by omega, by omega⟩
theorem gv_Mcosts (hI : InvX R τ) (s k : Int) : gv R (iz_Model_costs 367 s k) (cosV R s k) τ := by
  have hw := hI.1
  have hw' := RW_wf (k := k) hw
  have l1 := lst_in hw (s := s)
  have l2 := lst_in hw' (s := s)
  unfold iz_Model_costs
  refine gv_Masks hI (fun a1 a2 τ1 hX hx => ?_) (fun z => if_neg (fun q => z q.1))
  unfold gv
  rw [ip_B, ip_in]
  by_cases c : k < 0 ∨ 4 < k
  · have ev : cosV R s k = -1 := if_neg (by omega)
    rw [if_pos c, ip_ifF (by omega), ip_P, ev]
    exact ⟨rfl, hX, fun _ _ _ => rfl⟩
  · have c' : (0 ≤ s ∧ s < ns R) ∧ 0 ≤ k ∧ k ≤ 4 := by omega
    rw [if_neg c, ip_ifT (by omega), ip_B]
    refine ip_MleastOf hw hx.1 hx.2 a1 a2 (fun τ2 hf2 => ?_)
    have hX2 := hX.n hf2
    by_cases z : lst R s (bg R s) 0 2000 = -2
    · have ev : cosV R s k = -2 := by unfold cosV; rw [if_pos c', if_pos z]
      rw [ip_ifF (by omega), ip_P, ev]
      exact ⟨rfl, hX2, fun a k z => hf2 a k (zw_387 z)⟩
    · have ev : cosV R s k = lst R s (bg R s) 0 2000 - lst (RW R k) s (bg (RW R k) s) 0 2000 := by unfold cosV; rw [if_pos c', if_neg z]
      rw [ip_ifT (by omega), ip_B]
      refine ip_keepsAside (fun τ3 w1 w2 => ?_)
      have hR3 : RunM τ3 368 0 R := hX2.2.2.2.frame (fun k => w2 _ _ (by omega))
      rw [ip_B]
      refine ip_loosens hw hR3 c'.2.1 c'.2.2 (fun τ4 y1 y2 => ?_)
      rw [ip_B]
      refine ip_lays hw' y1 (fun τ5 v1 v3 => ?_)
      have hR5 : RunM τ5 368 0 (RW R k) := y1.frame (fun k => v3 _ _ (by unfold mlw; omega))
      rw [ip_B]
      refine ip_MleastOf hw' hR5 v1 a1 (by rw [RW_ns]; exact a2) (fun τ6 hf6 => ?_)
      rw [ip_B]
      refine ip_putsBack (fun τ7 u1 u2 => ?_)
      have e368 : ∀ j, τ7 368 j = τ2 368 j := back_is (τ := τ2) (τ1 := τ3) (τ2 := τ6) w1 (fun j => by rw [hf6 _ _ (by omega), v3 _ _ (by unfold mlw; omega), y2 _ _ (by omega)]) (fun j hj => by rw [hf6 _ _ (by omega), v3 _ _ (by unfold mlw; omega), y2 _ _ (by omega), w2 _ _ (by omega)]) u1 u2
      have hf : ∀ a j, ¬ mz a j → τ7 a j = τ2 a j := fun a j z => by
        by_cases c : a = 368
        · rw [c]; exact e368 j
        · rw [u2 a j (by omega), hf6 a j (by unfold mz at z; omega), v3 a j (by unfold mz at z; unfold mlw; omega), y2 a j (by omega), w2 a j (by unfold mz at z; omega)]
      rw [ip_A]
      refine ⟨⟨by omega, by omega⟩, ?_⟩
      rw [ip_P, ev]
      exact ⟨rfl, hX2.m hf, fun a j z => (hf a j (fun y => z (Or.inr (Or.inr y)))).trans (hf2 a j (zw_387 z))⟩
theorem two_costs (hI : InvX R τ) (hS : InvS τ) (s k : Int) : two R (iz_Top_costs 0 s k) (iz_Model_costs 367 s k) τ := gv_two (gv_costs hI hS s k) (fun _ q _ => gv_Mcosts q s k)
end
