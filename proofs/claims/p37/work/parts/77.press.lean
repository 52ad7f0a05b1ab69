theorem filN_stay {R : aRun} {s : Int} {P : aP} {i : Nat} (h : (filN R s i P).2.2 = 0) : ∀ k : Nat, filN R s (i + k) P = filN R s i P := by
  intro k
  induction k with
  | zero => rfl
  | succ k ih =>
    rw [show i + (k + 1) = (i + k) + 1 from rfl, filN_s, ih, if_pos h]
section
variable {τ : iMem} {pr ft fl ru ra sp : Nat} {nr : Int} {R : aRun} {P : aP} {s : Int}
set_option maxHeartbeats 1000000 in
theorem ip_fill {Q : Int → iMem → Prop} (hp : isPress pr ft fl ru ra sp nr) (hw : WF R) (hx : Cx R ft fl ru τ) (hP : PrC R pr ra nr τ P) (hk : okP R s P) (hcn : pcn P < 10000) (h0 : 0 ≤ s) (hs : s < ns R)
    (hQ : ∀ τ', Cx R ft fl ru τ' → PrC R pr ra nr τ' (fil R s P).1 → (∀ a k, ¬ ((a = pr ∧ (k = 4 ∨ k = 7 ∨ k = 8)) ∨ (ra < a ∧ a ≤ ra + nr.toNat)) → τ' a k = τ a k) → Q (fil R s P).2 τ') : ip (iz_Press_fill pr s) Q τ := by
  have hf := pr_F hp
  have hff := ft_F hf
  have hfe := ft_e hf
  have hfa := fl_a hff
  have ho := pr_o hp
  have hr := fl_r hff
  have hS := hw.2.1.1
  have hH := hw.2.1.2.1
  have hb := bg_step hw s
  obtain ⟨x1, x2, x3, x4⟩ := id hx
  obtain ⟨⟨p4, p5, p6, p7, p8⟩, pR⟩ := id hP
  have hl := filN_ok hw h0 hs hk
  unfold iz_Press_fill
  rw [pr_0 hp, pr_2 hp, ip_B, ip_Gt, p4, ip_B, ip_Gt, p7, ip_B, ip_Gt, p8, ip_B, ip_settingC hr x1 (by omega) (by omega), ip_B]
  refine ip_mono (Q := fun v τ' => Cx R ft fl ru τ' ∧ v = (filN R s (rs R 0).toNat P).2.1 ∧ (∀ a k, ¬ ((a = pr ∧ (k = 4 ∨ k = 7 ∨ k = 8)) ∨ (ra < a ∧ a ≤ ra + nr.toNat)) → τ' a k = τ a k) ∧ (v ≠ 0 → PrC R pr ra nr τ' (filN R s (rs R 0).toNat P).1) ∧ (∀ i : Int, 0 ≤ i → i < pcn P → i < nr → rowC R τ' (ra + 1 + i.toNat) (pC P i))) ?_ ?_
  · rw [ip_B]
    refine ip_W (fun (q : Int × Int) τ' => 0 ≤ q.2 ∧ q.2 ≤ rs R 0 ∧ (filN R s q.2.toNat P).2.2 = 1 ∧ q.1 = (filN R s q.2.toNat P).2.1 ∧ Cx R ft fl ru τ' ∧ PrC R pr ra nr τ' (filN R s q.2.toNat P).1 ∧ (∀ a k, ¬ ((a = pr ∧ (k = 4 ∨ k = 7 ∨ k = 8)) ∨ (ra < a ∧ a ≤ ra + nr.toNat)) → τ' a k = τ a k)) (fun (q : Int × Int) _ => (rs R 0 - q.2).toNat) ?_ ⟨Int.le_refl _, by show (0 : Int) ≤ rs R 0; omega, rfl, rfl, hx, hP, fun _ _ _ => rfl⟩
    intro q τ' ⟨i0, i1, iok, iv, ix, iP', if'⟩
    obtain ⟨sv, i⟩ := q
    dsimp only at i0 i1 iok iv iP' ⊢
    have hli := hl i.toNat (by omega)
    obtain ⟨l1, l2, l3, l4, l5, l6, l7, l8, l9⟩ := hli
    have rows : ∀ j : Int, 0 ≤ j → j < pcn P → j < nr → rowC R τ' (ra + 1 + j.toNat) (pC P j) := by
      intro j j0 j1 j2
      have := iP'.2 j j0 (by omega) j2
      unfold rowC at *
      rw [l9 _ _ j1, l9 _ _ j1, l9 _ _ j1, l9 _ _ j1, l9 _ _ j1, l9 _ _ j1, l9 _ _ j1, l9 _ _ j1, l9 _ _ j1] at this
      exact this
    by_cases c1 : rs R 0 ≤ i
    · have : i = rs R 0 := by omega
      subst this
      rw [ip_ifT c1, ip_P]
      simp only [Sum.elim_inr, ip_P]
      exact ⟨ix, iv, if', fun _ => iP', rows⟩
    · rw [ip_ifF c1, ip_B, ip_Gt, iP'.1.2.2.2.1, ip_B, ip_Gt, iP'.1.2.2.2.2, ip_B, ip_Gt, iP'.1.2.2.1, ip_B]
      refine ip_latestF hf hw ix h0 hs l1.2.2.2.1.1 l1.2.2.2.2.2.1.1 l1.2.2.2.2.2.1.2 l1.2.2.1.1 (by have := l1.2.2.1.2; omega) ?_
      have es : (i + 1).toNat = i.toNat + 1 := by omega
      have hstep := filN_s (R := R) (s := s) (i := i.toNat) (P := P)
      rw [if_neg (by omega), show ((i.toNat : Nat) : Int) = i by omega] at hstep
      by_cases c2 : lateF R s (pat (filN R s i.toNat P).1) (pca (filN R s i.toNat P).1) (pfr (filN R s i.toNat P).1) = -1
      · rw [ip_ifF (by omega), ip_P]
        simp only [Sum.elim_inr, Sum.elim_inl, ip_P]
        rw [if_pos c2] at hstep
        have st : filN R s (rs R 0).toNat P = filN R s (i.toNat + 1) P := by
          have := filN_stay (R := R) (s := s) (P := P) (i := i.toNat + 1) (by rw [hstep]) ((rs R 0).toNat - (i.toNat + 1))
          rwa [show i.toNat + 1 + ((rs R 0).toNat - (i.toNat + 1)) = (rs R 0).toNat by omega] at this
        refine ⟨ix, by rw [st, hstep], if', fun z => absurd rfl z, rows⟩
      · have a := lateF_ok c2
        rw [if_neg c2] at hstep
        rw [ip_ifT c2, ip_B, ip_Gt, iP'.1.2.2.1, ip_B]
        refine ip_putColumn hp hw ix iP' l1 (by omega) a.1 a.2.1 a.2.2.2 l1.2.2.1.1 (by have := l1.2.2.1.2; omega) (Or.inl rfl) (fun r τ2 hr01 w1 w2 => ?_)
        rw [ip_B]
        have tail : ∀ v, v = (filN R s (i.toNat + 1) P).2.1 → ip (iA (i + 1) fun y1 => iB (iP y1) fun x16 => iP (Sum.inl (v, x16) : (Int × Int) ⊕ (Unit ⊕ Int))) (fun r τ' => Sum.elim (fun s' => (0 ≤ s'.2 ∧ s'.2 ≤ rs R 0 ∧ (filN R s s'.2.toNat P).2.2 = 1 ∧ s'.1 = (filN R s s'.2.toNat P).2.1 ∧ Cx R ft fl ru τ' ∧ PrC R pr ra nr τ' (filN R s s'.2.toNat P).1 ∧ ∀ (a : Nat) (k : Int), ¬ ((a = pr ∧ (k = 4 ∨ k = 7 ∨ k = 8)) ∨ (ra < a ∧ a ≤ ra + nr.toNat)) → τ' a k = τ a k) ∧ (rs R 0 - s'.2).toNat < (rs R 0 - i).toNat) (fun a => ip (Sum.elim (fun s6 => iP 0) iP a) (fun v τ' => Cx R ft fl ru τ' ∧ v = (filN R s (rs R 0).toNat P).2.1 ∧ (∀ (a : Nat) (k : Int), ¬ ((a = pr ∧ (k = 4 ∨ k = 7 ∨ k = 8)) ∨ (ra < a ∧ a ≤ ra + nr.toNat)) → τ' a k = τ a k) ∧ (v ≠ 0 → PrC R pr ra nr τ' (filN R s (rs R 0).toNat P).1) ∧ ∀ i : Int, 0 ≤ i → i < pcn P → i < nr → rowC R τ' (ra + 1 + i.toNat) (pC P i)) τ') r) τ2 := by
          intro v hv
          rw [ip_A]
          refine ⟨⟨by omega, by omega⟩, ?_⟩
          rw [ip_B, ip_P, ip_P]
          simp only [Sum.elim_inl]
          refine ⟨⟨by omega, by omega, by rw [es, hstep], by rw [es]; exact hv, ix.frame hfe (fun a k hk => w2 a k (by omega)), by rw [es, hstep]; exact w1, fun a k hk => (w2 a k hk).trans (if' a k hk)⟩, by omega⟩
        rw [ip_B]
        rcases hr01 with ⟨q1, q2⟩ | ⟨q1, q2⟩
        · rw [q1, ip_ifT (by omega), ip_P]
          simp only [Sum.elim_inl, ip_P]
          refine tail 1 ?_
          rw [hstep]
          exact (if_pos q2).symm
        · have ev : (filN R s (i.toNat + 1) P).2.1 = (filN R s i.toNat P).2.1 := by rw [hstep]; exact if_neg q2
          rw [q1, ip_ifF (by omega)]
          by_cases c3 : sv = 0
          · rw [ip_ifT c3, ip_P]
            simp only [Sum.elim_inr, ip_P]
            exact tail 0 (by rw [ev, ← iv, c3])
          · rw [ip_ifF c3, ip_P]
            simp only [Sum.elim_inl, ip_P]
            exact tail 1 (by rw [ev]; rcases l6 with z | z; omega; exact z.symm)
  · intro v τ1 ⟨w1, w2, w3, w4, w5⟩
    have hv01 := (hl (rs R 0).toNat (Nat.le_refl _)).2.2.2.2.2.1
    rw [← w2] at hv01
    by_cases c : v = 0
    · rw [ip_ifF (by omega)]
      have ef : fil R s P = (P, 0) := by unfold fil; rw [if_pos (by omega)]
      rw [ef] at hQ
      simp only [ip_B, ip_Pt, ip_Z, ip_P]
      refine ⟨hv01, ?_⟩
      rw [c]
      refine hQ _ (w1.frame hfe (fun a k hk => by simp (disch := omega) only [iu_ne])) ⟨⟨?_, ?_, ?_, ?_, ?_⟩, fun j j0 j1 j2 => ?_⟩ (fun a k hk => ?_)
      · simp (disch := omega) only [iu_ne, iu_eq]
      · simp (disch := omega) only [iu_ne]; rw [w3 _ _ (by omega)]; exact p5
      · simp (disch := omega) only [iu_ne]; rw [w3 _ _ (by omega)]; exact p6
      · simp (disch := omega) only [iu_ne, iu_eq]
      · rw [iu_eq]
      · have := w5 j j0 j1 j2
        unfold rowC at *
        simp (disch := omega) only [iu_ne]
        exact this
      · simp (disch := omega) only [iu_ne]
        exact w3 a k hk
    · rw [ip_ifT c, ip_B, ip_Z, ip_P]
      have ef : fil R s P = ((filN R s (rs R 0).toNat P).1, 1) := by unfold fil; rw [if_neg (by omega)]
      rw [ef] at hQ
      refine ⟨hv01, ?_⟩
      rw [show v = 1 by omega]
      exact hQ τ1 w1 (w4 c) w3
theorem ip_pageIsFree {Q : Int → iMem → Prop} (hp : isPress pr ft fl ru ra sp nr) (hx : Cx R ft fl ru τ) (h6 : τ pr 6 = pfr P) : ip (iz_Press_pageIsFree pr) Q τ ↔ Q (if pfr P = rs R 1 then 1 else 0) τ := by
  have hr := fl_r (ft_F (pr_F hp))
  unfold iz_Press_pageIsFree
  rw [pr_0 hp, ip_B, ip_Gt, h6, ip_B, ip_settingC hr hx.1 (by omega) (by omega)]
  by_cases c : pfr P = rs R 1
  · rw [ip_ifF (by omega), ip_P, if_pos c]
  · rw [ip_ifT c, ip_P, if_neg c]
theorem ip_turnPage {Q : Unit → iMem → Prop} (hp : isPress pr ft fl ru ra sp nr) (hx : Cx R ft fl ru τ) (h5 : τ pr 5 = ppg P) (h7 : τ pr 7 = pat P) (hg : 0 ≤ ppg P)
    (hQ : Q () (if ppg P < 39 then iu (iu τ pr 5 (ppg P + 1)) pr 6 (rs R 1) else iu τ pr 9 (pat P))) : ip (iz_Press_turnPage pr) Q τ := by
  have hr := fl_r (ft_F (pr_F hp))
  have ho := pr_o hp
  unfold iz_Press_turnPage
  rw [pr_0 hp, ip_B, ip_Gt, h5]
  by_cases c : ppg P < 39
  · rw [if_pos c] at hQ
    rw [ip_ifT c, ip_B, ip_Gt, h5, ip_A]
    refine ⟨⟨by omega, by omega⟩, ?_⟩
    rw [ip_B, ip_Pt, ip_B, ip_setting hr (by omega) (by omega), iu_ne (Or.inl (by omega)), hx.1.2.1 1 (by omega) (by omega), ip_B, ip_Pt, ip_P]
    exact hQ
  · rw [if_neg c] at hQ
    rw [ip_ifF c, ip_B, ip_Gt, h7, ip_B, ip_Pt, ip_P]
    exact hQ
theorem secN_s {n : Nat} : secN R s (n + 1) P = if lst R s (pat P) (pca P) (pfr P) ≠ -2 then (frP (pfr P - lst R s (pat P) (pca P) (pfr P)) (lvl R s (lst R s (pat P) (pca P) (pfr P)) P), -1)
    else if (fil R s P).2 = 0 ∧ pfr P = rs R 1 then (P, pat P)
    else if 39 ≤ ppg P then ((fil R s P).1, pat (fil R s P).1)
    else secN R s n (pgP R (fil R s P).1) := rfl
/-- what the least height is, if there is one -/
theorem lst_or (hw : WF R) {p c top : Int} (h0 : 0 ≤ p) (ht : 0 ≤ top) (ht2 : top ≤ 2000) : (lst R s p c top = -2 ∧ be R s top (rs R 0).toNat p < c) ∨ (isL R s p c (lst R s p c top) ∧ lst R s p c top ≤ top) := by
  by_cases d : c ≤ be R s top (rs R 0).toNat p
  · refine Or.inr ?_
    have key : ∀ n : Nat, (n : Int) ≤ top → (∀ h : Int, 0 ≤ h → h < n → be R s h (rs R 0).toNat p < c) ∨ ∃ v, isL R s p c v ∧ v ≤ top := by
      intro n
      induction n with
      | zero => intro _; exact Or.inl (fun h h1 h2 => by omega)
      | succ n ih =>
        intro hn
        rcases ih (by omega) with q | q
        · by_cases z : be R s n (rs R 0).toNat p < c
          · refine Or.inl (fun h h1 h2 => ?_)
            by_cases y : h = n
            · rw [y]; exact z
            · exact q h h1 (by omega)
          · exact Or.inr ⟨n, ⟨⟨by omega, by omega⟩, by omega, q⟩, by omega⟩
        · exact Or.inr q
    have : ∃ v, isL R s p c v ∧ v ≤ top := by
      rcases key top.toNat (by omega) with q | q
      · exact ⟨top, ⟨⟨ht, ht2⟩, d, fun h h1 h2 => q h h1 (by omega)⟩, Int.le_refl _⟩
      · exact q
    obtain ⟨v, v1, v2⟩ := this
    rw [lst_is hw h0 v1 v2]
    exact ⟨v1, v2⟩
  · exact Or.inl ⟨lst_no (by omega), by omega⟩
set_option maxHeartbeats 1000000 in
theorem ip_pourSection {Q : Unit → iMem → Prop} (hp : isPress pr ft fl ru ra sp nr) (hw : WF R) (hx : Cx R ft fl ru τ) (hP : PrC R pr ra nr τ P) (hk : okP R s P) (hcn : pcn P + 5 * (50 - ppg P) < 10000) (h0 : 0 ≤ s) (hs : s < ns R) (h9 : τ pr 9 = -1)
    (hQ : ∀ τ', Cx R ft fl ru τ' → PrC R pr ra nr τ' (secN R s 41 P).1 → τ' pr 9 = (secN R s 41 P).2 → (∀ a k, ¬ (fw ft a k ∨ (a = pr ∧ 4 ≤ k ∧ k ≤ 9) ∨ (ra < a ∧ a ≤ ra + nr.toNat)) → τ' a k = τ a k) → Q () τ') : ip (iz_Press_pourSection pr s) Q τ := by
  have hf := pr_F hp
  have hff := ft_F hf
  have hfe := ft_e hf
  have hfa := fl_a hff
  have ho := pr_o hp
  have hS := hw.2.1.1
  have hH := hw.2.1.2.1
  have hb := bg_step hw s
  unfold iz_Press_pourSection
  rw [ip_B, pr_2 hp]
  refine ip_mono (Q := fun _ τ' => Cx R ft fl ru τ' ∧ PrC R pr ra nr τ' (secN R s 41 P).1 ∧ τ' pr 9 = (secN R s 41 P).2 ∧ (∀ a k, ¬ (fw ft a k ∨ (a = pr ∧ 4 ≤ k ∧ k ≤ 9) ∨ (ra < a ∧ a ≤ ra + nr.toNat)) → τ' a k = τ a k)) ?_ (fun _ τ' q => by rw [ip_P]; exact hQ τ' q.1 q.2.1 q.2.2.1 q.2.2.2)
  refine ip_W (fun q τ' => (0 ≤ q.2 ∧ q.2 ≤ 41) ∧ Cx R ft fl ru τ' ∧ (∀ a k, ¬ (fw ft a k ∨ (a = pr ∧ 4 ≤ k ∧ k ≤ 9) ∨ (ra < a ∧ a ≤ ra + nr.toNat)) → τ' a k = τ a k) ∧
    ((q.1 = 0 ∧ τ' pr 9 = -1 ∧ ∃ P', PrC R pr ra nr τ' P' ∧ okP R s P' ∧ pcn P' + 5 * (50 - ppg P') < 10000 ∧ secN R s (41 - q.2.toNat) P' = secN R s 41 P) ∨
     ((q.1 ≠ 0 ∨ τ' pr 9 ≠ -1) ∧ PrC R pr ra nr τ' (secN R s 41 P).1 ∧ τ' pr 9 = (secN R s 41 P).2))) (fun q _ => (41 - q.2).toNat) ?_ ⟨⟨Int.le_refl _, by show (0 : Int) ≤ 41; omega⟩, hx, fun _ _ _ => rfl, Or.inl ⟨rfl, h9, P, hP, hk, hcn, rfl⟩⟩
  intro q τ' ⟨i01, ix, if', hq⟩
  obtain ⟨done, i⟩ := q
  dsimp only at i01 hq ⊢
  rcases hq with ⟨d0, d9, P', e1, e2, e3, e4⟩ | ⟨d0, e1, e2⟩
  · subst d0
    by_cases c1 : 40 < i
    · have : i = 41 := by omega
      subst this
      rw [ip_ifT c1, ip_P]
      have e4 : secN R s 0 P' = secN R s 41 P := e4
      have e5 : secN R s 0 P' = (P', -1) := rfl
      simp only [Sum.elim_inr]
      rw [← e4, e5]
      exact ⟨ix, e1, d9, if'⟩
    · have en : 41 - i.toNat = (40 - i.toNat) + 1 := by omega
      rw [en, secN_s] at e4
      obtain ⟨k1, k2, k3, k4, k5, k6, k7⟩ := id e2
      rw [ip_ifF c1, ip_ifF (by omega), ip_B, ip_Gt, d9, ip_ifF (by omega), ip_B, ip_Gt, e1.1.2.2.2.1, ip_B, ip_Gt, e1.1.2.2.2.2, ip_B, ip_Gt, e1.1.2.2.1, ip_B]
      obtain ⟨x1, x2, x3, x4⟩ := id ix
      refine ip_leastFrom hf hw x1 x2 x3 x4 h0 hs k4.1 k4.2 k5 k6.1 k6.2 k3.1 (by omega) (fun τ2 yI yf => ?_)
      have yx : Cx R ft fl ru τ2 := ix.fit hf yI yf
      have yP : PrC R pr ra nr τ2 P' := e1.frame (fun k _ _ => yf _ _ (by unfold fw; omega)) (fun a k _ _ => yf _ _ (by unfold fw; omega))
      have y9 : τ2 pr 9 = -1 := (yf _ _ (by unfold fw; omega)).trans d9
      have yff : ∀ a k, ¬ (fw ft a k ∨ (a = pr ∧ 4 ≤ k ∧ k ≤ 9) ∨ (ra < a ∧ a ≤ ra + nr.toNat)) → τ2 a k = τ a k := fun a k hk => (yf a k (fun z => hk (Or.inl z))).trans (if' a k hk)
      rw [ip_B]
      have e41 : 41 - (i + 1).toNat = 40 - i.toNat := by omega
      have tail : ∀ (dn : Int) (τ3 : iMem), Cx R ft fl ru τ3 → (∀ a k, ¬ (fw ft a k ∨ (a = pr ∧ 4 ≤ k ∧ k ≤ 9) ∨ (ra < a ∧ a ≤ ra + nr.toNat)) → τ3 a k = τ a k) → ((dn = 0 ∧ τ3 pr 9 = -1 ∧ ∃ P', PrC R pr ra nr τ3 P' ∧ okP R s P' ∧ pcn P' + 5 * (50 - ppg P') < 10000 ∧ secN R s (40 - i.toNat) P' = secN R s 41 P) ∨ ((dn ≠ 0 ∨ τ3 pr 9 ≠ -1) ∧ PrC R pr ra nr τ3 (secN R s 41 P).1 ∧ τ3 pr 9 = (secN R s 41 P).2)) → ip (iA (i + 1) fun y2 => iB (iP y2) fun x14 => iP (Sum.inl (dn, x14) : (Int × Int) ⊕ Unit)) (fun r τ' => Sum.elim (fun s' => ((0 ≤ s'.2 ∧ s'.2 ≤ 41) ∧ Cx R ft fl ru τ' ∧ (∀ (a : Nat) (k : Int), ¬ (fw ft a k ∨ (a = pr ∧ 4 ≤ k ∧ k ≤ 9) ∨ (ra < a ∧ a ≤ ra + nr.toNat)) → τ' a k = τ a k) ∧ ((s'.1 = 0 ∧ τ' pr 9 = -1 ∧ ∃ P', PrC R pr ra nr τ' P' ∧ okP R s P' ∧ pcn P' + 5 * (50 - ppg P') < 10000 ∧ secN R s (41 - s'.2.toNat) P' = secN R s 41 P) ∨ ((s'.1 ≠ 0 ∨ τ' pr 9 ≠ -1) ∧ PrC R pr ra nr τ' (secN R s 41 P).1 ∧ τ' pr 9 = (secN R s 41 P).2))) ∧ (41 - s'.2).toNat < (41 - i).toNat) (fun a => Cx R ft fl ru τ' ∧ PrC R pr ra nr τ' (secN R s 41 P).1 ∧ τ' pr 9 = (secN R s 41 P).2 ∧ ∀ (a : Nat) (k : Int), ¬ (fw ft a k ∨ (a = pr ∧ 4 ≤ k ∧ k ≤ 9) ∨ (ra < a ∧ a ≤ ra + nr.toNat)) → τ' a k = τ a k) r) τ3 := by
        intro dn τ3 w1 w2 w3
        rw [ip_A]
        refine ⟨⟨by omega, by omega⟩, ?_⟩
        rw [ip_B, ip_P, ip_P]
        simp only [Sum.elim_inl]
        rw [e41]
        exact ⟨⟨⟨by omega, by omega⟩, w1, w2, w3⟩, by omega⟩
      by_cases c2 : lst R s (pat P') (pca P') (pfr P') = -2
      · rw [if_neg (by omega)] at e4
        rw [ip_ifT c2, ip_B]
        have fo := fil_ok hw h0 hs e2
        refine ip_fill hp hw yx yP e2 (by omega) h0 hs (fun τ3 zx zP zf => ?_)
        have zff : ∀ a k, ¬ (fw ft a k ∨ (a = pr ∧ 4 ≤ k ∧ k ≤ 9) ∨ (ra < a ∧ a ≤ ra + nr.toNat)) → τ3 a k = τ a k := fun a k hk => (zf a k (by omega)).trans (yff a k hk)
        have z9 : τ3 pr 9 = -1 := (zf _ _ (by omega)).trans y9
        have turn : ¬ ((fil R s P').2 = 0 ∧ pfr P' = rs R 1) → ip (iB (iz_Press_turnPage pr) fun _ => iP (0 : Int)) (fun (a : Int) τ' => ip (iA (i + 1) fun y2 => iB (iP y2) fun x14 => iP (Sum.inl (a, x14) : (Int × Int) ⊕ Unit)) (fun r τ' => Sum.elim (fun s' => ((0 ≤ s'.2 ∧ s'.2 ≤ 41) ∧ Cx R ft fl ru τ' ∧ (∀ (a : Nat) (k : Int), ¬ (fw ft a k ∨ (a = pr ∧ 4 ≤ k ∧ k ≤ 9) ∨ (ra < a ∧ a ≤ ra + nr.toNat)) → τ' a k = τ a k) ∧ ((s'.1 = 0 ∧ τ' pr 9 = -1 ∧ ∃ P', PrC R pr ra nr τ' P' ∧ okP R s P' ∧ pcn P' + 5 * (50 - ppg P') < 10000 ∧ secN R s (41 - s'.2.toNat) P' = secN R s 41 P) ∨ ((s'.1 ≠ 0 ∨ τ' pr 9 ≠ -1) ∧ PrC R pr ra nr τ' (secN R s 41 P).1 ∧ τ' pr 9 = (secN R s 41 P).2))) ∧ (41 - s'.2).toNat < (41 - i).toNat) (fun a => Cx R ft fl ru τ' ∧ PrC R pr ra nr τ' (secN R s 41 P).1 ∧ τ' pr 9 = (secN R s 41 P).2 ∧ ∀ (a : Nat) (k : Int), ¬ (fw ft a k ∨ (a = pr ∧ 4 ≤ k ∧ k ≤ 9) ∨ (ra < a ∧ a ≤ ra + nr.toNat)) → τ' a k = τ a k) r) τ') τ3 := by
          intro hno
          rw [if_neg hno] at e4
          rw [ip_B]
          refine ip_turnPage hp zx zP.1.2.1 zP.1.2.2.2.1 (by rw [fo.2.2.1]; exact k2.1) ?_
          rw [ip_P, fo.2.2.1]
          by_cases c3 : ppg P' < 39
          · rw [if_pos c3]
            rw [if_neg (by omega)] at e4
            obtain ⟨o1, o2, o3, o4, o5, o6, o7⟩ := fo.1
            refine tail 0 _ (zx.frame hfe (fun a k hk => by simp (disch := omega) only [iu_ne])) (fun a k hk => ?_) (Or.inl ⟨rfl, by simp (disch := omega) only [iu_ne]; exact z9, pgP R (fil R s P').1, ⟨⟨?_, ?_, ?_, ?_, ?_⟩, fun j j0 j1 j2 => ?_⟩, ⟨o1, ⟨?_, ?_⟩, ⟨?_, ?_⟩, o4, o5, o6, o7⟩, ?_, e4⟩)
            · have h2 := hk
              simp (disch := omega) only [iu_ne]
              exact zff a k h2
            · simp (disch := omega) only [iu_ne]; exact zP.1.1
            · simp (disch := omega) only [iu_ne, iu_eq]; show _ = ppg (fil R s P').1 + 1; rw [fo.2.2.1]
            · rw [iu_eq]; rfl
            · simp (disch := omega) only [iu_ne]; exact zP.1.2.2.2.1
            · simp (disch := omega) only [iu_ne]; exact zP.1.2.2.2.2
            · have := zP.2 j j0 j1 j2
              unfold rowC at *
              simp (disch := omega) only [iu_ne]
              exact this
            · show 0 ≤ ppg (fil R s P').1 + 1; omega
            · show ppg (fil R s P').1 + 1 ≤ 39; rw [fo.2.2.1]; omega
            · show 0 ≤ rs R 1; omega
            · show rs R 1 ≤ 400; omega
            · show pcn (fil R s P').1 + 5 * (50 - (ppg (fil R s P').1 + 1)) < 10000
              have := fo.2.1
              rw [fo.2.2.1]
              omega
          · rw [if_neg c3]
            rw [if_pos (by omega)] at e4
            refine tail 0 _ (zx.frame hfe (fun a k hk => by simp (disch := omega) only [iu_ne])) (fun a k hk => ?_) (Or.inr ⟨Or.inr ?_, ?_, ?_⟩)
            · have h2 := hk
              simp (disch := omega) only [iu_ne]
              exact zff a k h2
            · rw [iu_eq]
              have := fo.1.2.2.2.1
              omega
            · rw [← e4]
              exact zP.frame (fun k _ _ => by simp (disch := omega) only [iu_ne]) (fun a k _ _ => by simp (disch := omega) only [iu_ne])
            · rw [← e4, iu_eq]
        rw [ip_B]
        rcases fo.2.2.2.2 with ⟨q1, q2⟩ | q1
        · rw [q1, ip_ifF (by omega), ip_B, ip_pageIsFree (P := P') hp zx (by rw [zP.1.2.2.1, q2])]
          by_cases c3 : pfr P' = rs R 1
          · rw [if_pos c3, ip_ifF (by omega), ip_B, ip_Gt, zP.1.2.2.2.1, q2, ip_B, ip_Pt, ip_P]
            simp only [Sum.elim_inr, ip_P]
            rw [if_pos ⟨q1, c3⟩] at e4
            refine tail 0 _ (zx.frame hfe (fun a k hk => by simp (disch := omega) only [iu_ne])) (fun a k hk => ?_) (Or.inr ⟨Or.inr ?_, ?_, ?_⟩)
            · have h2 := hk
              simp (disch := omega) only [iu_ne]
              exact zff a k h2
            · rw [iu_eq]
              omega
            · rw [← e4]
              rw [q2] at zP
              exact zP.frame (fun k _ _ => by simp (disch := omega) only [iu_ne]) (fun a k _ _ => by simp (disch := omega) only [iu_ne])
            · rw [← e4, iu_eq]
          · rw [if_neg c3, ip_ifT rfl, ip_P]
            simp only [Sum.elim_inl]
            exact turn (fun z => c3 z.2)
        · rw [q1, ip_ifT (by omega), ip_P]
          simp only [Sum.elim_inl]
          exact turn (fun z => by omega)
      · rw [if_pos c2] at e4
        rcases lst_or hw (s := s) (p := pat P') (c := pca P') (top := pfr P') (by omega) k3.1 (by omega) with ⟨z, -⟩ | ⟨z1, z2⟩
        · exact absurd z c2
        · rw [ip_ifF c2, ip_B]
          refine ip_level hp hw yx yP e2 (by omega) h0 hs z1.1.1 z1.1.2 z1.2.1 (fun τ3 zx zP z910 zf => ?_)
          have lo' := lvlN_ok hw h0 hs e2 z1.1.1 z1.1.2 z1.2.1 (rs R 0).toNat (Nat.le_refl _)
          have efr : pfr (lvl R s (lst R s (pat P') (pca P') (pfr P')) P') = pfr P' := lo'.2.2.2.2
          rw [ip_B, ip_Gt, zP.1.2.2.1, efr, ip_A]
          refine ⟨⟨by have := z1.1.1; omega, by have := z1.1.1; omega⟩, ?_⟩
          rw [ip_B, ip_Pt, ip_P]
          refine tail 1 _ (zx.frame hfe (fun a k hk => by simp (disch := omega) only [iu_ne])) (fun a k hk => ?_) (Or.inr ⟨Or.inl (by omega), ?_, ?_⟩)
          · have h2 := hk
            simp (disch := omega) only [iu_ne]
            rw [zf a k (fun z => h2 (by rcases z with z | z | z; exact Or.inl z; exact Or.inr (Or.inl (by omega)); exact Or.inr (Or.inr z)))]
            exact yff a k h2
          · rw [← e4]
            refine ⟨⟨?_, ?_, ?_, ?_, ?_⟩, fun j j0 j1 j2 => ?_⟩
            · simp (disch := omega) only [iu_ne]; exact zP.1.1
            · simp (disch := omega) only [iu_ne]; exact zP.1.2.1
            · rw [iu_eq]; rfl
            · simp (disch := omega) only [iu_ne]; exact zP.1.2.2.2.1
            · simp (disch := omega) only [iu_ne]; exact zP.1.2.2.2.2
            · have := zP.2 j j0 j1 j2
              unfold rowC at *
              simp (disch := omega) only [iu_ne]
              exact this
          · rw [← e4, iu_ne (Or.inr (by omega)), z910 9 (Or.inl rfl)]
            exact y9
  · have fin : Cx R ft fl ru τ' ∧ PrC R pr ra nr τ' (secN R s 41 P).1 ∧ τ' pr 9 = (secN R s 41 P).2 ∧ (∀ a k, ¬ (fw ft a k ∨ (a = pr ∧ 4 ≤ k ∧ k ≤ 9) ∨ (ra < a ∧ a ≤ ra + nr.toNat)) → τ' a k = τ a k) := ⟨ix, e1, e2, if'⟩
    by_cases c1 : 40 < i
    · rw [ip_ifT c1, ip_P]
      exact fin
    · rw [ip_ifF c1]
      by_cases c2 : done = 0
      · rw [ip_ifF (by omega), ip_B, ip_Gt, ip_ifT (by omega), ip_P]
        exact fin
      · rw [ip_ifT c2, ip_P]
        exact fin
end
