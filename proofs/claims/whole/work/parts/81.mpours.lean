section
variable {τ : iMem} {R : aRun} {P : aP} {s : Int}
set_option maxHeartbeats 1000000 in
theorem ip_fills {Q : Int → iMem → Prop} (hw : WF R) (hx : Mx R τ) (hP : PrM τ P) (hk : okP R s P) (hcn : pcn P + rs R 0 ≤ 300) (h0 : 0 ≤ s) (hs : s < ns R)
    (hQ : ∀ r τ', (r = 1 ∧ (fil R s P).2 = 1 ∧ PrM τ' (fil R s P).1) ∨ (r ≠ 1 ∧ (fil R s P).2 = 0 ∧ (τ' 367 33 = ppg P ∧ τ' 367 34 = pfr P ∧ ∀ i, 0 ≤ i → i < pcn P → colM τ' i (pC P i))) → (∀ a k, ¬ ((a = 367 ∧ (k = 32 ∨ k = 36 ∨ k = 37)) ∨ (388 ≤ a ∧ a ≤ 396)) → τ' a k = τ a k) → Q r τ') : ip (iz_Model_fills 367 s) Q τ := by
  have hb := bg_step hw s
  have hS := hw.2.1.1
  have hH := hw.2.1.2.1
  have h90 := hw.2.2.2
  have hl := filN_ok hw h0 hs hk
  unfold iz_Model_fills
  rw [ip_B]
  refine ip_mono (Q := fun (v : Int ⊕ Int) τ' => (∀ a k, ¬ ((a = 367 ∧ (k = 32 ∨ k = 36 ∨ k = 37)) ∨ (388 ≤ a ∧ a ≤ 396)) → τ' a k = τ a k) ∧ (∀ i, 0 ≤ i → i < pcn P → colM τ' i (pC P i)) ∧ ((∃ b, v = Sum.inl b ∧ b = (filN R s (rs R 0).toNat P).2.1 ∧ PrM τ' (filN R s (rs R 0).toNat P).1) ∨ (v = Sum.inr (-2) ∧ (filN R s (rs R 0).toNat P).2.1 = 0))) ?_ ?_
  · refine ip_W (fun (q : Int × Int) τ' => 0 ≤ q.2 ∧ q.2 ≤ rs R 0 ∧ (filN R s q.2.toNat P).2.2 = 1 ∧ q.1 = (filN R s q.2.toNat P).2.1 ∧ PrM τ' (filN R s q.2.toNat P).1 ∧ (∀ a k, ¬ ((a = 367 ∧ (k = 32 ∨ k = 36 ∨ k = 37)) ∨ (388 ≤ a ∧ a ≤ 396)) → τ' a k = τ a k)) (fun (q : Int × Int) _ => (rs R 0 - q.2).toNat) ?_ ⟨Int.le_refl _, by show (0 : Int) ≤ rs R 0; omega, rfl, rfl, hP, fun _ _ _ => rfl⟩
    intro q τ' ⟨i0, i1, iok, iv, iP', if'⟩
    obtain ⟨sv, i⟩ := q
    dsimp only at i0 i1 iok iv iP' ⊢
    have ix : Mx R τ' := hx.frame (fun a k _ => if' a k (by omega))
    have hli := hl i.toNat (by omega)
    obtain ⟨l1, l2, l3, l4, l5, l6, l7, l8, l9⟩ := hli
    have l1a := l1.2.2.2.1
    have l1c := l1.2.2.2.2.2.1
    have l1f := l1.2.2.1
    have rows : ∀ j, 0 ≤ j → j < pcn P → colM τ' j (pC P j) := by
      intro j j0 j1
      have := iP'.2 j j0 (by omega)
      unfold colM at *
      rw [l9 _ _ j1, l9 _ _ j1, l9 _ _ j1, l9 _ _ j1, l9 _ _ j1, l9 _ _ j1, l9 _ _ j1, l9 _ _ j1, l9 _ _ j1] at this
      exact this
    rw [ip_B, ip_Ld, m_0, l_368]
    refine ⟨⟨by omega, by omega⟩, ?_⟩
    rw [rm_s ix.1 (k := 0) (by omega) (by omega)]
    by_cases c1 : rs R 0 ≤ i
    · have : i = rs R 0 := by omega
      subst this
      rw [ip_ifT c1, ip_P]
      exact ⟨if', rows, Or.inl ⟨sv, rfl, iv, iP'⟩⟩
    · have es : (i + 1).toNat = i.toNat + 1 := by omega
      have hstep := filN_s (R := R) (s := s) (i := i.toNat) (P := P)
      rw [if_neg (by omega), show ((i.toNat : Nat) : Int) = i by omega] at hstep
      rw [ip_ifF c1, ip_B, ip_endOf ix.2 hw h0 hs, ip_B]
      refine ip_mono (Q := fun r τ2 => τ2 = τ' ∧ ((r < pat (filN R s i.toNat P).1 ∧ lateF R s (pat (filN R s i.toNat P).1) (pca (filN R s i.toNat P).1) (pfr (filN R s i.toNat P).1) = -1) ∨ (pat (filN R s i.toNat P).1 ≤ r ∧ r = lateF R s (pat (filN R s i.toNat P).1) (pca (filN R s i.toNat P).1) (pfr (filN R s i.toNat P).1)))) ?_ ?_
      · refine ip_W (fun e τ2 => τ2 = τ' ∧ e ≤ bg R (s + 1) ∧ pat (filN R s i.toNat P).1 - 1 ≤ e ∧ ∀ e', e < e' → e' ≤ bg R (s + 1) → ¬ (en R e' ∧ lo R (pat (filN R s i.toNat P).1) e' (pca (filN R s i.toNat P).1) (pfr (filN R s i.toNat P).1) ≠ -1)) (fun e _ => (e + 1 - pat (filN R s i.toNat P).1).toNat) ?_ ⟨rfl, Int.le_refl _, by omega, fun e' h1 h2 => by omega⟩
        intro e τ2 ⟨et, e1, e2, e3⟩
        subst et
        rw [ip_B, ip_Gt, iP'.1.2.2.2.1]
        by_cases c2 : e < pat (filN R s i.toNat P).1
        · rw [ip_ifT c2, ip_P]
          refine ⟨rfl, Or.inl ⟨c2, ?_⟩⟩
          exact last_no (fun e' h1 h2 => e3 e' (by omega) h2)
        · have next : ¬ (en R e ∧ lo R (pat (filN R s i.toNat P).1) e (pca (filN R s i.toNat P).1) (pfr (filN R s i.toNat P).1) ≠ -1) → ip (iA (e + (-1)) fun y1 => iB (iP y1) fun x16 => iP (Sum.inl x16 : Int ⊕ Int)) (fun r τ3 => Sum.elim (fun s' => (τ3 = τ2 ∧ s' ≤ bg R (s + 1) ∧ pat (filN R s i.toNat P).1 - 1 ≤ s' ∧ ∀ e', s' < e' → e' ≤ bg R (s + 1) → ¬ (en R e' ∧ lo R (pat (filN R s i.toNat P).1) e' (pca (filN R s i.toNat P).1) (pfr (filN R s i.toNat P).1) ≠ -1)) ∧ (s' + 1 - pat (filN R s i.toNat P).1).toNat < (e + 1 - pat (filN R s i.toNat P).1).toNat) (fun r => τ3 = τ2 ∧ ((r < pat (filN R s i.toNat P).1 ∧ lateF R s (pat (filN R s i.toNat P).1) (pca (filN R s i.toNat P).1) (pfr (filN R s i.toNat P).1) = -1) ∨ (pat (filN R s i.toNat P).1 ≤ r ∧ r = lateF R s (pat (filN R s i.toNat P).1) (pca (filN R s i.toNat P).1) (pfr (filN R s i.toNat P).1)))) r) τ2 := by
            intro hno
            rw [ip_A]
            refine ⟨⟨by omega, by omega⟩, ?_⟩
            rw [ip_B, ip_P, ip_P]
            simp only [Sum.elim_inl]
            refine ⟨⟨trivial, by omega, by omega, fun e' h1 h2 => ?_⟩, by omega⟩
            by_cases d : e' = e
            · rw [d]; exact hno
            · exact e3 e' (by omega) h2
          have can : en R e → ip (iB (iGt 367 36) fun x12 => iB (iGt 367 37) fun x13 => iB (iGt 367 34) fun x14 => iB (iz_Model_canEnd 367 x12 e x13 x14) fun x15 => if ¬ x15 = 0 then iP (Sum.inr (Sum.inr e) : Unit ⊕ (Int ⊕ Int)) else iP (Sum.inl ())) (fun r τ3 => τ3 = τ2 ∧ ((r = Sum.inr (Sum.inr e) ∧ (en R e ∧ lo R (pat (filN R s i.toNat P).1) e (pca (filN R s i.toNat P).1) (pfr (filN R s i.toNat P).1) ≠ -1)) ∨ (r = Sum.inl () ∧ ¬ (en R e ∧ lo R (pat (filN R s i.toNat P).1) e (pca (filN R s i.toNat P).1) (pfr (filN R s i.toNat P).1) ≠ -1)))) τ2 := by
            intro hen
            rw [ip_B, ip_Gt, iP'.1.2.2.2.1, ip_B, ip_Gt, iP'.1.2.2.2.2, ip_B, ip_Gt, iP'.1.2.2.1, ip_B, ip_canEnd hw ix.1 ix.2 (by omega) (by omega) (by omega) l1c.1 (by omega) l1f.1 (by omega)]
            by_cases z : lo R (pat (filN R s i.toNat P).1) e (pca (filN R s i.toNat P).1) (pfr (filN R s i.toNat P).1) = -1
            · rw [if_pos z, ip_ifF (by omega), ip_P]
              exact ⟨rfl, Or.inr ⟨rfl, fun q => q.2 z⟩⟩
            · rw [if_neg z, ip_ifT (by omega), ip_P]
              exact ⟨rfl, Or.inl ⟨rfl, hen, z⟩⟩
          rw [ip_ifF c2, ip_B, ip_Gt, iP'.1.2.2.2.1, ip_B]
          refine ip_mono (Q := fun (r : Unit ⊕ (Int ⊕ Int)) τ3 => τ3 = τ2 ∧ ((r = Sum.inr (Sum.inr e) ∧ (en R e ∧ lo R (pat (filN R s i.toNat P).1) e (pca (filN R s i.toNat P).1) (pfr (filN R s i.toNat P).1) ≠ -1)) ∨ (r = Sum.inl () ∧ ¬ (en R e ∧ lo R (pat (filN R s i.toNat P).1) e (pca (filN R s i.toNat P).1) (pfr (filN R s i.toNat P).1) ≠ -1)))) ?_ ?_
          · rw [ip_B]
            by_cases c3 : e ≤ pat (filN R s i.toNat P).1
            · rw [ip_ifT c3, ip_P]
              simp only [Sum.elim_inl]
              exact can (by rw [show e = pat (filN R s i.toNat P).1 by omega]; exact l1.2.2.2.2.1)
            · rw [ip_ifF c3, ip_B]
              refine ip_isEnd ix.2 hw h0 hs (by omega) e1 (fun r hr => ?_)
              rcases hr with ⟨q1, q2⟩ | ⟨q1, q2⟩
              · rw [q1, ip_ifF (by omega), ip_P]
                simp only [Sum.elim_inl]
                exact can q2
              · rw [q1, ip_ifT rfl, ip_P]
                simp only [Sum.elim_inr, ip_P]
                exact ⟨trivial, Or.inr ⟨trivial, fun q => q2 q.1⟩⟩
          · intro r τ3 ⟨et, hr⟩
            subst et
            rcases hr with ⟨q1, q2⟩ | ⟨q1, q2⟩
            · subst q1
              simp only [Sum.elim_inr, ip_P]
              refine ⟨trivial, Or.inr ⟨by omega, ?_⟩⟩
              exact (last_is (P := fun e => en R e ∧ lo R (pat (filN R s i.toNat P).1) e (pca (filN R s i.toNat P).1) (pfr (filN R s i.toNat P).1) ≠ -1) (by omega) e1 q2 e3).symm
            · subst q1
              simp only [Sum.elim_inl]
              exact next q2
      · intro s5 τ2 ⟨et, h5⟩
        subst et
        rw [ip_B, ip_Gt, iP'.1.2.2.2.1]
        rcases h5 with ⟨h5, c2⟩ | ⟨h5, e5⟩
        · rw [if_pos c2] at hstep
          have st : filN R s (rs R 0).toNat P = filN R s (i.toNat + 1) P := by
            have := filN_stay (R := R) (s := s) (P := P) (i := i.toNat + 1) (by rw [hstep]) ((rs R 0).toNat - (i.toNat + 1))
            rwa [show i.toNat + 1 + ((rs R 0).toNat - (i.toNat + 1)) = (rs R 0).toNat by omega] at this
          rw [ip_ifF (by omega), ip_P]
          exact ⟨if', rows, Or.inr ⟨rfl, by rw [st, hstep]⟩⟩
        · have c2 : lateF R s (pat (filN R s i.toNat P).1) (pca (filN R s i.toNat P).1) (pfr (filN R s i.toNat P).1) ≠ -1 := by omega
          rw [if_neg c2] at hstep
          have a := lateF_ok c2
          rw [← e5] at a hstep
          have hst := st_lo hw (p := pat (filN R s i.toNat P).1) (e := s5) (c := pca (filN R s i.toNat P).1) (h := pfr (filN R s i.toNat P).1) (by omega) (by omega) l1c.1 (by omega) a.2.2.2
          have ees : st R (pat (filN R s i.toNat P).1) s5 (pca (filN R s i.toNat P).1) (pfr (filN R s i.toNat P).1) = sta R (pat (filN R s i.toNat P).1) s5 (pca (filN R s i.toNat P).1) (pfr (filN R s i.toNat P).1) := by unfold sta; omega
          rw [ip_ifT h5, ip_B]
          refine ip_mono (Q := fun v τ3 => τ3 = τ2 ∧ v = (filN R s (i.toNat + 1) P).2.1) ?_ ?_
          · rw [ip_B, hstep]
            show ip _ _ _
            by_cases z1 : sv = 0
            · rw [ip_ifF (by omega), ip_B, ip_Gt, iP'.1.2.2.2.1]
              by_cases z2 : pat (filN R s i.toNat P).1 < s5
              · rw [ip_ifT z2, ip_P]
                simp only [Sum.elim_inl, ip_P]
                rw [if_pos (Or.inl z2)]
                exact ⟨trivial, rfl⟩
              · rw [ip_ifF z2, ip_B, ip_Gt, iP'.1.2.2.2.1, ip_B, ip_Gt, iP'.1.2.2.2.2, ip_B, ip_Gt, iP'.1.2.2.1, ip_B, ip_standsOf hw ix.1 ix.2 (by omega) h5 (by omega) l1c.1 (by omega) l1f.1 (by omega), ees]
                by_cases z3 : sta R (pat (filN R s i.toNat P).1) s5 (pca (filN R s i.toNat P).1) (pfr (filN R s i.toNat P).1) ≤ 0
                · rw [ip_ifT z3, ip_P]
                  simp only [Sum.elim_inr, ip_P]
                  rw [if_neg (by omega), ← iv, z1]
                  exact ⟨trivial, rfl⟩
                · rw [ip_ifF z3, ip_P]
                  simp only [Sum.elim_inl, ip_P]
                  rw [if_pos (Or.inr (by omega))]
                  exact ⟨trivial, rfl⟩
            · rw [ip_ifT z1, ip_P]
              simp only [Sum.elim_inl, ip_P]
              refine ⟨trivial, ?_⟩
              split
              · rfl
              · rcases l6 with z | z
                · omega
                · exact z.symm
          · intro v τ3 ⟨et, ev⟩
            subst et
            rw [ip_B, ip_Gt, iP'.1.2.2.1, ip_B]
            refine ip_puts hw ix iP' l1 (by omega) a.1 a.2.1 a.2.2.2 l1f.1 (by omega) (Or.inl rfl) (fun τ4 w1 w2 => ?_)
            rw [ip_A]
            refine ⟨⟨by omega, by omega⟩, ?_⟩
            rw [ip_B, ip_P, ip_P]
            simp only [Sum.elim_inl]
            exact ⟨⟨by omega, by omega, by rw [es, hstep], by rw [es]; exact ev, by rw [es, hstep]; exact w1, fun a k hk => (w2 a k hk).trans (if' a k hk)⟩, by omega⟩
  · intro v τ1 ⟨w1, w2, w3⟩
    have hv01 := (hl (rs R 0).toNat (Nat.le_refl _)).2.2.2.2.2.1
    rcases w3 with ⟨b, q1, q2, q3⟩ | ⟨q1, q2⟩
    · subst q1
      simp only [Sum.elim_inl]
      by_cases c : b = 0
      · rw [ip_ifT c, ip_P]
        have ef : fil R s P = (P, 0) := by unfold fil; rw [if_pos (by omega)]
        refine hQ 0 τ1 (Or.inr ⟨by omega, by rw [ef], ?_, ?_, w2⟩) w1
        · rw [w1 _ _ (by omega)]; exact hP.1.2.1
        · rw [w1 _ _ (by omega)]; exact hP.1.2.2.1
      · rw [ip_ifF c, ip_P]
        have ef : fil R s P = ((filN R s (rs R 0).toNat P).1, 1) := by unfold fil; rw [if_neg (by omega)]
        exact hQ 1 τ1 (Or.inl ⟨rfl, by rw [ef], by rw [ef]; exact q3⟩) w1
    · subst q1
      simp only [Sum.elim_inr, ip_P]
      have ef : fil R s P = (P, 0) := by unfold fil; rw [if_pos q2]
      refine hQ (-2) τ1 (Or.inr ⟨by omega, by rw [ef], ?_, ?_, w2⟩) w1
      · rw [w1 _ _ (by omega)]; exact hP.1.2.1
      · rw [w1 _ _ (by omega)]; exact hP.1.2.2.1
/-- what there is, whatever is free -/
def PrM' (τ : iMem) (P : aP) : Prop := (τ 367 32 = pcn P ∧ τ 367 33 = ppg P) ∧ ∀ i, 0 ≤ i → i < pcn P → colM τ i (pC P i)
set_option maxHeartbeats 1000000 in
theorem ip_poursSection {Q : Int → iMem → Prop} (hw : WF R) (hx : Mx R τ) (hP : PrM τ P) (hd : okD R P) (hcn : pcn P ≤ 5 * ppg P + 85) (h0 : 0 ≤ s) (hs : s < ns R)
    (hQ1 : ∀ τ', Mx R τ' → bg R (s + 1) ≤ bg R s → PrM τ' (atP (bg R s) 0 P) → (∀ a k, ¬ pmw a k → τ' a k = τ a k) → (∀ k, τ' 397 k = τ 397 k ∧ τ' 398 k = τ 398 k) → Q 1 τ')
    (hQ2 : ∀ τ', Mx R τ' → bg R s < bg R (s + 1) → (secN R s 41 (atP (bg R s) 0 P)).2 = -1 → PrM τ' (secN R s 41 (atP (bg R s) 0 P)).1 → (∀ a k, ¬ pmw a k → τ' a k = τ a k) → (∀ k, τ' 397 k = τ 397 k ∧ τ' 398 k = τ 398 k) → Q 1 τ')
    (hQ3 : ∀ τ', Mx R τ' → bg R s < bg R (s + 1) → (secN R s 41 (atP (bg R s) 0 P)).2 ≠ -1 → PrM' τ' (secN R s 41 (atP (bg R s) 0 P)).1 → τ' 367 35 = (secN R s 41 (atP (bg R s) 0 P)).2 → (∀ a k, ¬ pmw a k → τ' a k = τ a k) → (∀ k, τ' 397 k = τ 397 k ∧ τ' 398 k = τ 398 k) → Q 0 τ') : ip (iz_Model_poursSection 367 s) Q τ := by
  have hb := bg_step hw s
  have hS := hw.2.1.1
  have hH := hw.2.1.2.1
  have hns := ns_in hw
  have hn16 := hw.1.2
  have hk := okP_at hw h0 hs hd
  obtain ⟨-, -, -, -, -, B, -⟩ := id hx.2
  unfold iz_Model_poursSection
  rw [ip_B, ip_Ld, m_14, l_380]
  refine ⟨⟨by omega, by omega⟩, ?_⟩
  rw [B s h0 (by omega), ip_B, ip_Pt, ip_B, ip_Pt, ip_B, ip_Gt, iu_ne (Or.inr (by omega)), iu_eq, ip_B]
  have yx : Mx R (iu (iu τ 367 36 (bg R s)) 367 37 0) := hx.frame (fun a k hk => by simp (disch := omega) only [iu_ne])
  have yP : PrM (iu (iu τ 367 36 (bg R s)) 367 37 0) (atP (bg R s) 0 P) := by
    refine ⟨⟨?_, ?_, ?_, ?_, ?_⟩, fun j j0 j1 => ?_⟩
    · simp (disch := omega) only [iu_ne]; exact hP.1.1
    · simp (disch := omega) only [iu_ne]; exact hP.1.2.1
    · simp (disch := omega) only [iu_ne]; exact hP.1.2.2.1
    · simp (disch := omega) only [iu_ne, iu_eq]; rfl
    · rw [iu_eq]; rfl
    · exact (hP.2 j j0 j1).frame (fun a _ _ => by simp (disch := omega) only [iu_ne])
  have yf : ∀ a k, ¬ pmw a k → iu (iu τ 367 36 (bg R s)) 367 37 0 a k = τ a k := fun a k hk => by
    unfold pmw at hk
    simp (disch := omega) only [iu_ne]
  have yg : ∀ k, iu (iu τ 367 36 (bg R s)) 367 37 0 397 k = τ 397 k ∧ iu (iu τ 367 36 (bg R s)) 367 37 0 398 k = τ 398 k := fun k => by
    simp (disch := omega) only [iu_ne]
    exact ⟨trivial, trivial⟩
  have hcn' : pcn (atP (bg R s) 0 P) ≤ 5 * ppg (atP (bg R s) 0 P) + 85 := hcn
  generalize hP0 : atP (bg R s) 0 P = P0 at *
  generalize iu (iu τ 367 36 (bg R s)) 367 37 0 = τ0 at *
  rw [ip_endOf yx.2 hw h0 hs]
  by_cases c0 : bg R s = bg R (s + 1)
  · rw [ip_ifF (by omega), ip_P]
    exact hQ1 τ0 yx (by omega) yP yf yg
  · have hlt : bg R s < bg R (s + 1) := by omega
    rw [ip_ifT c0, ip_B]
    refine ip_mono (Q := fun (v : Unit ⊕ Int) τ' => Mx R τ' ∧ (∀ a k, ¬ pmw a k → τ' a k = τ a k) ∧ (∀ k, τ' 397 k = τ 397 k ∧ τ' 398 k = τ 398 k) ∧
      ((v = Sum.inl () ∧ ∃ P', PrM τ' P' ∧ okP R s P' ∧ pcn P' ≤ 5 * ppg P' + 85 ∧ lst R s (pat P') (pca P') (pfr P') ≠ -2 ∧ secN R s 41 P0 = (frP (pfr P' - lst R s (pat P') (pca P') (pfr P')) (lvl R s (lst R s (pat P') (pca P') (pfr P')) P'), -1)) ∨
       (v = Sum.inr 0 ∧ (secN R s 41 P0).2 ≠ -1 ∧ PrM' τ' (secN R s 41 P0).1 ∧ τ' 367 35 = (secN R s 41 P0).2))) ?_ ?_
    · refine ip_W (fun (_ : Unit) τ' => Mx R τ' ∧ (∀ a k, ¬ pmw a k → τ' a k = τ a k) ∧ (∀ k, τ' 397 k = τ 397 k ∧ τ' 398 k = τ 398 k) ∧ ∃ (P' : aP) (n : Nat), PrM τ' P' ∧ okP R s P' ∧ pcn P' ≤ 5 * ppg P' + 85 ∧ 41 ≤ n + ppg P' ∧ secN R s n P' = secN R s 41 P0) (fun _ τ' => (40 - τ' 367 33).toNat) ?_ ⟨yx, yf, yg, P0, 41, yP, hk, hcn', by have := hk.2.1.1; omega, rfl⟩
      intro _ τ' ⟨ix, if', ig, P', n, e1, e2, e3, en0, e4⟩
      obtain ⟨k1, k2, k3, k4, k5, k6, k7⟩ := id e2
      obtain ⟨m, rfl⟩ : ∃ m, n = m + 1 := ⟨n - 1, by omega⟩
      rw [secN_s] at e4
      rw [ip_B, ip_Gt, e1.1.2.2.2.1, ip_B, ip_Gt, e1.1.2.2.2.2, ip_B, ip_Gt, e1.1.2.2.1, ip_B]
      refine ip_fitsFrom hw ix.1 ix.2 h0 hs k4.1 k4.2 k5 k3.1 (by omega) (fun r τ2 hr rf _ => ?_)
      have jx : Mx R τ2 := ix.frame (fun a k _ => rf a k (by omega))
      have jP : PrM τ2 P' := e1.frame (fun k _ => rf _ _ (by omega)) (fun a k _ _ => rf _ _ (by omega))
      have jf : ∀ a k, ¬ pmw a k → τ2 a k = τ a k := fun a k hk => (rf a k (fun z => hk (by unfold pmw; omega))).trans (if' a k hk)
      have jg : ∀ k, τ2 397 k = τ 397 k ∧ τ2 398 k = τ 398 k := fun k => ⟨(rf _ _ (by omega)).trans (ig k).1, (rf _ _ (by omega)).trans (ig k).2⟩
      have e33 : τ' 367 33 = ppg P' := e1.1.2.1
      rcases hr with ⟨q1, q2⟩ | ⟨q1, q2⟩
      · have hne : lst R s (pat P') (pca P') (pfr P') ≠ -2 := by
          rcases lst_or hw (s := s) (p := pat P') (c := pca P') (top := pfr P') (by omega) k3.1 (by omega) with ⟨-, z⟩ | ⟨z, -⟩
          · omega
          · have := z.1.1; omega
        rw [if_pos hne] at e4
        rw [q1, ip_ifT (by omega), ip_P]
        exact ⟨jx, jf, jg, Or.inl ⟨rfl, P', jP, e2, e3, hne, e4.symm⟩⟩
      · have heq : lst R s (pat P') (pca P') (pfr P') = -2 := lst_no q2
        rw [if_neg (by omega)] at e4
        have fo := fil_ok hw h0 hs e2
        have e1f : τ2 368 1 = rs R 1 := rm_s jx.1 (by omega) (by omega)
        rw [q1, ip_ifF (by omega), ip_B, ip_Gt, jP.1.2.2.1, ip_B, ip_Ld, m_0, l_368]
        refine ⟨⟨by omega, by omega⟩, ?_⟩
        rw [e1f, ip_B, ip_ifP, ip_B, ip_Gt, jP.1.1, ip_B, ip_Gt, jP.1.2.2.2.1, ip_B, ip_Gt, jP.1.2.2.2.2, ip_B]
        refine ip_fills hw jx jP e2 (by omega) h0 hs (fun r τ3 hr3 zf => ?_)
        have zx : Mx R τ3 := jx.frame (fun a k _ => zf a k (by omega))
        have zff : ∀ a k, ¬ pmw a k → τ3 a k = τ a k := fun a k hk => (zf a k (fun z => hk (by unfold pmw; omega))).trans (jf a k hk)
        have zg : ∀ k, τ3 397 k = τ 397 k ∧ τ3 398 k = τ 398 k := fun k => ⟨(zf _ _ (by omega)).trans (jg k).1, (zf _ _ (by omega)).trans (jg k).2⟩
        -- the page is turned
        have turn : ∀ τ4 : iMem, Mx R τ4 → (∀ a k, ¬ pmw a k → τ4 a k = τ a k) → (∀ k, τ4 397 k = τ 397 k ∧ τ4 398 k = τ 398 k) → PrM τ4 (fil R s P').1 → ¬ ((fil R s P').2 = 0 ∧ pfr P' = rs R 1) → ip (iB (iGt 367 36) fun x19 => iB (iz_Model_turnsPage 367 x19) fun x20 => if ¬ x20 = 0 then iP (Sum.inl () : Unit ⊕ (Unit ⊕ Int)) else iP (Sum.inr (Sum.inr 0))) (fun r τ5 => Sum.elim (fun s' => (Mx R τ5 ∧ (∀ (a : Nat) (k : Int), ¬ pmw a k → τ5 a k = τ a k) ∧ (∀ k, τ5 397 k = τ 397 k ∧ τ5 398 k = τ 398 k) ∧ ∃ (P' : aP) (n : Nat), PrM τ5 P' ∧ okP R s P' ∧ pcn P' ≤ 5 * ppg P' + 85 ∧ 41 ≤ n + ppg P' ∧ secN R s n P' = secN R s 41 P0) ∧ (40 - τ5 367 33).toNat < (40 - τ' 367 33).toNat) (fun v => Mx R τ5 ∧ (∀ (a : Nat) (k : Int), ¬ pmw a k → τ5 a k = τ a k) ∧ (∀ k, τ5 397 k = τ 397 k ∧ τ5 398 k = τ 398 k) ∧ ((v = Sum.inl () ∧ ∃ P', PrM τ5 P' ∧ okP R s P' ∧ pcn P' ≤ 5 * ppg P' + 85 ∧ lst R s (pat P') (pca P') (pfr P') ≠ -2 ∧ secN R s 41 P0 = (frP (pfr P' - lst R s (pat P') (pca P') (pfr P')) (lvl R s (lst R s (pat P') (pca P') (pfr P')) P'), -1)) ∨ (v = Sum.inr 0 ∧ (secN R s 41 P0).2 ≠ -1 ∧ PrM' τ5 (secN R s 41 P0).1 ∧ τ5 367 35 = (secN R s 41 P0).2))) r) τ4 := by
          intro τ4 v1 v2 vg v3 hno
          rw [if_neg hno] at e4
          obtain ⟨o1, o2, o3, o4, o5, o6, o7⟩ := fo.1
          rw [ip_B, ip_Gt, v3.1.2.2.2.1, ip_B]
          refine ip_MturnsPage (P := (fil R s P').1) v1 v3.1.2.1 o2 (fun hc => ?_) (fun hc τ5 u1 u2 u3 => ?_)
          · rw [if_neg (by omega)] at e4
            rw [ip_ifT (by omega), ip_P]
            simp only [Sum.elim_inl]
            refine ⟨⟨v1.frame (fun a k hk => by simp (disch := omega) only [iu_ne]), fun a k hk => ?_, fun k => by simp (disch := omega) only [iu_ne]; exact vg k, pgP R (fil R s P').1, m, ⟨⟨?_, ?_, ?_, ?_, ?_⟩, fun j j0 j1 => ?_⟩, ⟨o1, ⟨?_, ?_⟩, ⟨?_, ?_⟩, o4, o5, o6, o7⟩, ?_, ?_, e4⟩, ?_⟩
            · have h2 := hk
              unfold pmw at hk
              simp (disch := omega) only [iu_ne]
              exact v2 a k h2
            · simp (disch := omega) only [iu_ne]; exact v3.1.1
            · simp (disch := omega) only [iu_ne, iu_eq]; rfl
            · rw [iu_eq]; rfl
            · simp (disch := omega) only [iu_ne]; exact v3.1.2.2.2.1
            · simp (disch := omega) only [iu_ne]; exact v3.1.2.2.2.2
            · exact (v3.2 j j0 j1).frame (fun a _ _ => by simp (disch := omega) only [iu_ne])
            · show 0 ≤ ppg (fil R s P').1 + 1; omega
            · show ppg (fil R s P').1 + 1 ≤ 39; omega
            · show 0 ≤ rs R 1; omega
            · show rs R 1 ≤ 400; omega
            · show pcn (fil R s P').1 ≤ 5 * (ppg (fil R s P').1 + 1) + 85
              have := fo.2.1
              omega
            · show 41 ≤ m + (ppg (fil R s P').1 + 1)
              omega
            · simp (disch := omega) only [iu_ne, iu_eq]
              omega
          · rw [if_pos (by omega)] at e4
            rw [ip_ifF (by omega), ip_P]
            simp only [Sum.elim_inr]
            refine ⟨v1.frame (fun a k hk => u3 a k (by omega)), fun a k hk => ?_, fun k => by rw [u3 397 k (by omega), u3 398 k (by omega)]; exact vg k, Or.inr ⟨trivial, ?_, ⟨⟨?_, ?_⟩, fun j j0 j1 => ?_⟩, ?_⟩⟩
            · have h2 := hk
              unfold pmw at hk
              rw [u3 a k (by omega)]
              exact v2 a k h2
            · rw [← e4]; show pat (fil R s P').1 ≠ -1; omega
            · rw [← e4, u3 _ _ (by omega)]; exact v3.1.1
            · rw [← e4]; exact u2
            · rw [← e4] at j1 ⊢
              exact (v3.2 j j0 j1).frame (fun a _ _ => u3 a j (by omega))
            · rw [← e4]; exact u1
        rw [ip_B]
        rcases hr3 with ⟨t1, t2, t3⟩ | ⟨t1, t2, t3, t4, t5⟩
        · rw [t1, ip_ifT rfl, ip_P]
          simp only [Sum.elim_inl]
          exact turn τ3 zx zff zg t3 (fun q => by omega)
        · have ef : (fil R s P').1 = P' := by
            rcases fo.2.2.2.2 with ⟨-, z⟩ | z
            · exact z
            · omega
          have bx : Mx R (iu (iu (iu τ3 367 32 (pcn P')) 367 36 (pat P')) 367 37 (pca P')) := zx.frame (fun a k hk => by simp (disch := omega) only [iu_ne])
          have bP : PrM (iu (iu (iu τ3 367 32 (pcn P')) 367 36 (pat P')) 367 37 (pca P')) P' := by
            refine ⟨⟨?_, ?_, ?_, ?_, ?_⟩, fun j j0 j1 => ?_⟩
            · simp (disch := omega) only [iu_ne, iu_eq]
            · simp (disch := omega) only [iu_ne]; exact t3
            · simp (disch := omega) only [iu_ne]; exact t4
            · simp (disch := omega) only [iu_ne, iu_eq]
            · rw [iu_eq]
            · exact (t5 j j0 j1).frame (fun a _ _ => by simp (disch := omega) only [iu_ne])
          have bf : ∀ a k, ¬ pmw a k → iu (iu (iu τ3 367 32 (pcn P')) 367 36 (pat P')) 367 37 (pca P') a k = τ a k := by
            intro a k hk
            have h2 := hk
            unfold pmw at hk
            simp (disch := omega) only [iu_ne]
            exact zff a k h2
          have bg' : ∀ k, iu (iu (iu τ3 367 32 (pcn P')) 367 36 (pat P')) 367 37 (pca P') 397 k = τ 397 k ∧ iu (iu (iu τ3 367 32 (pcn P')) 367 36 (pat P')) 367 37 (pca P') 398 k = τ 398 k := fun k => by
            simp (disch := omega) only [iu_ne]
            exact zg k
          rw [ip_ifF t1, ip_B, ip_Pt, ip_B, ip_Pt, ip_B, ip_Pt]
          by_cases c5 : pfr P' = rs R 1
          · rw [if_pos ⟨t2, c5⟩] at e4
            rw [if_neg (show ¬ ¬ pfr P' = rs R 1 by omega), ip_ifF (by omega), ip_B, ip_Gt, bP.1.2.2.2.1, ip_B, ip_Pt, ip_P]
            simp only [Sum.elim_inr, ip_P]
            refine ⟨bx.frame (fun a k hk => by simp (disch := omega) only [iu_ne]), fun a k hk => ?_, fun k => ?_, Or.inr ⟨trivial, ?_, ⟨⟨?_, ?_⟩, fun j j0 j1 => ?_⟩, ?_⟩⟩
            · have h2 := hk
              unfold pmw at hk
              rw [iu_ne (by omega)]
              exact bf a k h2
            · rw [iu_ne (Or.inl (by omega)), iu_ne (Or.inl (by omega))]
              exact bg' k
            · rw [← e4]; show pat P' ≠ -1; omega
            · rw [← e4, iu_ne (Or.inr (by omega))]; exact bP.1.1
            · rw [← e4, iu_ne (Or.inr (by omega))]; exact bP.1.2.1
            · rw [← e4] at j1 ⊢
              exact (bP.2 j j0 j1).frame (fun a _ _ => by rw [iu_ne (Or.inl (by omega))])
            · rw [← e4, iu_eq]
          · rw [if_pos c5, ip_ifT rfl, ip_P]
            simp only [Sum.elim_inl]
            exact turn _ bx bf bg' (by rw [ef]; exact bP) (fun q => c5 q.2)
    · intro v τ1 ⟨w1, w2, wg, w3⟩
      rcases w3 with ⟨q1, P', q2, q3, q4, q5, q6⟩ | ⟨q1, q2, q3, q4⟩
      · subst q1
        simp only [Sum.elim_inl]
        obtain ⟨k1, k2, k3, k4, k5, k6, k7⟩ := id q3
        unfold iz_Model_levels
        rcases lst_or hw (s := s) (p := pat P') (c := pca P') (top := pfr P') (by omega) k3.1 (by omega) with ⟨z, -⟩ | ⟨z1, z2⟩
        · exact absurd z q5
        · have hfit : pca P' ≤ be R s (pfr P') (rs R 0).toNat (pat P') := by
            have := be_mono hw (s := s) (k := (rs R 0).toNat) (p := pat P') (h := lst R s (pat P') (pca P') (pfr P')) (h' := pfr P') (by omega) z2
            have := z1.2.1
            omega
          rw [ip_B, ip_B, ip_Gt, q2.1.2.2.2.1, ip_B, ip_Gt, q2.1.2.2.2.2, ip_B, ip_Gt, q2.1.2.2.1, ip_B]
          refine ip_MleastFrom hw w1.1 w1.2 h0 hs k4.1 k4.2 k5 k3.1 (by omega) hfit (fun r τ2 hr hr2 rf => ?_)
          have er := isL_one hr z1
          subst er
          have jx : Mx R τ2 := w1.frame (fun a k _ => rf a k (by omega))
          have jP : PrM τ2 P' := q2.frame (fun k _ => rf _ _ (by omega)) (fun a k _ _ => rf _ _ (by omega))
          rw [ip_B]
          refine ip_levelsBy hw jx jP q3 (by omega) h0 hs z1.1.1 z1.1.2 z1.2.1 (fun τ3 v1 v2 v3 => ?_)
          have lo' := lvlN_ok hw h0 hs q3 z1.1.1 z1.1.2 z1.2.1 (rs R 0).toNat (Nat.le_refl _)
          have efr : pfr (lvl R s (lst R s (pat P') (pca P') (pfr P')) P') = pfr P' := lo'.2.2.2.2
          have z11 := z1.1.1
          rw [ip_B, ip_Gt, v2.1.2.2.1, efr, ip_A]
          refine ⟨⟨by omega, by omega⟩, ?_⟩
          rw [ip_B, ip_Pt, ip_P, ip_P]
          refine hQ2 _ (v1.frame (fun a k hk => by simp (disch := omega) only [iu_ne])) hlt (by rw [q6]) ?_ (fun a k hk => ?_) (fun k => ?_)
          · rw [q6]
            refine ⟨⟨?_, ?_, ?_, ?_, ?_⟩, fun j j0 j1 => ?_⟩
            · simp (disch := omega) only [iu_ne]; exact v2.1.1
            · simp (disch := omega) only [iu_ne]; exact v2.1.2.1
            · rw [iu_eq]; rfl
            · simp (disch := omega) only [iu_ne]; exact v2.1.2.2.2.1
            · simp (disch := omega) only [iu_ne]; exact v2.1.2.2.2.2
            · exact (v2.2 j j0 j1).frame (fun a _ _ => by simp (disch := omega) only [iu_ne])
          · have h2 := hk
            unfold pmw at hk
            simp (disch := omega) only [iu_ne]
            rw [v3 a k (by omega), rf a k (by omega)]
            exact w2 a k h2
          · simp (disch := omega) only [iu_ne]
            rw [v3 397 k (by omega), rf 397 k (by omega), v3 398 k (by omega), rf 398 k (by omega)]
            exact wg k
      · subst q1
        simp only [Sum.elim_inr, ip_P]
        exact hQ3 τ1 w1 hlt q2 q3 q4 w2 wg
end
