/-! ===== the other one pours ===== -/
def Mx (R : aRun) (τ : iMem) : Prop := RunM τ 368 0 R ∧ FlM R τ
theorem Mx.frame {R : aRun} {τ τ' : iMem} (h : Mx R τ) (hf : ∀ a k, a = 368 ∨ (a = 367 ∧ (k = 13 ∨ k = 16)) ∨ (373 ≤ a ∧ a ≤ 386) → τ' a k = τ a k) : Mx R τ' := ⟨h.1.frame (fun k => hf _ _ (by omega)), h.2.frame (fun a k _ => hf a k (by omega))⟩
def colM (τ : iMem) (i : Int) (c : Int → Int) : Prop := τ 388 i = c 0 ∧ τ 389 i = c 1 ∧ τ 390 i = c 2 ∧ τ 391 i = c 3 ∧ τ 392 i = c 4 ∧ τ 393 i = c 5 ∧ τ 394 i = c 6 ∧ τ 395 i = c 7 ∧ τ 396 i = c 8
theorem colM.frame {τ τ' : iMem} {i : Int} {c : Int → Int} (h : colM τ i c) (hf : ∀ a, 388 ≤ a → a ≤ 396 → τ' a i = τ a i) : colM τ' i c := by
  unfold colM at *
  rw [hf 388 (by omega) (by omega), hf 389 (by omega) (by omega), hf 390 (by omega) (by omega), hf 391 (by omega) (by omega), hf 392 (by omega) (by omega), hf 393 (by omega) (by omega), hf 394 (by omega) (by omega), hf 395 (by omega) (by omega), hf 396 (by omega) (by omega)]
  exact h
def PrM (τ : iMem) (P : aP) : Prop := (τ 367 32 = pcn P ∧ τ 367 33 = ppg P ∧ τ 367 34 = pfr P ∧ τ 367 36 = pat P ∧ τ 367 37 = pca P) ∧ ∀ i, 0 ≤ i → i < pcn P → colM τ i (pC P i)
theorem PrM.frame {τ τ' : iMem} {P : aP} (h : PrM τ P) (h4 : ∀ k, k = 32 ∨ k = 33 ∨ k = 34 ∨ k = 36 ∨ k = 37 → τ' 367 k = τ 367 k) (hf : ∀ a k, 388 ≤ a → a ≤ 396 → τ' a k = τ a k) : PrM τ' P :=
  ⟨⟨(h4 _ (by omega)).trans h.1.1, (h4 _ (by omega)).trans h.1.2.1, (h4 _ (by omega)).trans h.1.2.2.1, (h4 _ (by omega)).trans h.1.2.2.2.1, (h4 _ (by omega)).trans h.1.2.2.2.2⟩, fun i h0 h1 => (h.2 i h0 h1).frame (fun a q1 q2 => hf a i q1 q2)⟩
/-- what pouring writes -/
def pmw (a : Nat) (k : Int) : Prop := (a = 367 ∧ 32 ≤ k ∧ k ≤ 37) ∨ (387 ≤ a ∧ a ≤ 398)
section
variable {τ : iMem} {R : aRun} {P : aP} {s : Int}
set_option maxHeartbeats 1000000 in
theorem ip_puts {i to h lv : Int} {Q : Unit → iMem → Prop} (hw : WF R) (hx : Mx R τ) (hP : PrM τ P) (hk : okP R s P) (hcn : pcn P < 300) (ht : pat P ≤ to) (ht2 : to ≤ bg R (s + 1)) (hl : lo R (pat P) to (pca P) h ≠ -1) (hh : 0 ≤ h) (hh2 : h ≤ 2000) (hlv : lv = 0 ∨ lv = 1)
    (hQ : ∀ τ', PrM τ' (putP R s i to h lv P) → (∀ a k, ¬ ((a = 367 ∧ (k = 32 ∨ k = 36 ∨ k = 37)) ∨ (388 ≤ a ∧ a ≤ 396)) → τ' a k = τ a k) → Q () τ') : ip (iz_Model_puts 367 s i to h lv) Q τ := by
  have hb := bg_step hw s
  have hH := hw.2.1.2.1
  obtain ⟨k1, k2, k3, k4, k5, k6, k7⟩ := hk
  obtain ⟨⟨p2, p3, p4, p6, p7⟩, pR⟩ := hP
  have a1 := ol_in hw (p := pat P) (e := to) (by omega) (by omega)
  have a3 := lo_in hw (p := pat P) (e := to) (c := pca P) (h := h) (by omega) (by omega) k6.1 k6.2 hh2
  have hst := st_lo hw (p := pat P) (e := to) (c := pca P) (h := h) (by omega) (by omega) k6.1 hh2 hl
  have e1 : τ 368 1 = rs R 1 := rm_s hx.1 (by omega) (by omega)
  unfold iz_Model_puts
  simp (disch := omega) only [ip_B, ip_Gt, ip_St, ip_Sz, ip_Ld, ip_A, m_23, m_24, m_25, m_26, m_27, m_28, m_29, m_30, m_31, m_0, l_388, l_389, l_390, l_391, l_392, l_393, l_394, l_395, l_396, l_368, iu_ne, iu_eq, p2, p3, p4, p6, p7, e1, iR]
  repeat refine And.intro (by omega) ?_
  have hx2 : Mx R (iu (iu (iu (iu (iu (iu (iu (iu (iu τ 388 (pcn P) (ppg P)) 389 (pcn P) i) 390 (pcn P) s) 391 (pcn P) (pat P)) 392 (pcn P) to) 393 (pcn P) (pca P)) 394 (pcn P) (rs R 1 - pfr P)) 395 (pcn P) h) 396 (pcn P) lv) := hx.frame (fun a k hk => by simp (disch := omega) only [iu_ne])
  rw [ip_ownOf hw hx2.2 (by omega) ht (by omega)]
  simp (disch := omega) only [ip_Gt, iu_ne, p6, p7]
  rw [ip_standsOf hw hx2.1 hx2.2 (by omega) ht (by omega) k6.1 (by omega) hh hh2]
  simp (disch := omega) only [ip_B, ip_Gt, ip_A, ip_Pt, ip_P, iu_ne, iu_eq, p2, iR]
  repeat refine And.intro (by omega) ?_
  refine hQ _ ⟨⟨?_, ?_, ?_, ?_, ?_⟩, fun j j0 j1 => ?_⟩ (fun a k hk => ?_)
  · simp (disch := omega) only [iu_ne, iu_eq]; rfl
  · simp (disch := omega) only [iu_ne]; exact p3
  · simp (disch := omega) only [iu_ne]; exact p4
  · simp (disch := omega) only [iu_ne, iu_eq]; rfl
  · simp (disch := omega) only [iu_ne, iu_eq]
    show pca P + (ol R (pat P) to - st R (pat P) to (pca P) h) = lo R (pat P) to (pca P) h
    omega
  · have j1 : j < pcn P + 1 := j1
    by_cases d : j = pcn P
    · subst d
      have e : ∀ f, pC (putP R s i to h lv P) (pcn P) f = (if f = 0 then ppg P else if f = 1 then i else if f = 2 then s else if f = 3 then pat P else if f = 4 then to else if f = 5 then pca P else if f = 6 then rs R 1 - pfr P else if f = 7 then h else lv) := fun f => if_pos rfl
      unfold colM
      rw [e, e, e, e, e, e, e, e, e]
      simp (disch := omega) only [iu_ne, iu_eq]
      exact ⟨rfl, rfl, rfl, rfl, rfl, rfl, rfl, rfl, rfl⟩
    · have e : ∀ f, pC (putP R s i to h lv P) j f = pC P j f := fun f => if_neg d
      have := pR j j0 (by omega)
      unfold colM at *
      rw [e, e, e, e, e, e, e, e, e]
      simp (disch := omega) only [iu_ne]
      exact this
  · simp (disch := omega) only [iu_ne]
theorem ip_isGood {e h : Int} {K : Nat} {a : Int} {Q : Int → iMem → Prop} (hw : WF R) (hx : Mx R τ) (hP : PrM τ P) (hk : okP R s P) (h0 : 0 ≤ s) (hs : s < ns R) (hT : MaT R s h a (rs R 0 + 1) τ) (ha : a ≤ pat P) (h1 : pat P ≤ e) (h2 : e ≤ bg R (s + 1)) (hK : (K : Int) ≤ rs R 0) (hh : 0 ≤ h) (hh2 : h ≤ 2000)
    (hQ : ∀ r, (r = 1 ∧ (en R e ∧ lo R (pat P) e (pca P) h ≠ -1 ∧ lo R (pat P) e (pca P) h ≤ be R s h K e)) ∨ (r = 0 ∧ ¬ (en R e ∧ lo R (pat P) e (pca P) h ≠ -1 ∧ lo R (pat P) e (pca P) h ≤ be R s h K e)) → Q r τ) : ip (iz_Model_isGood 367 s e (92 * K) h) Q τ := by
  have hb := bg_step hw s
  have h90 := hw.2.2.2
  have hS := hw.2.1.1
  obtain ⟨k1, k2, k3, k4, k5, k6, k7⟩ := hk
  obtain ⟨⟨p2, p3, p4, p6, p7⟩, pR⟩ := hP
  have a1 := ol_in hw (p := pat P) (e := e) (by omega) (by omega)
  have a3 := lo_in hw (p := pat P) (e := e) (c := pca P) (h := h) (by omega) (by omega) k6.1 k6.2 hh2
  unfold iz_Model_isGood
  rw [ip_B, ip_Gt, p6, ip_B]
  have rest : en R e → ip (iB (iGt 367 36) fun x4 => iB (iGt 367 37) fun x5 => iB (iz_Model_canEnd 367 x4 e x5 h) fun x6 => if ¬ x6 = 0 then iB (iGt 367 37) fun x7 => iB (iGt 367 36) fun x8 => iB (iz_Model_ownOf 367 x8 e) fun x9 => iB (iGt 367 36) fun x10 => iB (iGt 367 37) fun x11 => iB (iz_Model_standsOf 367 x10 e x11 h) fun x12 => iA (92 * (K : Int) + e) fun y1 => iB (iLd (qm_rf 367 22) y1) fun x13 => iA (x7 + x9) fun y2 => iA (y2 - x12) fun y3 => if x13 < y3 then iP 0 else iP 1 else iP 0) Q τ := by
    intro hen
    rw [ip_B, ip_Gt, p6, ip_B, ip_Gt, p7, ip_B, ip_canEnd hw hx.1 hx.2 (by omega) h1 (by omega) k6.1 (by omega) hh hh2]
    by_cases c : lo R (pat P) e (pca P) h = -1
    · rw [if_pos c, ip_ifF (by omega), ip_P]
      exact hQ 0 (Or.inr ⟨rfl, fun q => q.2.1 c⟩)
    · have hst := st_lo hw (p := pat P) (e := e) (c := pca P) (h := h) (by omega) (by omega) k6.1 hh2 c
      rw [if_neg c, ip_ifT (by omega), ip_B, ip_Gt, p7, ip_B, ip_Gt, p6, ip_B, ip_ownOf hw hx.2 (by omega) h1 (by omega), ip_B, ip_Gt, p6, ip_B, ip_Gt, p7, ip_B, ip_standsOf hw hx.1 hx.2 (by omega) h1 (by omega) k6.1 (by omega) hh hh2, ip_A]
      refine ⟨⟨by omega, by omega⟩, ?_⟩
      rw [ip_B, ip_Ld, m_22, l_387]
      refine ⟨⟨by omega, by omega⟩, ?_⟩
      rw [(hT K e (by omega) (by omega) (by omega) h2).2 hen, Int.toNat_natCast, ip_A, ip_A]
      refine ⟨⟨by omega, by omega⟩, ⟨by omega, by omega⟩, ?_⟩
      by_cases d : be R s h K e < pca P + ol R (pat P) e - st R (pat P) e (pca P) h
      · rw [ip_ifT d, ip_P]
        exact hQ 0 (Or.inr ⟨rfl, fun q => by have := q.2.2; omega⟩)
      · rw [ip_ifF d, ip_P]
        exact hQ 1 (Or.inl ⟨rfl, hen, c, by omega⟩)
  by_cases c : e ≤ pat P
  · rw [ip_ifT c, ip_P]
    simp only [Sum.elim_inl]
    exact rest (by rw [show e = pat P by omega]; exact k5)
  · rw [ip_ifF c, ip_B]
    refine ip_isEnd hx.2 hw h0 hs (by omega) h2 (fun r hr => ?_)
    rcases hr with ⟨q1, q2⟩ | ⟨q1, q2⟩
    · rw [q1, ip_ifF (by omega), ip_P]
      simp only [Sum.elim_inl]
      exact rest q2
    · rw [q1, ip_ifT rfl, ip_P]
      simp only [Sum.elim_inr, ip_P]
      exact hQ 0 (Or.inr ⟨rfl, fun q => q2 q.1⟩)
set_option maxHeartbeats 1000000 in
theorem ip_levelsBy {h : Int} {Q : Unit → iMem → Prop} (hw : WF R) (hx : Mx R τ) (hP : PrM τ P) (hk : okP R s P) (hcn : pcn P + rs R 0 ≤ 300) (h0 : 0 ≤ s) (hs : s < ns R) (hh : 0 ≤ h) (hh2 : h ≤ 2000) (hfit : pca P ≤ be R s h (rs R 0).toNat (pat P))
    (hQ : ∀ τ', Mx R τ' → PrM τ' (lvl R s h P) → (∀ a k, ¬ ((a = 367 ∧ (k = 32 ∨ k = 36 ∨ k = 37)) ∨ (387 ≤ a ∧ a ≤ 396)) → τ' a k = τ a k) → Q () τ') : ip (iz_Model_levelsBy 367 s h) Q τ := by
  have hb := bg_step hw s
  have h90 := hw.2.2.2
  have hS := hw.2.1.1
  obtain ⟨k1, k2, k3, k4, k5, k6, k7⟩ := id hk
  have hl := lvlN_ok hw h0 hs hk hh hh2 hfit
  unfold iz_Model_levelsBy
  rw [ip_B, ip_Gt, hP.1.2.2.2.1, ip_B]
  refine ip_laysMay hw hx.1 hx.2 h0 hs k4.1 k4.2 hh hh2 (fun τ1 gT gf => ?_)
  have gx : Mx R τ1 := hx.frame (fun a k _ => gf a k (by omega))
  have gP : PrM τ1 P := hP.frame (fun k _ => gf _ _ (by omega)) (fun a k _ _ => gf _ _ (by omega))
  rw [ip_B]
  refine ip_mono (Q := fun _ τ' => Mx R τ' ∧ PrM τ' (lvl R s h P) ∧ (∀ a k, ¬ ((a = 367 ∧ (k = 32 ∨ k = 36 ∨ k = 37)) ∨ (388 ≤ a ∧ a ≤ 396)) → τ' a k = τ1 a k)) ?_ (fun _ τ' q => by
    rw [ip_P]
    exact hQ τ' q.1 q.2.1 (fun a k hk => by rw [q.2.2 _ _ (by omega), gf _ _ (by omega)]))
  refine ip_W (fun i τ' => 0 ≤ i ∧ i ≤ rs R 0 ∧ PrM τ' (lvlN R s h i.toNat P) ∧ (∀ a k, ¬ ((a = 367 ∧ (k = 32 ∨ k = 36 ∨ k = 37)) ∨ (388 ≤ a ∧ a ≤ 396)) → τ' a k = τ1 a k)) (fun i _ => (rs R 0 - i).toNat) ?_ ⟨Int.le_refl _, by omega, gP, fun _ _ _ => rfl⟩
  intro i τ' ⟨i0, i1, iP', if'⟩
  have ix : Mx R τ' := gx.frame (fun a k _ => if' a k (by omega))
  have iT : MaT R s h (pat P) (rs R 0 + 1) τ' := fun k p a b c d => by rw [if' 387 _ (by omega)]; exact gT k p a b c d
  rw [ip_B, ip_Ld, m_0, l_368]
  refine ⟨⟨by omega, by omega⟩, ?_⟩
  rw [rm_s ix.1 (k := 0) (by omega) (by omega)]
  by_cases c1 : rs R 0 ≤ i
  · have : i = rs R 0 := by omega
    subst this
    rw [ip_ifT c1, ip_P]
    exact ⟨ix, iP', if'⟩
  · obtain ⟨l1, l2, l3, l4, l5⟩ := hl i.toNat (by omega)
    have ek : (rs R 0).toNat - i.toNat = ((rs R 0).toNat - 1 - i.toNat) + 1 := by omega
    rw [ek] at l2
    have l1a := l1.2.2.2.1
    have l1c := l1.2.2.2.2.2.1
    have a := lateL_ok hw (s := s) (h := h) (p := pat (lvlN R s h i.toNat P)) (c := pca (lvlN R s h i.toNat P)) (K := (rs R 0).toNat - 1 - i.toNat) (by omega) l1c.1 hh2 l2
    -- the place has not gone back
    have hmono : pat P ≤ pat (lvlN R s h i.toNat P) := by
      have key : ∀ j : Nat, j ≤ i.toNat → pat P ≤ pat (lvlN R s h j P) := by
        intro j
        induction j with
        | zero => intro _; exact Int.le_refl _
        | succ j ih =>
          intro hj
          obtain ⟨m1, m2, -⟩ := hl j (by omega)
          have ek2 : (rs R 0).toNat - j = ((rs R 0).toNat - 1 - j) + 1 := by omega
          rw [ek2] at m2
          have := lateL_ok hw (s := s) (h := h) (p := pat (lvlN R s h j P)) (c := pca (lvlN R s h j P)) (K := (rs R 0).toNat - 1 - j) (by have := m1.2.2.2.1; omega) m1.2.2.2.2.2.1.1 hh2 m2
          rw [lvlN_s]
          show pat P ≤ lateL R s _ _ h _
          have := ih (by omega)
          omega
      exact key i.toNat (Nat.le_refl _)
    rw [ip_ifF c1, ip_B, ip_Ld, l_368]
    refine ⟨⟨by omega, by omega⟩, ?_⟩
    rw [rm_s ix.1 (k := 0) (by omega) (by omega), ip_A, ip_A, ip_A]
    refine ⟨⟨by omega, by omega⟩, ⟨by omega, by omega⟩, ⟨by omega, by omega⟩, ?_⟩
    rw [show rs R 0 - 1 - i = (((rs R 0).toNat - 1 - i.toNat : Nat) : Int) by omega, ip_B, ip_P, ip_B, ip_endOf ix.2 hw h0 hs, ip_B]
    have hKle : (((rs R 0).toNat - 1 - i.toNat : Nat) : Int) ≤ rs R 0 := by omega
    have hlv := lvlN_s (R := R) (s := s) (h := h) (i := i.toNat) (P := P)
    rw [show ((i.toNat : Nat) : Int) = i by omega] at hlv
    have hlast := last_or (fun e => en R e ∧ lo R (pat (lvlN R s h i.toNat P)) e (pca (lvlN R s h i.toNat P)) h ≠ -1 ∧ lo R (pat (lvlN R s h i.toNat P)) e (pca (lvlN R s h i.toNat P)) h ≤ be R s h ((rs R 0).toNat - 1 - i.toNat) e) (pat (lvlN R s h i.toNat P)) (bg R (s + 1))
    have elt : last (fun e => en R e ∧ lo R (pat (lvlN R s h i.toNat P)) e (pca (lvlN R s h i.toNat P)) h ≠ -1 ∧ lo R (pat (lvlN R s h i.toNat P)) e (pca (lvlN R s h i.toNat P)) h ≤ be R s h ((rs R 0).toNat - 1 - i.toNat) e) (pat (lvlN R s h i.toNat P)) (bg R (s + 1)) = lateL R s (pat (lvlN R s h i.toNat P)) (pca (lvlN R s h i.toNat P)) h ((rs R 0).toNat - 1 - i.toNat) := rfl
    rw [elt] at hlast
    have hnext : ∀ e, lateL R s (pat (lvlN R s h i.toNat P)) (pca (lvlN R s h i.toNat P)) h ((rs R 0).toNat - 1 - i.toNat) < e → e ≤ bg R (s + 1) → ¬ (en R e ∧ lo R (pat (lvlN R s h i.toNat P)) e (pca (lvlN R s h i.toNat P)) h ≠ -1 ∧ lo R (pat (lvlN R s h i.toNat P)) e (pca (lvlN R s h i.toNat P)) h ≤ be R s h ((rs R 0).toNat - 1 - i.toNat) e) := by
      rcases hlast with ⟨q, -⟩ | ⟨-, -, -, q⟩
      · omega
      · exact q
    refine ip_mono (Q := fun r τ2 => τ2 = τ' ∧ r = lateL R s (pat (lvlN R s h i.toNat P)) (pca (lvlN R s h i.toNat P)) h ((rs R 0).toNat - 1 - i.toNat)) ?_ ?_
    · refine ip_W (fun e τ2 => τ2 = τ' ∧ lateL R s (pat (lvlN R s h i.toNat P)) (pca (lvlN R s h i.toNat P)) h ((rs R 0).toNat - 1 - i.toNat) ≤ e ∧ e ≤ bg R (s + 1)) (fun e _ => (e - lateL R s (pat (lvlN R s h i.toNat P)) (pca (lvlN R s h i.toNat P)) h ((rs R 0).toNat - 1 - i.toNat)).toNat) ?_ ⟨rfl, a.2.1, Int.le_refl _⟩
      intro e τ2 ⟨et, e1, e2⟩
      subst et
      rw [ip_B]
      refine ip_isGood hw ix iP' l1 h0 hs iT hmono (by omega) e2 hKle hh hh2 (fun r hr => ?_)
      rcases hr with ⟨q1, q2⟩ | ⟨q1, q2⟩
      · rw [q1, ip_ifT (by omega), ip_P]
        refine ⟨rfl, ?_⟩
        by_cases z : lateL R s (pat (lvlN R s h i.toNat P)) (pca (lvlN R s h i.toNat P)) h ((rs R 0).toNat - 1 - i.toNat) < e
        · exact absurd q2 (hnext e z e2)
        · omega
      · rw [q1, ip_ifF (by omega), ip_A]
        refine ⟨⟨by omega, by omega⟩, ?_⟩
        rw [ip_B, ip_P, ip_P]
        simp only [Sum.elim_inl]
        have : e ≠ lateL R s (pat (lvlN R s h i.toNat P)) (pca (lvlN R s h i.toNat P)) h ((rs R 0).toNat - 1 - i.toNat) := fun z => q2 (by rw [z]; exact a.2.2)
        exact ⟨⟨trivial, by omega, by omega⟩, by omega⟩
    · intro r τ2 ⟨et, er⟩
      subst et er
      rw [ip_B]
      refine ip_puts hw ix iP' l1 (by omega) a.1 a.2.1 a.2.2.2.1 hh hh2 (Or.inr rfl) (fun τ3 w1 w2 => ?_)
      rw [ip_A]
      refine ⟨⟨by omega, by omega⟩, ?_⟩
      rw [ip_B, ip_P, ip_P]
      simp only [Sum.elim_inl]
      refine ⟨⟨by omega, by omega, ?_, fun a k hk => (w2 a k hk).trans (if' a k hk)⟩, by omega⟩
      rw [show (i + 1).toNat = i.toNat + 1 by omega, hlv]
      exact w1
theorem ip_MturnsPage {x : Int} {Q : Int → iMem → Prop} (hx : Mx R τ) (h3 : τ 367 33 = ppg P) (hg : 0 ≤ ppg P ∧ ppg P ≤ 39)
    (hQ1 : ppg P < 39 → Q 1 (iu (iu τ 367 33 (ppg P + 1)) 367 34 (rs R 1)))
    (hQ2 : 39 ≤ ppg P → ∀ τ', τ' 367 35 = x → τ' 367 33 = ppg P → (∀ a k, ¬ (a = 367 ∧ (k = 33 ∨ k = 34 ∨ k = 35)) → τ' a k = τ a k) → Q 0 τ') : ip (iz_Model_turnsPage 367 x) Q τ := by
  unfold iz_Model_turnsPage
  rw [ip_B, ip_Gt, h3, ip_A]
  refine ⟨⟨by omega, by omega⟩, ?_⟩
  have e1 : τ 368 1 = rs R 1 := rm_s hx.1 (by omega) (by omega)
  simp (disch := omega) only [ip_B, ip_Gt, ip_Pt, ip_Ld, m_0, l_368, iu_ne, iu_eq, e1]
  refine ⟨by omega, ?_⟩
  by_cases c : 40 ≤ ppg P + 1
  · rw [ip_ifT c]
    simp (disch := omega) only [ip_B, ip_Gt, ip_Pt, ip_A, ip_P, iu_ne, iu_eq, iR]
    refine ⟨by omega, hQ2 (by omega) _ ?_ ?_ (fun a k hk => ?_)⟩
    · rw [iu_eq]
    · simp (disch := omega) only [iu_ne, iu_eq]; omega
    · simp (disch := omega) only [iu_ne]
  · rw [ip_ifF c, ip_P]
    exact hQ1 (by omega)
end
