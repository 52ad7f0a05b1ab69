/-! ===== the other one reads: words ===== -/
def Lb (L : Int) (T : Int → Int) (τ0 : iMem) (ts : Int) (R : aRun) (q : Int) (B : Int → Int) (τ : iMem) : Prop :=
  Sp L T q τ ∧ RunM τ 404 0 R ∧ (∀ u, 0 ≤ u → u < 16 → τ 404 (9 + 16 * rn R + pw u) = B u) ∧ (∀ k, 9 + 16 * (rn R + 1) ≤ k → k < 265 → τ 404 k = 0) ∧ (τ 367 51 = np R ∧ τ 367 52 = ts) ∧ fr4 τ0 τ
def tmB (tw : Int) (B : Int → Int) (sp : Int) : Prop := (0 ≤ tw ∧ tw < 128) ∧ (bt tw 4 = true ↔ B 4 = 1) ∧ (bt tw 5 = true ↔ B 5 = 1) ∧ (bt tw 6 = true ↔ sp = 1)
def Lt (L : Int) (T : Int → Int) (τ0 : iMem) (ts : Int) (R : aRun) (q : Int) (B : Int → Int) (sp : Int) (τ : iMem) : Prop := Lb L T τ0 ts R q B τ ∧ tmB (τ 367 53) B sp
def Dm (τ0 : iMem) (f : Int) (τ : iMem) : Prop := τ 367 47 = f ∧ fr4 τ0 τ
def Om (L : Int) (T : Int → Int) (τ0 : iMem) (ts : Int) (R : aRun) (W : Int ⊕ (Int × (Int → Int) × Int)) (r : Int) (τ : iMem) : Prop :=
  (∃ f, W = Sum.inl f ∧ r = 0 ∧ Dm τ0 f τ) ∨ (∃ q B sp, W = Sum.inr (q, B, sp) ∧ r = 1 ∧ Lt L T τ0 ts R q B sp τ)
section
variable {L : Int} {T : Int → Int} {τ0 τ τ' : iMem} {q ts kd n sp : Int} {R : aRun} {B : Int → Int}
theorem Lb.go {q' : Int} (h : Lb L T τ0 ts R q B τ) (hs : Sp L T q' τ') (hf : ∀ a k, ¬ (a = 367 ∧ ((46 ≤ k ∧ k ≤ 50) ∨ k = 53)) → τ' a k = τ a k) : Lb L T τ0 ts R q' B τ' := by
  obtain ⟨h1, h2, h3, h4, h5, h6⟩ := h
  exact ⟨hs, h2.frame (fun k => hf _ _ (by omega)), fun u u0 u1 => (hf _ _ (by omega)).trans (h3 u u0 u1), fun k k0 k1 => (hf _ _ (by omega)).trans (h4 k k0 k1), ⟨(hf _ _ (by omega)).trans h5.1, (hf _ _ (by omega)).trans h5.2⟩, fun a k z => (hf a k (by omega)).trans (h6 a k z)⟩
theorem pw_inj {u w : Int} (u0 : 0 ≤ u) (u1 : u < 16) (w0 : 0 ≤ w) (w1 : w < 16) (h : pw u = pw w) : u = w := by
  unfold pw at h
  omega
theorem Lb.set {u v : Int} (h : Lb L T τ0 ts R q B τ) (u0 : 0 ≤ u) (u1 : u < 16) (n0 : 0 ≤ rn R) : Lb L T τ0 ts R q (bup B u v) (iu τ 404 (9 + 16 * rn R + pw u) v) := by
  obtain ⟨⟨p, p1, p2, p3⟩, h2, h3, h4, h5, h6⟩ := h
  have hp := pw_in u0 u1
  refine ⟨⟨p, (iu_ne (Or.inl (by omega))).trans p1, p2, p3⟩, ⟨(iu_ne (Or.inr (by omega))).trans h2.1, fun k k0 k1 => (iu_ne (Or.inr (by omega))).trans (h2.2.1 k k0 k1), fun c w c0 c1 w0 w1 => ?_⟩, fun w w0 w1 => ?_, fun k k0 k1 => (iu_ne (Or.inr (by omega))).trans (h4 k k0 k1), ⟨(iu_ne (Or.inl (by omega))).trans h5.1, (iu_ne (Or.inl (by omega))).trans h5.2⟩, fun a k z => (iu_ne (by omega)).trans (h6 a k z)⟩
  · have := pw_in w0 w1
    rw [iu_ne (Or.inr (by omega))]
    exact h2.2.2 c w c0 c1 w0 w1
  · by_cases z : w = u
    · rw [z, iu_eq, bup_eq]
    · rw [bup_ne z, iu_ne (Or.inr (fun y => z (pw_inj w0 w1 u0 u1 (by omega))))]
      exact h3 w w0 w1
theorem pw_lo {w : Int} (h : w < 8) : pw w = w := if_pos h
theorem Lb.tape (hT : TaM L T τ0) (h : Lb L T τ0 ts R q B τ) : TaM L T τ := hT.frame (h.2.2.2.2.2 _ _ (by omega)) (fun k => h.2.2.2.2.2 _ _ (by omega))
theorem Dm_of {f : Int} (h : Lb L T τ0 ts R q B τ) (h1 : τ' 367 47 = f) (hf : ∀ a k, ¬ (a = 367 ∧ ((46 ≤ k ∧ k ≤ 50) ∨ k = 53)) → τ' a k = τ a k) : Dm τ0 f τ' := ⟨h1, fun a k z => (hf a k (by omega)).trans (h.2.2.2.2.2 a k z)⟩
theorem ip_Monce {w k : Int} {Q : Int → iMem → Prop} (hW : TaW L T) (hT : TaM L T τ0) (hw : WF R) (n1 : rn R < 16) (hwk : (w = 4 ∧ k = 13) ∨ (w = 5 ∧ k = 14 ∧ kd = 0) ∨ (w = 6 ∧ k = 15)) (hwd : wd L T q = k) (h : Lt L T τ0 ts R q B sp τ) (hs : τ 367 46 = q)
    (hQ : ∀ r τ', Om L T τ0 ts R (wst L T kd q B sp) r τ' → Q r τ') : ip (iz_Model_readsOnce 367 (9 + 16 * rn R) w (kwA k)) Q τ := by
  have hL := hW.1
  have n0 := hw.1.1
  obtain ⟨h1, ⟨t0, t1⟩, t4, t5, t6⟩ := h
  have hq := h1.1.at
  have he := wd_ee (L := L) (T := T) (q := q) (k := k) (by omega) (by omega) hwd
  have hk := kw_at (k := k) (by omega) (by omega)
  have hee := ee_in (T := T) he.2.2
  -- told already
  have twice : ∀ (told : Prop), (told ↔ bt (τ 367 53) w = true) → told → wst L T kd q B sp = Sum.inl (8 * q + 3) → ip (iz_Model_readsOnce 367 (9 + 16 * rn R) w (kwA k)) Q τ := by
    intro told e1 e2 e3
    unfold iz_Model_readsOnce
    rw [ip_B, ip_Gt, ip_B, ip_Mhas t0 (by omega) (by omega) (by omega), if_pos (e1.mp e2), ip_ifF (by omega), ip_B, ip_Gt, hs, ip_B, ip_fails (by omega) (by omega) hq.1.1 (by omega), ip_B, ip_Z]
    refine ⟨Or.inl rfl, ?_⟩
    rw [ip_P]
    exact hQ 0 _ (Or.inl ⟨_, e3, rfl, Dm_of h1 iu_eq (fun a k z => iu_ne (by omega))⟩)
  have st := ib_set (x := τ 367 53) (i := w) (n := 7) (by omega) t0 (by exact t1) (by omega) (by omega)
  have bits : ∀ {B' : Int → Int} {sp' tw : Int}, tw = ibOr (τ 367 53) (ibShl 1 (ibAnd w 31)) → (B' 4 = 1 ↔ (B 4 = 1 ∨ w = 4)) → (B' 5 = 1 ↔ (B 5 = 1 ∨ w = 5)) → (sp' = 1 ↔ (sp = 1 ∨ w = 6)) → tmB tw B' sp' := by
    intro B' sp' tw e g4 g5 g6
    rw [e]
    have m : ∀ (j : Int) (P P' : Prop), 0 ≤ j → (bt (τ 367 53) j = true ↔ P) → (P' ↔ (P ∨ w = j)) → (bt (ibOr (τ 367 53) (ibShl 1 (ibAnd w 31))) j = true ↔ P') := by
      intro j P P' j0 e1 e2
      rw [st.2 j j0, Bool.or_eq_true, decide_eq_true_iff, e1, e2]
      constructor
      · intro z; rcases z with z | z
        · exact Or.inl z
        · exact Or.inr z.symm
      · intro z; rcases z with z | z
        · exact Or.inl z
        · exact Or.inr z.symm
    exact ⟨⟨st.1.1, st.1.2⟩, m 4 _ _ (by omega) t4 g4, m 5 _ _ (by omega) t5 g5, m 6 _ _ (by omega) t6 g6⟩
  by_cases c : bt (τ 367 53) w = true
  · refine twice _ Iff.rfl c ?_
    unfold wst
    rcases hwk with ⟨z1, z2⟩ | ⟨z1, z2, z3⟩ | ⟨z1, z2⟩
    · rw [if_pos (by omega), if_pos (t4.mp (by rw [← z1]; exact c))]
    · rw [if_neg (by omega), if_pos ⟨by omega, z3⟩, if_pos (t5.mp (by rw [← z1]; exact c))]
    · rw [if_neg (by omega), if_neg (by omega), if_pos (by omega), if_pos (t6.mp (by rw [← z1]; exact c))]
  · unfold iz_Model_readsOnce
    rw [ip_B, ip_Gt, ip_B, ip_Mhas t0 (by omega) (by omega) (by omega), if_neg c, ip_ifT rfl, ip_B, ip_Gt, ip_B, ip_Pt, ip_B, ip_Gt, iu_ne (Or.inr (by omega)), hs, ip_B, ip_ln, ip_A]
    refine ⟨⟨by omega, by omega⟩, ?_⟩
    rw [ip_B, ip_Pt, ip_B]
    generalize hτ : iu (iu τ 367 53 (ibOr (τ 367 53) (ibShl 1 (ibAnd w 31)))) 367 46 (q + (qs_ln (kwA k) : Int)) = τ1
    have f1 : ∀ a k, ¬ (a = 367 ∧ ((46 ≤ k ∧ k ≤ 50) ∨ k = 53)) → τ1 a k = τ a k := fun a k z => by rw [← hτ, iu_ne (by omega), iu_ne (by omega)]
    have s1 : Sp L T (nx L T q) τ1 := Sp_ee hq.1.1 he.2.2 (by rw [← hτ, iu_eq]; exact he.1)
    have b1 : Lb L T τ0 ts R (nx L T q) B τ1 := h1.go s1 f1
    have e53 : τ1 367 53 = ibOr (τ 367 53) (ibShl 1 (ibAnd w 31)) := by rw [← hτ, iu_ne (Or.inr (by omega)), iu_eq]
    by_cases c6 : w = 6
    · have k15 : wd L T q = 15 := by omega
      have esp : ¬ sp = 1 := fun z => c (by rw [c6]; exact t6.mpr z)
      have ew : wst L T kd q B sp = if numF L T (nx L T q) 0 30 ≠ -1 then Sum.inl (numF L T (nx L T q) 0 30) else Sum.inr (nx L T (nx L T q), bup B 6 (va L T (nx L T q)), 1) := by
        unfold wst
        rw [if_neg (by omega), if_neg (by omega), if_pos k15, if_neg esp]
      rw [ip_ifF (fun z => z c6), ip_B]
      refine ip_Mnum hW (b1.tape hT) s1 (by omega) (fun e τ2 s2 n2 _ f2 => ?_) (fun e τ2 n2 f2 => ?_)
      · rw [ip_ifT (by omega), ip_P]
        simp only [Sum.elim_inl]
        rw [ip_ifF (fun z => z c6), ip_B, ip_Gt, n2, ip_A]
        refine ⟨⟨by omega, by omega⟩, ?_⟩
        rw [ip_B, ip_St, m_50, l_404]
        refine ⟨⟨⟨by omega, by omega⟩, by omega⟩, ?_⟩
        rw [ip_P]
        have b2 : Lb L T τ0 ts R (nx L T (nx L T q)) B τ2 := b1.go s2 (fun a k z => f2 a k (by omega))
        have b3 := b2.set (u := 6) (v := va L T (nx L T q)) (by omega) (by omega) n0
        rw [pw_lo (by omega)] at b3
        rw [c6]
        refine hQ 1 _ (Or.inr ⟨_, _, _, by rw [ew, if_neg (fun z => z e)], rfl, b3, ?_⟩)
        refine bits ?_ ?_ ?_ ?_
        · rw [iu_ne (Or.inl (by omega)), f2 _ _ (by omega), e53]
        · rw [bup_ne (by omega)]; omega
        · rw [bup_ne (by omega)]; omega
        · omega
      · rw [ip_ifF (by omega), ip_P]
        simp only [Sum.elim_inr, ip_P]
        exact hQ 0 τ2 (Or.inl ⟨_, by rw [ew, if_pos e], rfl, Dm_of b1 n2 (fun a k z => f2 a k (by omega))⟩)
    · have ew : wst L T kd q B sp = Sum.inr (nx L T q, bup B w 1, sp) := by
        unfold wst
        rcases hwk with ⟨z1, z2⟩ | ⟨z1, z2, z3⟩ | ⟨z1, z2⟩
        · rw [if_pos (by omega), if_neg (fun y => c (by rw [z1]; exact t4.mpr y)), z1]
        · rw [if_neg (by omega), if_pos ⟨by omega, z3⟩, if_neg (fun y => c (by rw [z1]; exact t5.mpr y)), z1]
        · omega
      rw [ip_ifT c6, ip_P]
      simp only [Sum.elim_inl]
      rw [ip_ifT c6, ip_A]
      refine ⟨⟨by omega, by omega⟩, ?_⟩
      rw [ip_B, ip_St, m_50, l_404]
      refine ⟨⟨⟨by omega, by omega⟩, by omega⟩, ?_⟩
      rw [ip_P]
      have b3 := b1.set (u := w) (v := 1) (by omega) (by omega) n0
      rw [pw_lo (by omega)] at b3
      refine hQ 1 _ (Or.inr ⟨_, _, _, ew, rfl, b3, ?_⟩)
      refine bits ?_ ?_ ?_ ?_
      · rw [iu_ne (Or.inl (by omega)), e53]
      · unfold bup
        by_cases y : (4 : Int) = w
        · rw [if_pos y]; omega
        · rw [if_neg y]; omega
      · unfold bup
        by_cases y : (5 : Int) = w
        · rw [if_pos y]; omega
        · rw [if_neg y]; omega
      · omega
theorem kw_16 : kwA 16 = 425 := by decide
theorem ln_16 : qs_ln 425 = 4 := by decide +kernel
theorem ip_Mmark {Q : Int → iMem → Prop} (hW : TaW L T) (hT : TaM L T τ0) (hw : WF R) (n1 : rn R < 16) (hwd : wd L T q = 16) (ok : okB kd n B) (hn30 : B 1 ≤ 30) (h : Lt L T τ0 ts R q B sp τ) (hs : τ 367 46 = q)
    (hQ : ∀ r τ', Om L T τ0 ts R (mkW L T q B sp) r τ' → Q r τ') : ip (iz_Model_readsMark 367 (9 + 16 * rn R)) Q τ := by
  have hL := hW.1
  have n0 := hw.1.1
  obtain ⟨h1, ht⟩ := h
  have hq := h1.1.at
  have he := wd_ee (L := L) (T := T) (q := q) (k := 16) (by omega) (by omega) hwd
  rw [kw_16, ln_16] at he
  have k7 := ok.2.2.2.2.2.2.1
  have cell : ∀ {τ : iMem} {q : Int}, Lb L T τ0 ts R q B τ → ∀ w, 0 ≤ w → w < 8 → τ 404 (9 + 16 * rn R + w) = B w := fun h w w0 w1 => by
    have := h.2.2.1 w w0 (by omega)
    rwa [pw_lo w1] at this
  unfold iz_Model_readsMark
  rw [ip_A]
  refine ⟨⟨by omega, by omega⟩, ?_⟩
  rw [ip_B, ip_Ld, m_50, l_404, cell h1 7 (by omega) (by omega)]
  refine ⟨⟨by omega, by omega⟩, ?_⟩
  by_cases c : B 7 = 4
  · rw [ip_ifF (fun z => z c), ip_B, ip_Gt, hs, ip_B, ip_fails (by omega) (by omega) hq.1.1 (by omega), ip_B, ip_Z]
    refine ⟨Or.inl rfl, ?_⟩
    rw [ip_P]
    refine hQ 0 _ (Or.inl ⟨8 * q + 3, ?_, rfl, Dm_of h1 iu_eq (fun a k z => iu_ne (by omega))⟩)
    unfold mkW
    rw [if_pos (by omega)]
  · rw [ip_ifT c, ip_B, ip_Gt, hs, ip_A]
    refine ⟨⟨by omega, by omega⟩, ?_⟩
    rw [ip_B, ip_Pt, ip_A]
    refine ⟨⟨by omega, by omega⟩, ?_⟩
    have s1 : Sp L T (nx L T q) (iu τ 367 46 (q + 4)) := Sp_ee hq.1.1 he.2.2 (by rw [iu_eq]; omega)
    have b1 : Lb L T τ0 ts R (nx L T q) B (iu τ 367 46 (q + 4)) := h1.go s1 (fun a k z => iu_ne (by omega))
    have t1 : tmB (iu τ 367 46 (q + 4) 367 53) B sp := by rw [iu_ne (Or.inr (by omega))]; exact ht
    rw [ip_B, ip_Ld, l_404, cell b1 1 (by omega) (by omega)]
    refine ⟨⟨by omega, by omega⟩, ?_⟩
    rw [ip_B]
    refine ip_Mnum hW (b1.tape hT) s1 (by omega) (fun e τ2 s2 n2 p2 f2 => ?_) (fun e τ2 n2 f2 => ?_)
    · have hn := numF_ok e (by have := nx_in (T := T) he.2.2; omega)
      have hnx := nx_in (T := T) he.2.2
      have b2 : Lb L T τ0 ts R (nx L T (nx L T q)) B τ2 := b1.go s2 (fun a k z => f2 a k (by omega))
      have t2 : tmB (τ2 367 53) B sp := by rw [f2 _ _ (by omega)]; exact t1
      rw [ip_ifT (by omega), ip_A]
      refine ⟨⟨by omega, by omega⟩, ?_⟩
      rw [ip_B, ip_Ld, l_404, cell b2 7 (by omega) (by omega)]
      refine ⟨⟨by omega, by omega⟩, ?_⟩
      rw [ip_B]
      have raw : ∀ s, 0 ≤ s → s < 4 → τ2 404 (9 + 16 * rn R + 8 + 2 * s) = B (8 + s) := fun s s0 s1 => by
        have := b2.2.2.1 (8 + s) (by omega) (by omega)
        rw [← this]
        congr 1
        unfold pw
        rw [if_neg (by omega), if_pos (by omega)]
        omega
      refine ip_mono (Q := fun v τ3 => (v = Sum.inl () ∧ τ3 = τ2 ∧ ¬ dup B (va L T (nx L T q))) ∨ (v = Sum.inr 0 ∧ dup B (va L T (nx L T q)) ∧ τ3 = iu τ2 367 47 (8 * nx L T q + 2))) ?_ (fun v τ3 g => ?_)
      · refine ip_W (fun s τ3 => τ3 = τ2 ∧ (0 ≤ s ∧ s ≤ B 7) ∧ ∀ i, 0 ≤ i → i < s → B (8 + i) ≠ va L T (nx L T q)) (fun s _ => (B 7 - s).toNat) ?_ ⟨rfl, ⟨Int.le_refl _, k7.1⟩, fun i i0 i1 => by omega⟩
        intro s τ3 ⟨et, g1, g2⟩
        subst et
        by_cases d : B 7 ≤ s
        · rw [ip_ifT d, ip_P]
          simp only [Sum.elim_inr]
          exact Or.inl ⟨trivial, trivial, fun ⟨i, i0, i1⟩ => g2 i i0.1 (by omega) i1⟩
        · rw [ip_ifF d, ip_A]
          refine ⟨⟨by omega, by omega⟩, ?_⟩
          rw [ip_A]
          refine ⟨⟨by omega, by omega⟩, ?_⟩
          rw [ip_A]
          refine ⟨⟨by omega, by omega⟩, ?_⟩
          rw [ip_B, ip_Ld, l_404, raw s g1.1 (by omega)]
          refine ⟨⟨by omega, by omega⟩, ?_⟩
          rw [ip_B, ip_Gt, n2]
          by_cases z : B (8 + s) = va L T (nx L T q)
          · rw [ip_ifF (fun y => y z), ip_B, ip_Gt, p2, ip_B, ip_fails (by omega) (by omega) (by omega) (by omega), ip_B, ip_Z]
            refine ⟨Or.inl rfl, ?_⟩
            rw [ip_P]
            exact Or.inr ⟨rfl, ⟨s, ⟨g1.1, by omega⟩, z⟩, rfl⟩
          · rw [ip_ifT z, ip_A]
            refine ⟨⟨by omega, by omega⟩, ?_⟩
            rw [ip_B, ip_P, ip_P]
            simp only [Sum.elim_inl]
            refine ⟨⟨trivial, ⟨by omega, by omega⟩, fun i i0 i1 => ?_⟩, by omega⟩
            by_cases y : i = s
            · rw [y]; exact z
            · exact g2 i i0 (by omega)
      · rcases g with ⟨g1, g2, g3⟩ | ⟨g1, g2, g3⟩
        · subst g2
          rw [g1, Sum.elim_inl, ip_B, ip_Gt, n2, ip_A]
          refine ⟨⟨by omega, by omega⟩, ?_⟩
          rw [ip_A]
          refine ⟨⟨by omega, by omega⟩, ?_⟩
          rw [ip_A]
          refine ⟨⟨by omega, by omega⟩, ?_⟩
          rw [ip_B, ip_St, l_404]
          refine ⟨⟨⟨by omega, by omega⟩, by omega⟩, ?_⟩
          have b3 := b2.set (u := 8 + B 7) (v := va L T (nx L T q)) (by omega) (by omega) n0
          have ep : 9 + 16 * rn R + pw (8 + B 7) = 9 + 16 * rn R + 8 + 2 * B 7 := by
            unfold pw
            rw [if_neg (by omega), if_pos (by omega)]
            omega
          rw [ep] at b3
          generalize hτ : iu τ3 404 (9 + 16 * rn R + 8 + 2 * B 7) (va L T (nx L T q)) = τ4 at b3
          have t3 : tmB (τ4 367 53) B sp := by rw [← hτ, iu_ne (Or.inl (by omega))]; exact t2
          rw [ip_B]
          refine ip_Mnum hW (b3.tape hT) b3.1 (by omega) (fun e2 τ5 s5 n5 p5 f5 => ?_) (fun e2 τ5 n5 f5 => ?_)
          · have em : mkW L T q B sp = Sum.inr (nx L T (nx L T (nx L T q)), mkB B (va L T (nx L T q)) (va L T (nx L T (nx L T q))), sp) := by
              unfold mkW
              rw [if_neg (by omega), if_neg (fun z => z e), if_neg g3, if_neg (fun z => z e2)]
            have b5 := b3.go s5 (fun a k z => f5 a k (by omega))
            rw [ip_ifT (by omega), ip_B, ip_Gt, n5, ip_A]
            refine ⟨⟨by omega, by omega⟩, ?_⟩
            rw [ip_A]
            refine ⟨⟨by omega, by omega⟩, ?_⟩
            rw [ip_A]
            refine ⟨⟨by omega, by omega⟩, ?_⟩
            rw [ip_A]
            refine ⟨⟨by omega, by omega⟩, ?_⟩
            rw [ip_B, ip_St, l_404]
            refine ⟨⟨⟨by omega, by omega⟩, by omega⟩, ?_⟩
            have b6 := b5.set (u := 12 + B 7) (v := va L T (nx L T (nx L T q))) (by omega) (by omega) n0
            have ep2 : 9 + 16 * rn R + pw (12 + B 7) = 9 + 16 * rn R + 8 + 2 * B 7 + 1 := by
              unfold pw
              rw [if_neg (by omega), if_neg (by omega)]
              omega
            rw [ep2] at b6
            generalize hτ6 : iu τ5 404 (9 + 16 * rn R + 8 + 2 * B 7 + 1) (va L T (nx L T (nx L T q))) = τ6 at b6
            have e7 : τ6 404 (9 + 16 * rn R + 7) = B 7 := by
              have := b6.2.2.1 7 (by omega) (by omega)
              rw [pw_lo (by omega)] at this
              rw [this, bup_ne (by omega), bup_ne (by omega)]
            rw [ip_A]
            refine ⟨⟨by omega, by omega⟩, ?_⟩
            rw [ip_B, ip_Ld, l_404, e7]
            refine ⟨⟨by omega, by omega⟩, ?_⟩
            rw [ip_A]
            refine ⟨⟨by omega, by omega⟩, ?_⟩
            rw [ip_A]
            refine ⟨⟨by omega, by omega⟩, ?_⟩
            rw [ip_B, ip_St, l_404]
            refine ⟨⟨⟨by omega, by omega⟩, by omega⟩, ?_⟩
            rw [ip_P]
            have b7 := b6.set (u := 7) (v := B 7 + 1) (by omega) (by omega) n0
            rw [pw_lo (by omega)] at b7
            refine hQ 1 _ (Or.inr ⟨_, _, _, em, rfl, b7, ?_⟩)
            have e53 : iu τ6 404 (9 + 16 * rn R + 7) (B 7 + 1) 367 53 = τ4 367 53 := by rw [iu_ne (Or.inl (by omega)), ← hτ6, iu_ne (Or.inl (by omega)), f5 _ _ (by omega)]
            have e4 : mkB B (va L T (nx L T q)) (va L T (nx L T (nx L T q))) 4 = B 4 := by unfold mkB; rw [bup_ne (by omega), bup_ne (by omega), bup_ne (by omega)]
            have e5 : mkB B (va L T (nx L T q)) (va L T (nx L T (nx L T q))) 5 = B 5 := by unfold mkB; rw [bup_ne (by omega), bup_ne (by omega), bup_ne (by omega)]
            rw [e53]
            exact ⟨t3.1, by rw [e4]; exact t3.2.1, by rw [e5]; exact t3.2.2.1, t3.2.2.2⟩
          · have em : mkW L T q B sp = Sum.inl (numF L T (nx L T (nx L T q)) 1 20) := by
              unfold mkW
              rw [if_neg (by omega), if_neg (fun z => z e), if_neg g3, if_pos e2]
            rw [ip_ifF (by omega), ip_P]
            exact hQ 0 τ5 (Or.inl ⟨_, em, rfl, Dm_of b3 n5 (fun a k z => f5 a k (by omega))⟩)
        · have em : mkW L T q B sp = Sum.inl (8 * nx L T q + 2) := by
            unfold mkW
            rw [if_neg (by omega), if_neg (fun z => z e), if_pos g2]
          rw [g1, Sum.elim_inr, ip_P, g3]
          exact hQ 0 _ (Or.inl ⟨_, em, rfl, Dm_of b2 iu_eq (fun a k z => iu_ne (by omega))⟩)
    · rw [ip_ifF (by omega), ip_P]
      refine hQ 0 τ2 (Or.inl ⟨_, ?_, rfl, Dm_of b1 n2 (fun a k z => f2 a k (by omega))⟩)
      unfold mkW
      rw [if_neg (by omega), if_pos e]
theorem ip_Mwords {Q : Int → iMem → Prop} (hW : TaW L T) (hT : TaM L T τ0) (hw : WF R) (n1 : rn R < 16) (ok : okB kd n B) (hn30 : n ≤ 30) (h45 : B 4 = 0 ∧ B 5 = 0) (h : Lb L T τ0 ts R q B τ)
    (hQ : ∀ r τ', Om L T τ0 ts R (wds L T kd 400 q B 0) r τ' → Q r τ') : ip (iz_Model_readsWords 367 (9 + 16 * rn R) kd) Q τ := by
  have hL := hW.1
  have n0 := hw.1.1
  have hq := h.1.at
  unfold iz_Model_readsWords
  rw [ip_B, ip_Pt, ip_B]
  have h0 : Lt L T τ0 ts R q B 0 (iu τ 367 53 0) := by
    obtain ⟨p, p1, p2, p3⟩ := h.1
    refine ⟨h.go ⟨p, (iu_ne (Or.inr (by omega))).trans p1, p2, p3⟩ (fun a k z => iu_ne (by omega)), ?_⟩
    rw [iu_eq]
    exact ⟨⟨by omega, by omega⟩, ⟨fun z => absurd z (by rw [bt_0]; decide), fun z => by omega⟩, ⟨fun z => absurd z (by rw [bt_0]; decide), fun z => by omega⟩, ⟨fun z => absurd z (by rw [bt_0]; decide), fun z => by omega⟩⟩
  generalize hW0 : wds L T kd 400 q B 0 = W0 at hQ
  refine ip_mono (Q := fun v τ1 => (v = Sum.inl () ∧ Om L T τ0 ts R W0 1 τ1) ∨ (v = Sum.inr 0 ∧ Om L T τ0 ts R W0 0 τ1)) ?_ (fun v τ1 g => ?_)
  · refine ip_Wg (fun m (_ : Unit) τ1 => ∃ q B sp, wds L T kd m q B sp = W0 ∧ L - q ≤ m ∧ okB kd n B ∧ Lt L T τ0 ts R q B sp τ1) ?_ (k := 400) ⟨q, B, 0, hW0, by omega, ok, h0⟩
    intro m s τ1 ⟨q, B, sp, g1, g2, g3, g4⟩
    have hq := g4.1.1.at
    have hT1 := g4.1.tape hT
    rw [ip_B]
    refine ip_nextByte hW hT1 g4.1.1 (fun τ2 w1 w2 w3 => ?_)
    have g5 : Lt L T τ0 ts R q B sp τ2 := ⟨g4.1.go (Sp_of w1 hq.1.1 hq.1.2 hq.2) (fun a k z => w2 a k (by omega)), by rw [w3 _ _ (by omega)]; exact g4.2⟩
    rw [ip_B, ip_in]
    have hlet : ((if q < L then T q else -1) < 97 ∨ 122 < (if q < L then T q else -1)) ↔ sn L T q ≠ 0 := by
      unfold sn
      by_cases z : q < L
      · rw [if_pos z, if_pos z, Ne, sg_0]; omega
      · rw [if_neg z, if_neg z]; omega
    by_cases c0 : sn L T q = 0
    · have hqL := (sn_lt (L := L) (T := T) (q := q) (by omega)).1
      obtain ⟨m', rfl⟩ : ∃ m', m = m' + 1 := ⟨m - 1, by omega⟩
      have e : wds L T kd (m' + 1) q B sp = if sn L T q = 0 then Sum.elim Sum.inl (fun s => wds L T kd m' s.1 s.2.1 s.2.2) (wst L T kd q B sp) else Sum.inr (q, B, sp) := rfl
      rw [e, if_pos c0] at g1
      rw [if_neg (fun z => hlet.mp z c0), ip_ifF (by omega), ip_B]
      -- spot
      have isw : ∀ {Q : Int → iMem → Prop} {τ3 : iMem} (k : Int), 0 ≤ k → k < 17 → Lt L T τ0 ts R q B sp τ3 → τ3 367 46 = q → (∀ τ4, Lt L T τ0 ts R q B sp τ4 → τ4 367 46 = q → Q (if wd L T q = k then 1 else 0) τ4) → ip (iz_Model_isWord 367 (kwA k)) Q τ3 := by
        intro Q τ3 k k0 k1 x1 x2 x3
        refine ip_MisWord hW (x1.1.tape hT) x1.1.1 k0 k1 (fun τ4 y1 y2 => ?_)
        exact x3 τ4 ⟨x1.1.go (Sp_of y1 hq.1.1 hq.1.2 hq.2) (fun a k z => y2 a k (by omega)), by rw [y2 _ _ (by omega)]; exact x1.2⟩ y1
      have last : ∀ r τ3, Om L T τ0 ts R (wst L T kd q B sp) r τ3 → ip (if ¬ r = 0 then iP (Sum.inl ()) else iP (Sum.inr (Sum.inr 0 : Unit ⊕ Int))) (fun r τ' => Sum.elim (fun s' => ∃ k', k' < m' + 1 ∧ ∃ q B sp, wds L T kd k' q B sp = W0 ∧ L - q ≤ k' ∧ okB kd n B ∧ Lt L T τ0 ts R q B sp τ') (fun v => (v = Sum.inl () ∧ Om L T τ0 ts R W0 1 τ') ∨ (v = Sum.inr 0 ∧ Om L T τ0 ts R W0 0 τ')) r) τ3 := by
        intro r τ3 ho
        rcases ho with ⟨f, o1, o2, o3⟩ | ⟨q', B', sp', o1, o2, o3⟩
        · rw [o1, Sum.elim_inl] at g1
          rw [ip_ifF (fun z => z o2), ip_P]
          exact Or.inr ⟨rfl, Or.inl ⟨f, g1.symm, rfl, o3⟩⟩
        · have k := wst_ok g3 hq.1.1 c0 o1
          rw [o1, Sum.elim_inr] at g1
          dsimp only at g1 k
          rw [ip_ifT (by omega), ip_P]
          exact ⟨m', by omega, q', B', sp', g1, by omega, k.2, o3⟩
      refine isw 13 (by omega) (by omega) g5 w1 (fun τ3 g6 s6 => ?_)
      rw [ip_B]
      by_cases c13 : wd L T q = 13
      · rw [if_pos c13, ip_ifF (by omega), ip_B]
        refine ip_Monce (kd := kd) (w := 4) (k := 13) hW hT hw n1 (Or.inl ⟨rfl, rfl⟩) c13 g6 s6 (fun r τ4 ho => ?_)
        rw [ip_P]
        exact last r τ4 ho
      · rw [if_neg c13, ip_ifT rfl, ip_B]
        refine isw 15 (by omega) (by omega) g6 s6 (fun τ4 g7 s7 => ?_)
        by_cases c15 : wd L T q = 15
        · rw [if_pos c15, ip_ifF (by omega), ip_B]
          refine ip_Monce (kd := kd) (w := 6) (k := 15) hW hT hw n1 (Or.inr (Or.inr ⟨rfl, rfl⟩)) c15 g7 s7 (fun r τ5 ho => ?_)
          rw [ip_P]
          exact last r τ5 ho
        · rw [if_neg c15, ip_ifT rfl, ip_B]
          have bad : ∀ τ5, Lt L T τ0 ts R q B sp τ5 → τ5 367 46 = q → wst L T kd q B sp = Sum.inl (8 * q + 1) → ip (iB (iGt 367 46) fun x14 => iB (iz_Model_fails 367 1 x14) fun x15 => iP x15) (fun r τ' => ip (if ¬ r = 0 then iP (Sum.inl ()) else iP (Sum.inr (Sum.inr 0 : Unit ⊕ Int))) (fun r τ' => Sum.elim (fun s' => ∃ k', k' < m' + 1 ∧ ∃ q B sp, wds L T kd k' q B sp = W0 ∧ L - q ≤ k' ∧ okB kd n B ∧ Lt L T τ0 ts R q B sp τ') (fun v => (v = Sum.inl () ∧ Om L T τ0 ts R W0 1 τ') ∨ (v = Sum.inr 0 ∧ Om L T τ0 ts R W0 0 τ')) r) τ') τ5 := by
            intro τ5 g8 s8 ew
            rw [ip_B, ip_Gt, s8, ip_B, ip_fails (by omega) (by omega) hq.1.1 (by omega), ip_P]
            exact last 0 _ (Or.inl ⟨_, ew, rfl, Dm_of g8.1 iu_eq (fun a k z => iu_ne (by omega))⟩)
          by_cases ck : kd = 0
          · rw [ip_ifF (fun z => z ck), ip_B]
            refine isw 14 (by omega) (by omega) g7 s7 (fun τ5 g8 s8 => ?_)
            by_cases c14 : wd L T q = 14
            · rw [if_pos c14, ip_ifF (by omega), ip_B]
              refine ip_Monce (kd := kd) (w := 5) (k := 14) hW hT hw n1 (Or.inr (Or.inl ⟨rfl, rfl, ck⟩)) c14 g8 s8 (fun r τ6 ho => ?_)
              rw [ip_P]
              simp only [Sum.elim_inr, ip_P]
              exact last r τ6 ho
            · rw [if_neg c14, ip_ifT rfl, ip_P]
              simp only [Sum.elim_inl]
              rw [ip_B, ip_ifF (fun z => z ck), ip_B]
              refine isw 16 (by omega) (by omega) g8 s8 (fun τ6 g9 s9 => ?_)
              by_cases c16 : wd L T q = 16
              · rw [if_pos c16, ip_ifF (by omega), ip_B]
                refine ip_Mmark (sp := sp) hW hT hw n1 c16 g3 (by have := g3.1.2; omega) g9 s9 (fun r τ7 ho => ?_)
                rw [ip_P]
                simp only [Sum.elim_inr, ip_P]
                rw [← wst_16 c16 ck] at ho
                exact last r τ7 ho
              · rw [if_neg c16, ip_ifT rfl, ip_P]
                simp only [Sum.elim_inl]
                refine bad τ6 g9 s9 ?_
                unfold wst
                rw [if_neg c13, if_neg (fun z => c14 z.1), if_neg c15, if_neg (fun z => c16 z.1)]
          · rw [ip_ifT ck, ip_P]
            simp only [Sum.elim_inl]
            rw [ip_B, ip_ifT ck, ip_P]
            simp only [Sum.elim_inl]
            refine bad τ4 g7 s7 ?_
            unfold wst
            rw [if_neg c13, if_neg (fun z => ck z.2), if_neg c15, if_neg (fun z => ck z.2)]
    · have stop : W0 = Sum.inr (q, B, sp) := by
        rw [← g1]
        cases m with
        | zero => rfl
        | succ m => exact if_neg c0
      rw [if_pos (hlet.mpr c0), ip_ifT rfl, ip_P]
      exact Or.inl ⟨rfl, Or.inr ⟨q, B, sp, stop, rfl, g5⟩⟩
  · rcases g with ⟨g1, g2⟩ | ⟨g1, g2⟩
    · rw [g1, Sum.elim_inl, ip_P]; exact hQ 1 τ1 g2
    · rw [g1, Sum.elim_inr, ip_P]; exact hQ 0 τ1 g2
end
