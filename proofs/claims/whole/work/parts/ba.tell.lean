/-! ===== the other one reads: BLOCKS ===== -/
def Lm (L : Int) (T : Int → Int) (τ0 : iMem) (q ts : Int) (R : aRun) (τ : iMem) : Prop :=
  Sp L T q τ ∧ RunM τ 404 0 R ∧ (∀ k, 9 + 16 * rn R ≤ k → k < 265 → τ 404 k = 0) ∧ (τ 367 51 = np R ∧ τ 367 52 = ts) ∧ fr4 τ0 τ
def PM (L : Int) (T : Int → Int) (τ0 : iMem) (W : Int ⊕ (Int × aRun × Int)) (r : Int) (τ : iMem) : Prop :=
  (∃ f, W = Sum.inl f ∧ r = 0 ∧ Dm τ0 f τ) ∨ (∃ q R ts, W = Sum.inr (q, R, ts) ∧ r = 1 ∧ Lm L T τ0 q ts R τ)
def QM (L : Int) (T : Int → Int) (τ0 : iMem) (ts : Int) (W : Int ⊕ (Int × aRun)) (r : Int) (τ : iMem) : Prop :=
  (∃ f, W = Sum.inl f ∧ r = 0 ∧ Dm τ0 f τ) ∨ (∃ q R, W = Sum.inr (q, R) ∧ r = 1 ∧ Lm L T τ0 q ts R τ)
theorem kd_kw : ∀ k : Nat, k < 17 → (qm_kd (kwA k)).1 = 6 := by decide +kernel
section
variable {L : Int} {T : Int → Int} {τ0 τ τ' : iMem} {q ts kd n sp : Int} {R : aRun} {B : Int → Int}
theorem ip_kindW {k : Int} {Q : Nat → iMem → Prop} (k0 : 0 ≤ k) (k1 : k ≤ 4) : ip (iK 6 (iz_Model_kindWord k)) Q τ ↔ Q (kwA (8 + k)) τ := by
  have hk := kd_kw (8 + k).toNat (by omega)
  rw [show (((8 + k).toNat : Nat) : Int) = 8 + k by omega] at hk
  rw [ip_K]
  unfold iz_Model_kindWord
  have hc : k = 0 ∨ k = 1 ∨ k = 2 ∨ k = 3 ∨ k = 4 := by omega
  rcases hc with rfl | rfl | rfl | rfl | rfl
  · rw [ip_ifT rfl, ip_P]; exact and_iff_right hk
  · rw [ip_ifF (by omega), ip_ifT rfl, ip_P]; exact and_iff_right hk
  · rw [ip_ifF (by omega), ip_ifF (by omega), ip_ifT rfl, ip_P]; exact and_iff_right hk
  · rw [ip_ifF (by omega), ip_ifF (by omega), ip_ifF (by omega), ip_ifT rfl, ip_P]; exact and_iff_right hk
  · rw [ip_ifF (by omega), ip_ifF (by omega), ip_ifF (by omega), ip_ifF (by omega), ip_P]; exact and_iff_right hk
theorem ip_setW {k : Int} {Q : Nat → iMem → Prop} (k0 : 0 ≤ k) (k1 : k < 8) : ip (iK 6 (iz_Model_settingWord k)) Q τ ↔ Q (kwA k) τ := by
  have hk := kd_kw k.toNat (by omega)
  rw [show ((k.toNat : Nat) : Int) = k by omega] at hk
  rw [ip_K]
  unfold iz_Model_settingWord
  have hc : k = 0 ∨ k = 1 ∨ k = 2 ∨ k = 3 ∨ k = 4 ∨ k = 5 ∨ k = 6 ∨ k = 7 := by omega
  rcases hc with rfl | rfl | rfl | rfl | rfl | rfl | rfl | rfl
  · rw [ip_ifT rfl, ip_P]; exact and_iff_right hk
  · rw [ip_ifF (by omega), ip_ifT rfl, ip_P]; exact and_iff_right hk
  · rw [ip_ifF (by omega), ip_ifF (by omega), ip_ifT rfl, ip_P]; exact and_iff_right hk
  · rw [ip_ifF (by omega), ip_ifF (by omega), ip_ifF (by omega), ip_ifT rfl, ip_P]; exact and_iff_right hk
  · rw [ip_ifF (by omega), ip_ifF (by omega), ip_ifF (by omega), ip_ifF (by omega), ip_ifT rfl, ip_P]; exact and_iff_right hk
  · rw [ip_ifF (by omega), ip_ifF (by omega), ip_ifF (by omega), ip_ifF (by omega), ip_ifF (by omega), ip_ifT rfl, ip_P]; exact and_iff_right hk
  · rw [ip_ifF (by omega), ip_ifF (by omega), ip_ifF (by omega), ip_ifF (by omega), ip_ifF (by omega), ip_ifF (by omega), ip_ifT rfl, ip_P]; exact and_iff_right hk
  · rw [ip_ifF (by omega), ip_ifF (by omega), ip_ifF (by omega), ip_ifF (by omega), ip_ifF (by omega), ip_ifF (by omega), ip_ifF (by omega), ip_P]; exact and_iff_right hk
theorem Lm.b (h : Lm L T τ0 q ts R τ) (n0 : 0 ≤ rn R) (n1 : rn R < 16) : Lb L T τ0 ts R q (fun _ => 0) τ := by
  refine ⟨h.1, h.2.1, fun u u0 u1 => ?_, fun k k0 k1 => h.2.2.1 k (by omega) k1, h.2.2.2.1, h.2.2.2.2⟩
  have := pw_in u0 u1
  exact h.2.2.1 _ (by omega) (by omega)
theorem Lm.go {q' : Int} (h : Lm L T τ0 q ts R τ) (hs : Sp L T q' τ') (hf : ∀ a k, ¬ (a = 367 ∧ ((46 ≤ k ∧ k ≤ 50) ∨ k = 53)) → τ' a k = τ a k) : Lm L T τ0 q' ts R τ' :=
  ⟨hs, h.2.1.frame (fun k => hf _ _ (by omega)), fun k k0 k1 => (hf _ _ (by omega)).trans (h.2.2.1 k k0 k1), ⟨(hf _ _ (by omega)).trans h.2.2.2.1.1, (hf _ _ (by omega)).trans h.2.2.2.1.2⟩, fun a k z => (hf a k (by omega)).trans (h.2.2.2.2 a k z)⟩
theorem Lm.tape (hT : TaM L T τ0) (h : Lm L T τ0 q ts R τ) : TaM L T τ := hT.frame (h.2.2.2.2 _ _ (by omega)) (fun k => h.2.2.2.2 _ _ (by omega))
theorem Dm_m {f : Int} (h : Lm L T τ0 q ts R τ) (h1 : τ' 367 47 = f) (hf : ∀ a k, ¬ (a = 367 ∧ ((46 ≤ k ∧ k ≤ 50) ∨ k = 53)) → τ' a k = τ a k) : Dm τ0 f τ' := ⟨h1, fun a k z => (hf a k (by omega)).trans (h.2.2.2.2 a k z)⟩
theorem np_RB (n0 : 0 ≤ rn R) : np (RB R B) = np R + B 1 := by
  show sI (fun c => rc (RB R B) c 1) (rn R + 1) = sI (fun c => rc R c 1) (rn R) + B 1
  rw [sI_s n0]
  congr 1
  · exact sI_congr (fun i i0 i1 => by show rc (RB R B) i 1 = rc R i 1; rw [RB_rc, if_neg (by omega)])
  · show rc (RB R B) (rn R) 1 = B 1
    rw [RB_rc, if_pos rfl]
/-- the BLOCK is one of the RUN then -/
theorem Lb.done (h : Lb L T τ0 ts R q B τ) (n0 : 0 ≤ rn R) (h8 : τ' 404 8 = rn R + 1) (h51 : τ' 367 51 = np R + B 1) (hf : ∀ a k, ¬ ((a = 404 ∧ k = 8) ∨ (a = 367 ∧ k = 51)) → τ' a k = τ a k) : Lm L T τ0 q ts (RB R B) τ' := by
  obtain ⟨⟨p, p1, p2, p3⟩, h2, h3, h4, h5, h6⟩ := h
  have en : rn (RB R B) = rn R + 1 := rfl
  refine ⟨⟨p, (hf _ _ (by omega)).trans p1, p2, p3⟩, ⟨h8, fun k k0 k1 => (hf _ _ (by omega)).trans (h2.2.1 k k0 k1), fun c u c0 c1 u0 u1 => ?_⟩, fun k k0 k1 => (hf _ _ (by omega)).trans (h4 k (by omega) k1), ⟨by rw [h51, np_RB n0], (hf _ _ (by omega)).trans h5.2⟩, fun a k z => (hf a k (by omega)).trans (h6 a k z)⟩
  have hp := pw_in u0 u1
  rw [en] at c1
  rw [RB_rc, hf _ _ (by omega)]
  by_cases z : c = rn R
  · rw [if_pos z, z, show 0 + 9 + 16 * rn R + pw u = 9 + 16 * rn R + pw u by omega]
    exact h3 u u0 u1
  · rw [if_neg z]
    exact h2.2.2 c u c0 (by omega) u0 u1
theorem ip_highest {Q : Int → iMem → Prop} : ip (iz_Model_highest kd) Q τ ↔ Q (hiK kd) τ := by
  unfold iz_Model_highest hiK
  by_cases c1 : kd = 1
  · rw [ip_ifF (fun z => z c1), ip_P, if_pos c1]
  · rw [ip_ifT c1, if_neg c1]
    by_cases c2 : kd = 2
    · rw [ip_ifF (fun z => z c2), ip_P, if_pos c2]
    · rw [ip_ifT c2, if_neg c2]
      by_cases c4 : kd = 4
      · rw [ip_ifF (fun z => z c4), ip_P, if_pos c4]
      · rw [ip_ifT c4, ip_P, if_neg c4]
theorem newB_0 : bup (fun _ => 0) 0 kd = newB kd 0 0 0 := by
  funext u
  show (if u = 0 then kd else 0) = newB kd 0 0 0 u
  unfold newB
  omega
/-- what follows the sizes -/
noncomputable def blE (L : Int) (T : Int → Int) (R : aRun) (kd q n h t : Int) : Int ⊕ (Int × aRun) :=
  if kd = 4 then Sum.inr (q, RB R (newB kd n h t)) else Sum.elim Sum.inl (fun s => Sum.inr (s.1, RB R s.2.1)) (wds L T kd 400 q (newB kd n h t) 0)
def SM (L : Int) (T : Int → Int) (τ0 : iMem) (ts : Int) (R : aRun) (kd : Int) (W : Int ⊕ (Int × aRun)) (r : Int) (τ : iMem) : Prop :=
  (∃ f, W = Sum.inl f ∧ r = 0 ∧ Dm τ0 f τ) ∨ (∃ q n h t, W = blE L T R kd q n h t ∧ r = 1 ∧ Lb L T τ0 ts R q (newB kd n h t) τ ∧ (0 ≤ n ∧ n ≤ 30 ∧ np R + n ≤ 90) ∧ (0 ≤ h ∧ h ≤ 200) ∧ (0 ≤ t ∧ t ≤ 9))
theorem ip_sizes {Q : Int → iMem → Prop} (hW : TaW L T) (hT : TaM L T τ0) (hw : WF R) (n1 : rn R < 16) (hk : 0 ≤ kd ∧ kd ≤ 4) (h90 : kd = 1 ∨ kd = 2 → np R < 90) (h : Lb L T τ0 ts R q (newB kd 0 0 0) τ)
    (hQ : ∀ r τ', SM L T τ0 ts R kd (blT L T R kd q) r τ' → Q r τ') : ip (iz_Model_readsSizes 367 (9 + 16 * rn R) kd) Q τ := by
  have hL := hW.1
  have n0 := hw.1.1
  have hnp := hw.2.2.2
  have hnp0 := np_ge hw
  have hq := h.1.at
  generalize hW0 : blT L T R kd q = W0 at hQ
  -- the height
  have H : ∀ (q n t : Int) (τ1 : iMem), Lb L T τ0 ts R q (newB kd n 0 t) τ1 → W0 = blH L T R kd q n t → (0 ≤ n ∧ n ≤ 30 ∧ np R + n ≤ 90) → (0 ≤ t ∧ t ≤ 9) → ip (iB (iz_Model_readsHigh 367 (9 + 16 * rn R) kd) fun x7 => iB (iZ x7) fun x8 => iP x8) Q τ1 := by
    intro q n t τ1 b1 e1 hn ht
    have hq1 := b1.1.at
    have hh := hiK_in (kd := kd)
    have eH : W0 = if numF L T q 1 (hiK kd) ≠ -1 then Sum.inl (numF L T q 1 (hiK kd)) else blE L T R kd (nx L T q) n (va L T q) t := e1
    rw [ip_B]
    unfold iz_Model_readsHigh
    rw [ip_B, ip_highest, ip_B]
    refine ip_Mnum hW (b1.tape hT) b1.1 (by omega) (fun e τ2 s2 m2 _ f2 => ?_) (fun e τ2 m2 f2 => ?_)
    · have hv := numF_ok e hq1.1.1
      have b2 := b1.go s2 (fun a k z => f2 a k (by omega))
      rw [ip_ifT (by omega), ip_B, ip_Gt, m2, ip_A]
      refine ⟨⟨by omega, by omega⟩, ?_⟩
      rw [ip_B, ip_St, m_50, l_404]
      refine ⟨⟨⟨by omega, by omega⟩, by omega⟩, ?_⟩
      rw [ip_P, ip_B, ip_Z]
      refine ⟨Or.inr rfl, ?_⟩
      rw [ip_P]
      have b3 := b2.set (u := 2) (v := va L T q) (by omega) (by omega) n0
      rw [pw_lo (by omega), newB_2] at b3
      exact hQ 1 _ (Or.inr ⟨_, n, va L T q, t, by rw [eH, if_neg (fun z => z e)], rfl, b3, hn, ⟨by omega, by omega⟩, ht⟩)
    · rw [ip_ifF (by omega), ip_P, ip_B, ip_Z]
      refine ⟨Or.inl rfl, ?_⟩
      rw [ip_P]
      exact hQ 0 τ2 (Or.inl ⟨_, by rw [eH, if_pos e], rfl, Dm_of b1 m2 (fun a k z => f2 a k (by omega))⟩)
  -- how many
  have M : ∀ (q t : Int) (τ1 : iMem) (α : Type) (fail ok : iM α) (Q' : α → iMem → Prop), Lb L T τ0 ts R q (newB kd 1 0 t) τ1 → (kd = 0 ∨ kd = 3) → W0 = blN L T R kd q t → (0 ≤ t ∧ t ≤ 9) →
      (∀ τ2, SM L T τ0 ts R kd W0 0 τ2 → ip fail Q' τ2) → (∀ q n τ2, Lb L T τ0 ts R q (newB kd n 0 t) τ2 → W0 = blH L T R kd q n t → (0 ≤ n ∧ n ≤ 30 ∧ np R + n ≤ 90) → ip ok Q' τ2) → ip (iB (iz_Model_readsMany 367 (9 + 16 * rn R)) fun x3 => if ¬ x3 = 0 then ok else fail) Q' τ1 := by
    intro q t τ1 α fail ok Q' b1 c03 e1 ht hfail hok
    have hq1 := b1.1.at
    have eN : W0 = if numF L T q 1 30 ≠ -1 then Sum.inl (numF L T q 1 30) else if 90 < np R + va L T q then Sum.inl (8 * q + 3) else blH L T R kd (nx L T q) (va L T q) t := by
      rw [e1]
      unfold blN
      rw [if_pos c03]
    rw [ip_B]
    unfold iz_Model_readsMany
    rw [ip_B]
    refine ip_Mnum hW (b1.tape hT) b1.1 (by omega) (fun e τ2 s2 m2 p2 f2 => ?_) (fun e τ2 m2 f2 => ?_)
    · have hv := numF_ok e hq1.1.1
      have b2 := b1.go s2 (fun a k z => f2 a k (by omega))
      rw [if_neg (fun z => z e)] at eN
      rw [ip_ifT (by omega), ip_B, ip_Gt, b2.2.2.2.2.1.1, ip_B, ip_Gt, m2, ip_A]
      refine ⟨⟨by omega, by omega⟩, ?_⟩
      by_cases z : np R + va L T q ≤ 90
      · rw [ip_ifT z, ip_B, ip_Gt, m2, ip_A]
        refine ⟨⟨by omega, by omega⟩, ?_⟩
        rw [ip_B, ip_St, m_50, l_404]
        refine ⟨⟨⟨by omega, by omega⟩, by omega⟩, ?_⟩
        rw [ip_P, ip_ifT (by omega)]
        have b3 := b2.set (u := 1) (v := va L T q) (by omega) (by omega) n0
        rw [pw_lo (by omega), newB_1] at b3
        exact hok _ _ _ b3 (by rw [eN, if_neg (by omega)]) ⟨by omega, by omega, z⟩
      · rw [ip_ifF z, ip_B, ip_Gt, p2, ip_B, ip_fails (by omega) (by omega) hq1.1.1 (by omega), ip_B, ip_Z]
        refine ⟨Or.inl rfl, ?_⟩
        rw [ip_P, ip_ifF (by omega)]
        exact hfail _ (Or.inl ⟨_, by rw [eN, if_pos (by omega)], rfl, Dm_of b2 iu_eq (fun a k z => iu_ne (by omega))⟩)
    · rw [ip_ifF (by omega), ip_P, ip_ifF (by omega)]
      exact hfail τ2 (Or.inl ⟨_, by rw [eN, if_pos e], rfl, Dm_of b1 m2 (fun a k z => f2 a k (by omega))⟩)
  unfold iz_Model_readsSizes
  rw [ip_B]
  refine ip_mono (Q := fun v τ1 => τ1 = τ ∧ v = if kd = 4 then 0 else 1) ?_ (fun v τ1 e => ?_)
  · by_cases c4 : kd = 4
    · rw [ip_ifF (fun z => z c4), ip_P, if_pos c4]; exact ⟨rfl, rfl⟩
    · rw [ip_ifT c4, ip_P, if_neg c4]; exact ⟨rfl, rfl⟩
  · obtain ⟨et, e⟩ := e
    subst et e
    rw [ip_A]
    refine ⟨⟨by omega, by omega⟩, ?_⟩
    rw [ip_B, ip_St, m_50, l_404]
    refine ⟨⟨⟨by omega, by omega⟩, by omega⟩, ?_⟩
    have b1 := h.set (u := 1) (v := if kd = 4 then 0 else 1) (by omega) (by omega) n0
    rw [pw_lo (by omega), newB_1] at b1
    generalize hτ : iu τ1 404 (9 + 16 * rn R + 1) (if kd = 4 then 0 else 1) = τ2 at b1
    have hv : (if kd = 4 then (0 : Int) else 1) = 0 ∧ kd = 4 ∨ (if kd = 4 then (0 : Int) else 1) = 1 ∧ kd ≠ 4 := by
      by_cases z : kd = 4
      · rw [if_pos z]; exact Or.inl ⟨rfl, z⟩
      · rw [if_neg z]; exact Or.inr ⟨rfl, z⟩
    rw [ip_B]
    have eT : kd ≠ 3 → W0 = blN L T R kd q 0 := fun z => by rw [← hW0]; unfold blT; rw [if_neg z]
    by_cases c0 : kd = 0
    · have ev : (if kd = 4 then (0 : Int) else 1) = 1 := by omega
      rw [ev] at b1
      rw [ip_ifF (fun z => z c0)]
      refine M q 0 τ2 _ _ _ _ b1 (Or.inl c0) (eT (by omega)) ⟨by omega, by omega⟩ (fun τ3 hs => ?_) (fun q' n' τ3 b3 e3 hn => ?_)
      · rw [ip_P]
        simp only [Sum.elim_inr, ip_P]
        exact hQ 0 τ3 hs
      · rw [ip_P]
        simp only [Sum.elim_inl]
        rw [ip_B, ip_ifT (by omega), ip_P]
        simp only [Sum.elim_inl]
        exact H q' n' 0 τ3 b3 e3 hn ⟨by omega, by omega⟩
    · rw [ip_ifT c0, ip_P]
      simp only [Sum.elim_inl]
      rw [ip_B]
      by_cases c3 : kd = 3
      · have ev : (if kd = 4 then (0 : Int) else 1) = 1 := by omega
        rw [ev] at b1
        have eT3 : W0 = if numF L T q 0 9 ≠ -1 then Sum.inl (numF L T q 0 9) else blN L T R kd (nx L T q) (va L T q) := by
          rw [← hW0]
          unfold blT
          rw [if_pos c3]
        rw [ip_ifF (fun z => z c3), ip_B]
        unfold iz_Model_readsTop
        rw [ip_B]
        refine ip_Mnum hW (b1.tape hT) b1.1 (by omega) (fun e τ3 s3 m3 p3 f3 => ?_) (fun e τ3 m3 f3 => ?_)
        · have hv := numF_ok e hq.1.1
          have b2 := b1.go s3 (fun a k z => f3 a k (by omega))
          rw [if_neg (fun z => z e)] at eT3
          rw [ip_ifT (by omega), ip_B, ip_Gt, m3, ip_A]
          refine ⟨⟨by omega, by omega⟩, ?_⟩
          rw [ip_B, ip_St, m_50, l_404]
          refine ⟨⟨⟨by omega, by omega⟩, by omega⟩, ?_⟩
          rw [ip_P, ip_ifF (by omega)]
          have b3 := b2.set (u := 3) (v := va L T q) (by omega) (by omega) n0
          rw [pw_lo (by omega), newB_3] at b3
          refine M _ _ _ _ _ _ _ b3 (Or.inr c3) eT3 hv.2 (fun τ4 hs => ?_) (fun q' n' τ4 b4 e4 hn => ?_)
          · rw [ip_P]
            simp only [Sum.elim_inr, ip_P]
            exact hQ 0 τ4 hs
          · rw [ip_P]
            simp only [Sum.elim_inl]
            exact H q' n' _ τ4 b4 e4 hn hv.2
        · rw [ip_ifF (by omega), ip_P, ip_ifT rfl, ip_P]
          simp only [Sum.elim_inr, ip_P]
          exact hQ 0 τ3 (Or.inl ⟨_, by rw [eT3, if_pos e], rfl, Dm_of b1 m3 (fun a k z => f3 a k (by omega))⟩)
      · rw [ip_ifT c3, ip_P]
        simp only [Sum.elim_inl]
        refine H q _ 0 τ2 b1 ?_ ⟨by omega, by omega, by omega⟩ ⟨by omega, by omega⟩
        rw [eT c3]
        unfold blN
        rw [if_neg (by omega)]
theorem ip_MreadsBlock {Q : Int → iMem → Prop} (hW : TaW L T) (hT : TaM L T τ0) (hw : WF R) (hk : 0 ≤ kd ∧ kd ≤ 4) (hwd : wd L T q = 8 + kd) (h : Lm L T τ0 q ts R τ) (hs : τ 367 46 = q)
    (hQ : ∀ r τ', QM L T τ0 ts (if 16 ≤ rn R ∨ ((kd = 1 ∨ kd = 2) ∧ 90 ≤ np R) then Sum.inl (8 * q + 3) else blT L T R kd (nx L T q)) r τ' → Q r τ') : ip (iz_Model_readsBlock 367 kd) Q τ := by
  have hL := hW.1
  have n0 := hw.1.1
  have n16 := hw.1.2
  have hnp := hw.2.2.2
  have hq := h.1.at
  have he := wd_ee (L := L) (T := T) (q := q) (k := 8 + kd) (by omega) (by omega) hwd
  have hln := kw_at (k := 8 + kd) (by omega) (by omega)
  unfold iz_Model_readsBlock
  have e8 : τ 404 8 = rn R := h.2.1.1
  rw [ip_B, ip_Ld, m_50, l_404, e8]
  refine ⟨⟨by omega, by omega⟩, ?_⟩
  rw [ip_B]
  have full : (16 ≤ rn R ∨ ((kd = 1 ∨ kd = 2) ∧ 90 ≤ np R)) → ip (iB (iGt 367 46) fun x16 => iB (iz_Model_fails 367 3 x16) fun x17 => iB (iZ x17) fun x18 => iP x18) Q τ := by
    intro z
    rw [if_pos z] at hQ
    rw [ip_B, ip_Gt, hs, ip_B, ip_fails (by omega) (by omega) hq.1.1 (by omega), ip_B, ip_Z]
    refine ⟨Or.inl rfl, ?_⟩
    rw [ip_P]
    exact hQ 0 _ (Or.inl ⟨_, rfl, rfl, Dm_m h iu_eq (fun a k z => iu_ne (by omega))⟩)
  by_cases c16 : rn R = 16
  · rw [ip_ifT c16, ip_P]
    simp only [Sum.elim_inl]
    exact full (Or.inl (by omega))
  · rw [ip_ifF c16, ip_B]
    refine ip_mono (Q := fun v τ1 => τ1 = τ ∧ ((v = Sum.inl () ∧ ¬ ((kd = 1 ∨ kd = 2) ∧ 90 ≤ np R)) ∨ (v = Sum.inr (Sum.inl ()) ∧ (kd = 1 ∨ kd = 2) ∧ 90 ≤ np R))) ?_ (fun v τ1 e => ?_)
    · rw [ip_B]
      by_cases c12 : kd = 1 ∨ kd = 2
      · have test : ∀ {Q : (Unit ⊕ (Unit ⊕ (Unit ⊕ Int))) → iMem → Prop}, Q (Sum.inl ()) τ → ip (if kd = 1 then iP (Sum.inl ()) else if ¬ kd = 2 then iP (Sum.inr (Sum.inl ())) else iP (Sum.inl ())) Q τ := by
          intro Q hq
          by_cases z : kd = 1
          · rw [ip_ifT z, ip_P]; exact hq
          · rw [ip_ifF z, ip_ifF (by omega), ip_P]; exact hq
        refine test ?_
        simp only [Sum.elim_inl]
        rw [ip_B, ip_Gt, h.2.2.2.1.1]
        by_cases z : np R = 90
        · rw [ip_ifF (fun y => y z), ip_P]
          exact ⟨rfl, Or.inr ⟨rfl, c12, by omega⟩⟩
        · rw [ip_ifT z, ip_P]
          exact ⟨rfl, Or.inl ⟨rfl, fun y => by omega⟩⟩
      · rw [ip_ifF (by omega), ip_ifT (by omega), ip_P]
        simp only [Sum.elim_inr, ip_P]
        exact ⟨trivial, Or.inl ⟨trivial, fun y => c12 y.1⟩⟩
    · obtain ⟨et, e⟩ := e
      subst et
      rcases e with ⟨e1, e2⟩ | ⟨e1, e2⟩
      · rw [if_neg (by omega)] at hQ
        have n1 : rn R < 16 := by omega
        rw [e1, Sum.elim_inl, ip_A]
        refine ⟨⟨by omega, by omega⟩, ?_⟩
        rw [ip_A]
        refine ⟨⟨by omega, by omega⟩, ?_⟩
        rw [ip_B, ip_P, ip_B, ip_Gt, hs, ip_B, ip_kindW hk.1 hk.2, ip_B, ip_ln, ip_A]
        refine ⟨⟨by omega, by omega⟩, ?_⟩
        rw [ip_B, ip_Pt, ip_A]
        refine ⟨⟨by omega, by omega⟩, ?_⟩
        rw [ip_B, ip_St, l_404]
        refine ⟨⟨⟨by omega, by omega⟩, by omega⟩, ?_⟩
        have b1 : Lb L T τ0 ts R (nx L T q) (fun _ => 0) (iu τ1 367 46 (q + (qs_ln (kwA (8 + kd)) : Int))) := (h.b n0 n1).go (Sp_ee hq.1.1 he.2.2 (by rw [iu_eq]; exact he.1)) (fun a k z => iu_ne (by omega))
        have b2 := b1.set (u := 0) (v := kd) (by omega) (by omega) n0
        rw [pw_lo (by omega), newB_0] at b2
        generalize hτ : iu (iu τ1 367 46 (q + (qs_ln (kwA (8 + kd)) : Int))) 404 (9 + 16 * rn R + 0) kd = τ2 at b2
        rw [ip_B]
        refine ip_sizes hW hT hw n1 hk (by omega) b2 (fun r τ3 hsz => ?_)
        generalize hW0 : blT L T R kd (nx L T q) = W0 at hQ hsz
        rcases hsz with ⟨f, s1, s2, s3⟩ | ⟨q', n', h', t', s1, s2, b3, hn, hh, ht⟩
        · rw [ip_ifF (by omega), ip_P]
          simp only [Sum.elim_inr, ip_P]
          exact hQ 0 τ3 (Or.inl ⟨f, s1, rfl, s3⟩)
        · rw [ip_ifT (by omega), ip_B]
          -- it is one of the RUN then
          have close : ∀ (q'' : Int) (B : Int → Int) (τ4 : iMem), Lb L T τ0 ts R q'' B τ4 → B 1 = n' → W0 = Sum.inr (q'', RB R B) → ip (iB (iGt 367 51) fun x13 => iA (9 + 16 * rn R + 1) fun y5 => iB (iLd 404 y5) fun x14 => iA (x13 + x14) fun y6 => iB (iPt 367 51 y6) fun _ => iB (iLd 404 8) fun x15 => iA (x15 + 1) fun y7 => iB (iSt 404 8 y7) fun _ => iP (Sum.inr 1 : Unit ⊕ Int)) (fun a τ' => ip (Sum.elim (fun s2 => iB (iGt 367 46) fun x16 => iB (iz_Model_fails 367 3 x16) fun x17 => iB (iZ x17) fun x18 => iP x18) iP a) Q τ') τ4 := by
            intro q'' B τ4 b4 eB1 eW
            have c1 : τ4 404 (9 + 16 * rn R + 1) = n' := by
              have := b4.2.2.1 1 (by omega) (by omega)
              rw [pw_lo (by omega)] at this
              omega
            rw [ip_B, ip_Gt, b4.2.2.2.2.1.1, ip_A]
            refine ⟨⟨by omega, by omega⟩, ?_⟩
            rw [ip_B, ip_Ld, l_404, c1]
            refine ⟨⟨by omega, by omega⟩, ?_⟩
            have hnp0 := np_ge hw
            rw [ip_A]
            refine ⟨⟨by omega, by omega⟩, ?_⟩
            rw [ip_B, ip_Pt, ip_B, ip_Ld, l_404, iu_ne (Or.inl (by omega)), show τ4 404 8 = rn R from b4.2.1.1]
            refine ⟨⟨by omega, by omega⟩, ?_⟩
            rw [ip_A]
            refine ⟨⟨by omega, by omega⟩, ?_⟩
            rw [ip_B, ip_St, l_404]
            refine ⟨⟨⟨by omega, by omega⟩, by omega⟩, ?_⟩
            rw [ip_P]
            simp only [Sum.elim_inr, ip_P]
            refine hQ 1 _ (Or.inr ⟨q'', RB R B, eW, rfl, b4.done n0 iu_eq ?_ (fun a k z => by rw [iu_ne (by omega), iu_ne (by omega)])⟩)
            rw [iu_ne (Or.inl (by omega)), iu_eq, eB1]
          by_cases c4 : kd = 4
          · rw [ip_ifT c4, ip_P]
            simp only [Sum.elim_inl]
            refine close q' _ τ3 b3 rfl ?_
            rw [s1]
            unfold blE
            rw [if_pos c4]
          · rw [ip_ifF c4, ip_B]
            have ok := okB_new (kd := kd) (n := n') hh.1 hh.2 ht.1 ht.2
            have eE : W0 = Sum.elim Sum.inl (fun s => Sum.inr (s.1, RB R s.2.1)) (wds L T kd 400 q' (newB kd n' h' t') 0) := by
              rw [s1]
              unfold blE
              rw [if_neg c4]
            have hq' := b3.1.at
            refine ip_Mwords hW hT hw n1 ok hn.2.1 ⟨rfl, rfl⟩ b3 (fun r' τ4 ho => ?_)
            rcases ho with ⟨f, o1, o2, o3⟩ | ⟨q'', B, sp, o1, o2, o3⟩
            · rw [ip_ifF (by omega), ip_P]
              simp only [Sum.elim_inr, ip_P]
              exact hQ 0 τ4 (Or.inl ⟨f, by rw [eE, o1]; rfl, rfl, o3⟩)
            · have k := wds_ok (kd := kd) (n := n') 400 _ _ _ ok hq'.1.1 hq'.1.2 (by omega) _ o1
              rw [ip_ifT (by omega), ip_P]
              simp only [Sum.elim_inl]
              exact close q'' B τ4 o3.1 k.2.1.1.2 (by rw [eE, o1]; rfl)
      · rw [e1, Sum.elim_inr, ip_P]
        simp only [Sum.elim_inl]
        exact full (Or.inr e2)
end
