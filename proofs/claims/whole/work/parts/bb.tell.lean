/-! ===== the other one reads: SETTINGS, all ===== -/
section
variable {L : Int} {T : Int → Int} {τ0 τ τ' : iMem} {q ts kd n sp : Int} {R : aRun} {B : Int → Int}
theorem RS_rm4 {j x : Int} {a : Nat} (h : RunM τ a 0 R) (j0 : 0 ≤ j) (j1 : j < 8) : RunM (iu τ a j x) a 0 (RS R j x) := by
  refine ⟨?_, fun k k0 k1 => ?_, fun b w b0 b1 w0 w1 => ?_⟩
  · rw [iu_ne (Or.inr (by omega))]; exact h.1
  · show _ = if k = j then x else rs R k
    by_cases c : k = j
    · rw [if_pos c, c, Int.zero_add, iu_eq]
    · rw [if_neg c, iu_ne (Or.inr (by omega))]; exact h.2.1 k k0 k1
  · have hp : 0 ≤ pw w := by unfold pw; split <;> omega
    rw [iu_ne (Or.inr (by omega))]; exact h.2.2 b w b0 b1 w0 w1
theorem ip_MreadsSetting {k : Int} {Q : Int → iMem → Prop} (hW : TaW L T) (hT : TaM L T τ0) (hw : WF R) (k0 : 0 ≤ k) (k1 : k < 8) (hwd : wd L T q = k) (ht0 : 0 ≤ ts) (ht1 : ts < 256) (h : Lm L T τ0 q ts R τ) (hs : τ 367 46 = q)
    (hQ : ∀ r τ', PM L T τ0 (if bt ts k = true then Sum.inl (8 * q + 3) else if numF L T (nx L T q) (lwV k) (hiV k) ≠ -1 then Sum.inl (numF L T (nx L T q) (lwV k) (hiV k)) else Sum.inr (nx L T (nx L T q), RS R k (va L T (nx L T q)), ibOr ts (ibShl 1 (ibAnd k 31)))) r τ' → Q r τ') : ip (iz_Model_readsSetting 367 k) Q τ := by
  have hL := hW.1
  have hn0 := hw.1
  have hq := h.1.at
  have he := wd_ee (L := L) (T := T) (q := q) (k := k) (by omega) (by omega) hwd
  have hln := kw_at (k := k) (by omega) (by omega)
  unfold iz_Model_readsSetting
  rw [ip_B, ip_Gt, h.2.2.2.1.2, ib_test ht0 (by omega) k0 (by omega)]
  by_cases c : bt ts k = true
  · rw [if_pos c] at hQ
    rw [if_pos c, ip_ifF (by omega), ip_B, ip_Gt, hs, ip_B, ip_fails (by omega) (by omega) hq.1.1 (by omega), ip_B, ip_Z]
    refine ⟨Or.inl rfl, ?_⟩
    rw [ip_P]
    exact hQ 0 _ (Or.inl ⟨_, rfl, rfl, Dm_m h iu_eq (fun a k z => iu_ne (by omega))⟩)
  · rw [if_neg c] at hQ
    rw [if_neg c, ip_ifT (by omega), ip_B, ip_Gt, h.2.2.2.1.2, ip_B, ip_Pt, ip_B, ip_Gt, iu_ne (Or.inr (by omega)), hs, ip_B, ip_setW k0 k1, ip_B, ip_ln, ip_A]
    refine ⟨⟨by omega, by omega⟩, ?_⟩
    rw [ip_B, ip_Pt, ip_B, ip_lowOf, ip_B, ip_highOf, ip_B]
    generalize hτ : iu (iu τ 367 52 (ibOr ts (ibShl 1 (ibAnd k 31)))) 367 46 (q + (qs_ln (kwA k) : Int)) = τ1
    have h1 : Lm L T τ0 (nx L T q) (ibOr ts (ibShl 1 (ibAnd k 31))) R τ1 := by
      rw [← hτ]
      refine ⟨Sp_ee hq.1.1 he.2.2 (by rw [iu_eq]; exact he.1), h.2.1.frame (fun k => by rw [iu_ne (Or.inl (by omega)), iu_ne (Or.inl (by omega))]), fun j j0 j1 => by rw [iu_ne (Or.inl (by omega)), iu_ne (Or.inl (by omega))]; exact h.2.2.1 j j0 j1, ⟨?_, ?_⟩, fun a k z => by rw [iu_ne (by omega), iu_ne (by omega)]; exact h.2.2.2.2 a k z⟩
      · rw [iu_ne (Or.inr (by omega)), iu_ne (Or.inr (by omega))]; exact h.2.2.2.1.1
      · rw [iu_ne (Or.inr (by omega)), iu_eq]
    have hhi : hiV k ≤ 400 := by unfold hiV; omega
    refine ip_Mnum hW (h1.tape hT) h1.1 hhi (fun e τ2 s2 m2 _ f2 => ?_) (fun e τ2 m2 f2 => ?_)
    · rw [if_neg (fun z => z e)] at hQ
      have h2 : Lm L T τ0 (nx L T (nx L T q)) (ibOr ts (ibShl 1 (ibAnd k 31))) R τ2 := h1.go s2 (fun a k z => f2 a k (by omega))
      rw [ip_ifT (by omega), ip_B, ip_Gt, m2, ip_B, ip_St, m_50, l_404]
      refine ⟨⟨⟨by omega, by omega⟩, by omega⟩, ?_⟩
      rw [ip_P]
      obtain ⟨⟨p, p1, p2, p3⟩, g2, g3, g4, g5⟩ := h2
      have en : rn (RS R k (va L T (nx L T q))) = rn R := rfl
      have ep : np (RS R k (va L T (nx L T q))) = np R := rfl
      refine hQ 1 _ (Or.inr ⟨_, _, _, rfl, rfl, ⟨⟨p, (iu_ne (Or.inl (by omega))).trans p1, p2, p3⟩, RS_rm4 g2 k0 k1, fun j j0 j1 => ?_, ⟨?_, ?_⟩, fun a k z => (iu_ne (by omega)).trans (g5 a k z)⟩⟩)
      · rw [en] at j0
        rw [iu_ne (Or.inr (by omega))]; exact g3 j j0 j1
      · rw [iu_ne (Or.inl (by omega)), ep]; exact g4.1
      · rw [iu_ne (Or.inl (by omega))]; exact g4.2
    · rw [if_pos e] at hQ
      rw [ip_ifF (by omega), ip_P]
      exact hQ 0 τ2 (Or.inl ⟨_, rfl, rfl, Dm_m h1 m2 (fun a k z => f2 a k (by omega))⟩)
theorem PM_01 {W : Int ⊕ (Int × aRun × Int)} {r : Int} (h : PM L T τ0 W r τ) : r = 0 ∨ r = 1 := by
  rcases h with ⟨f, h1, h2, h3⟩ | ⟨q, R, ts, h1, h2, h3⟩
  · exact Or.inl h2
  · exact Or.inr h2
theorem ip_MreadsPart {Q : Int → iMem → Prop} (hW : TaW L T) (hT : TaM L T τ0) (hw : WF R) (ht0 : 0 ≤ ts) (ht1 : ts < 256) (h : Lm L T τ0 q ts R τ)
    (hQ : ∀ r τ', PM L T τ0 (prt L T q R ts) r τ' → Q r τ') : ip (iz_Model_readsPart 367) Q τ := by
  have hL := hW.1
  have hq := h.1.at
  have hwd := wd_in (L := L) (T := T) (q := q)
  have wsn : wd L T q ≠ -1 → sn L T q = 0 := fun z => by
    have := wd_ee (L := L) (T := T) (q := q) (k := wd L T q) (by omega) (by omega) rfl
    rw [sn_of this.2.2]; exact this.2.1
  have isw : ∀ {Q : Int → iMem → Prop} {τ3 : iMem} (k : Int), 0 ≤ k → k < 17 → Lm L T τ0 q ts R τ3 → (∀ τ4, Lm L T τ0 q ts R τ4 → τ4 367 46 = q → Q (if wd L T q = k then 1 else 0) τ4) → ip (iz_Model_isWord 367 (kwA k)) Q τ3 := by
    intro Q τ3 k k0 k1 x1 x3
    refine ip_MisWord hW (x1.tape hT) x1.1 k0 k1 (fun τ4 y1 y2 => ?_)
    exact x3 τ4 (x1.go (Sp_of y1 hq.1.1 hq.1.2 hq.2) (fun a k z => y2 a k (by omega))) y1
  unfold iz_Model_readsPart
  rw [ip_B]
  refine ip_mono (Q := fun v τ1 => (v = Sum.inl () ∧ (∀ k, 0 ≤ k → k < 8 → wd L T q ≠ k) ∧ Lm L T τ0 q ts R τ1) ∨ ∃ r, v = Sum.inr r ∧ PM L T τ0 (prt L T q R ts) r τ1) ?_ (fun v τ1 g => ?_)
  · refine ip_W (fun s τ1 => (0 ≤ s ∧ s ≤ 8) ∧ (∀ k, 0 ≤ k → k < s → wd L T q ≠ k) ∧ Lm L T τ0 q ts R τ1) (fun s _ => (8 - s).toNat) ?_ ⟨⟨Int.le_refl _, by omega⟩, fun k k0 k1 => by omega, h⟩
    intro s τ1 ⟨b1, b2, b3⟩
    by_cases c : 8 ≤ s
    · rw [ip_ifT c, ip_P]
      simp only [Sum.elim_inr]
      exact Or.inl ⟨trivial, fun k k0 k1 => b2 k k0 (by omega), b3⟩
    · rw [ip_ifF c, ip_B, ip_setW b1.1 (by omega), ip_B]
      refine isw s b1.1 (by omega) b3 (fun τ2 g1 g2 => ?_)
      by_cases d : wd L T q = s
      · rw [if_pos d, ip_ifF (by omega), ip_B]
        refine ip_MreadsSetting hW hT hw b1.1 (by omega) d ht0 ht1 g1 g2 (fun r τ3 hp => ?_)
        have e : prt L T q R ts = if bt ts s = true then Sum.inl (8 * q + 3) else if numF L T (nx L T q) (lwV s) (hiV s) ≠ -1 then Sum.inl (numF L T (nx L T q) (lwV s) (hiV s)) else Sum.inr (nx L T (nx L T q), RS R s (va L T (nx L T q)), ibOr ts (ibShl 1 (ibAnd s 31))) := by
          have := wsn (by omega)
          unfold prt
          rw [if_neg (by omega), if_pos (by omega), d]
        rw [← e] at hp
        rw [ip_B, ip_Z]
        refine ⟨PM_01 hp, ?_⟩
        rw [ip_P]
        exact Or.inr ⟨r, rfl, hp⟩
      · rw [if_neg d, ip_ifT rfl, ip_A]
        refine ⟨⟨by omega, by omega⟩, ?_⟩
        rw [ip_B, ip_P, ip_P]
        simp only [Sum.elim_inl]
        refine ⟨⟨⟨by omega, by omega⟩, fun k k0 k1 => ?_, g1⟩, by omega⟩
        by_cases z : k = s
        · rw [z]; exact d
        · exact b2 k k0 (by omega)
  · rcases g with ⟨g1, g2, g3⟩ | ⟨r, g1, g2⟩
    · rw [g1, Sum.elim_inl, ip_B]
      refine ip_mono (Q := fun v τ2 => (v = Sum.inl () ∧ (∀ k, 8 ≤ k → k < 13 → wd L T q ≠ k) ∧ Lm L T τ0 q ts R τ2 ∧ τ2 367 46 = q) ∨ ∃ r, v = Sum.inr r ∧ PM L T τ0 (prt L T q R ts) r τ2) ?_ (fun v τ2 g => ?_)
      · refine ip_W (fun s τ2 => (0 ≤ s ∧ s ≤ 5) ∧ (∀ k, 8 ≤ k → k < 8 + s → wd L T q ≠ k) ∧ Lm L T τ0 q ts R τ2 ∧ (0 < s → τ2 367 46 = q)) (fun s _ => (5 - s).toNat) ?_ ⟨⟨Int.le_refl _, by omega⟩, fun k k0 k1 => by omega, g3, fun z => by omega⟩
        intro s τ2 ⟨b1, b2, b3, b4⟩
        by_cases c : 4 < s
        · rw [ip_ifT c, ip_P]
          simp only [Sum.elim_inr]
          exact Or.inl ⟨trivial, fun k k0 k1 => b2 k k0 (by omega), b3, b4 (by omega)⟩
        · rw [ip_ifF c, ip_B, ip_kindW b1.1 (by omega), ip_B]
          refine isw (8 + s) (by omega) (by omega) b3 (fun τ3 x1 x2 => ?_)
          by_cases d : wd L T q = 8 + s
          · rw [if_pos d, ip_ifF (by omega), ip_B]
            refine ip_MreadsBlock hW hT hw ⟨b1.1, by omega⟩ d x1 x2 (fun r τ4 hp => ?_)
            have hs0 := wsn (by omega)
            have hp' : PM L T τ0 (prt L T q R ts) r τ4 := by
              have e : prt L T q R ts = if 16 ≤ rn R ∨ ((wd L T q = 9 ∨ wd L T q = 10) ∧ 90 ≤ np R) then Sum.inl (8 * q + 3) else Sum.elim Sum.inl (fun s => Sum.inr (s.1, s.2, ts)) (blT L T R (wd L T q - 8) (nx L T q)) := by
                unfold prt
                rw [if_neg (by omega), if_neg (by omega)]
              rw [e]
              by_cases y : 16 ≤ rn R ∨ ((wd L T q = 9 ∨ wd L T q = 10) ∧ 90 ≤ np R)
              · rw [if_pos y]
                rw [if_pos (by omega)] at hp
                rcases hp with ⟨f, p1, p2, p3⟩ | ⟨q', R', p1, p2, p3⟩
                · cases p1; exact Or.inl ⟨_, rfl, p2, p3⟩
                · cases p1
              · rw [if_neg y, show wd L T q - 8 = s by omega]
                rw [if_neg (by omega)] at hp
                rcases hp with ⟨f, p1, p2, p3⟩ | ⟨q', R', p1, p2, p3⟩
                · exact Or.inl ⟨f, by rw [p1]; rfl, p2, p3⟩
                · exact Or.inr ⟨q', R', ts, by rw [p1]; rfl, p2, p3⟩
            rw [ip_B, ip_Z]
            refine ⟨PM_01 hp', ?_⟩
            rw [ip_P]
            exact Or.inr ⟨r, rfl, hp'⟩
          · rw [if_neg d, ip_ifT rfl, ip_A]
            refine ⟨⟨by omega, by omega⟩, ?_⟩
            rw [ip_B, ip_P, ip_P]
            simp only [Sum.elim_inl]
            refine ⟨⟨⟨by omega, by omega⟩, fun k k0 k1 => ?_, x1, fun _ => x2⟩, by omega⟩
            by_cases z : k = 8 + s
            · rw [z]; exact d
            · exact b2 k k0 (by omega)
      · rcases g with ⟨x1, x2, x3, x4⟩ | ⟨r, x1, x2⟩
        · rw [x1, Sum.elim_inl, ip_B, ip_Gt, x4, ip_B, ip_fails (by omega) (by omega) hq.1.1 (by omega), ip_B, ip_Z]
          refine ⟨Or.inl rfl, ?_⟩
          rw [ip_P]
          refine hQ 0 _ (Or.inl ⟨8 * q + 1, ?_, rfl, Dm_m x3 iu_eq (fun a k z => iu_ne (by omega))⟩)
          unfold prt
          rw [if_pos]
          by_cases z : wd L T q = -1
          · exact Or.inr (Or.inl z)
          · refine Or.inr (Or.inr ?_)
            by_cases y : wd L T q < 8
            · exact absurd rfl (g2 (wd L T q) (by omega) y)
            · by_cases x : wd L T q < 13
              · exact absurd rfl (x2 (wd L T q) (by omega) x)
              · omega
        · rw [x1, Sum.elim_inr, ip_P]; exact hQ r τ2 x2
    · rw [g1, Sum.elim_inr, ip_P]; exact hQ r τ1 g2
theorem ip_Mbegins {Q : Unit → iMem → Prop} (hQ : ∀ τ', RunM τ' 404 0 R00 → (∀ k, 9 ≤ k → k < 265 → τ' 404 k = 0) → (∀ a k, a ≠ 404 → τ' a k = τ a k) → Q () τ') : ip (iz_Model_begins 404) Q τ := by
  unfold iz_Model_begins
  rw [ip_B]
  refine ip_mono (Q := fun _ τ1 => (∀ k, 0 ≤ k → k < 265 → τ1 404 k = 0) ∧ (∀ a k, a ≠ 404 → τ1 a k = τ a k)) ?_ (fun _ τ1 g => ?_)
  · refine ip_W (fun s τ1 => (0 ≤ s ∧ s ≤ 265) ∧ (∀ k, 0 ≤ k → k < s → τ1 404 k = 0) ∧ (∀ a k, a ≠ 404 → τ1 a k = τ a k)) (fun s _ => (265 - s).toNat) ?_ ⟨⟨Int.le_refl _, by omega⟩, fun k k0 k1 => by omega, fun _ _ _ => rfl⟩
    intro s τ1 ⟨b1, b2, b3⟩
    by_cases c : 265 ≤ s
    · rw [ip_ifT c, ip_P]
      simp only [Sum.elim_inr]
      exact ⟨fun k k0 k1 => b2 k k0 (by omega), b3⟩
    · rw [ip_ifF c, ip_B, ip_St, l_404]
      refine ⟨⟨⟨by omega, by omega⟩, by omega⟩, ?_⟩
      rw [ip_A]
      refine ⟨⟨by omega, by omega⟩, ?_⟩
      rw [ip_B, ip_P, ip_P]
      simp only [Sum.elim_inl]
      refine ⟨⟨⟨by omega, by omega⟩, fun k k0 k1 => ?_, fun a k z => ?_⟩, by omega⟩
      · by_cases z : k = s
        · rw [z, iu_eq]
        · rw [iu_ne (Or.inr z)]; exact b2 k k0 (by omega)
      · rw [iu_ne (Or.inl z)]; exact b3 a k z
  · have st : ∀ {Q : Unit → iMem → Prop} {k v : Int} {τ : iMem}, 0 ≤ k → k < 265 → (ip (iSt 404 k v) Q τ ↔ Q () (iu τ 404 k v)) := fun k0 k1 => by
      rw [ip_St, l_404]
      exact and_iff_right ⟨⟨k0, k1⟩, by omega⟩
    rw [ip_B, st (by omega) (by omega), ip_B, st (by omega) (by omega), ip_B, st (by omega) (by omega), ip_B, st (by omega) (by omega), ip_B, st (by omega) (by omega), ip_B, st (by omega) (by omega), ip_B, st (by omega) (by omega), ip_P]
    refine hQ _ ⟨?_, fun k k0 k1 => ?_, fun b w b0 b1 _ _ => ?_⟩ (fun k k0 k1 => ?_) (fun a k z => ?_)
    · simp (disch := omega) only [iu_ne]
      exact g.1 8 (by omega) (by omega)
    · rw [Int.zero_add]
      show _ = fiV k
      have hk : k = 0 ∨ k = 1 ∨ k = 2 ∨ k = 3 ∨ k = 4 ∨ k = 5 ∨ k = 6 ∨ k = 7 := by omega
      rcases hk with rfl | rfl | rfl | rfl | rfl | rfl | rfl | rfl
      · simp (disch := omega) only [iu_ne, iu_eq]; rfl
      · simp (disch := omega) only [iu_ne, iu_eq]; rfl
      · simp (disch := omega) only [iu_ne, iu_eq]; rfl
      · simp (disch := omega) only [iu_ne, iu_eq]; rfl
      · simp (disch := omega) only [iu_ne, iu_eq]; rfl
      · simp (disch := omega) only [iu_ne, iu_eq]; rfl
      · simp (disch := omega) only [iu_ne, iu_eq]; rfl
      · simp (disch := omega) only [iu_ne]
        exact g.1 7 (by omega) (by omega)
    · have : rn R00 = 0 := rfl
      omega
    · rw [iu_ne (Or.inr (by omega)), iu_ne (Or.inr (by omega)), iu_ne (Or.inr (by omega)), iu_ne (Or.inr (by omega)), iu_ne (Or.inr (by omega)), iu_ne (Or.inr (by omega)), iu_ne (Or.inr (by omega))]
      exact g.1 k (by omega) k1
    · rw [iu_ne (Or.inl z), iu_ne (Or.inl z), iu_ne (Or.inl z), iu_ne (Or.inl z), iu_ne (Or.inl z), iu_ne (Or.inl z), iu_ne (Or.inl z)]
      exact g.2 a k z
/-- what follows a part -/
noncomputable def con (L : Int) (T : Int → Int) (m : Nat) (q : Int) (R : aRun) (ts : Int) : Int ⊕ aRun :=
  if sn L T q = 4 then Sum.inr R else if sn L T q = 2 then prs L T m (nx L T q) R ts else Sum.inl (8 * q + 1)
theorem ip_readsAll {Q : Int → iMem → Prop} (hW : TaW L T) (hT : TaM L T τ) (hQ : ∀ r τ', ((∃ f, prA L T = Sum.inl f ∧ r = 0 ∧ Dm τ f τ') ∨ ∃ R', prA L T = Sum.inr R' ∧ r = 1 ∧ RunM τ' 404 0 R' ∧ fr4 τ τ') → Q r τ') : ip (iz_Model_readsAll 367) Q τ := by
  have hL := hW.1
  have hs0 := sk_in (T := T) hL.1
  generalize hW0 : prA L T = W0 at hQ
  unfold iz_Model_readsAll
  rw [m_50, ip_B]
  refine ip_Mbegins (fun τ1 w1 w2 w3 => ?_)
  rw [ip_B, ip_Pt, ip_B, ip_Pt, ip_B, ip_Pt, ip_B]
  generalize hτ : iu (iu (iu τ1 367 46 0) 367 51 0) 367 52 0 = τ2
  have h2 : Lm L T τ (sk L T 0) 0 R00 τ2 := by
    rw [← hτ]
    refine ⟨⟨0, by rw [iu_ne (Or.inr (by omega)), iu_ne (Or.inr (by omega)), iu_eq], ⟨Int.le_refl _, hL.1⟩, rfl⟩, w1.frame (fun k => by rw [iu_ne (Or.inl (by omega)), iu_ne (Or.inl (by omega)), iu_ne (Or.inl (by omega))]), fun k k0 k1 => ?_, ⟨?_, iu_eq⟩, fun a k z => by rw [iu_ne (by omega), iu_ne (by omega), iu_ne (by omega)]; exact w3 a k (by omega)⟩
    · rw [iu_ne (Or.inl (by omega)), iu_ne (Or.inl (by omega)), iu_ne (Or.inl (by omega))]
      have : rn R00 = 0 := rfl
      exact w2 k (by omega) k1
    · rw [iu_ne (Or.inr (by omega)), iu_eq]; rfl
  -- to the next byte
  have nb : ∀ {Q : Int → iMem → Prop} {τ3 : iMem} {q ts : Int} {R : aRun}, Lm L T τ q ts R τ3 → (∀ τ4, Lm L T τ q ts R τ4 → τ4 367 46 = q → Q (if q < L then T q else -1) τ4) → ip (iz_Model_nextByte 367) Q τ3 := by
    intro Q τ3 q ts R x1 x2
    have hq := x1.1.at
    refine ip_nextByte hW (x1.tape hT) x1.1 (fun τ4 y1 y2 y3 => ?_)
    exact x2 τ4 (x1.go (Sp_of y1 hq.1.1 hq.1.2 hq.2) (fun a k z => y2 a k (by omega))) y1
  have b4 : ∀ q, 0 ≤ q → ((if q < L then T q else -1) = -1 ↔ sn L T q = 4) := fun q q0 => by
    unfold sn
    by_cases z : q < L
    · have := hW.2 q q0 z
      have := sg_in (T q)
      rw [if_pos z, if_pos z]; omega
    · rw [if_neg z, if_neg z]; omega
  have b2 : ∀ q, 0 ≤ q → ((if q < L then T q else -1) = 59 ↔ sn L T q = 2) := fun q q0 => by
    unfold sn
    by_cases z : q < L
    · rw [if_pos z, if_pos z, sg_2]
    · rw [if_neg z, if_neg z]; omega
  refine nb h2 (fun τ3 h3 s3 => ?_)
  by_cases c4 : sn L T (sk L T 0) = 4
  · rw [ip_ifF (fun z => z ((b4 _ hs0.1.1).mpr c4)), ip_P]
    refine hQ 1 τ3 (Or.inr ⟨R00, ?_, rfl, h3.2.1, h3.2.2.2.2⟩)
    rw [← hW0]
    unfold prA
    rw [if_pos c4]
  · have eA : W0 = Sum.elim Sum.inl (fun s => con L T 400 s.1 s.2.1 s.2.2) (prt L T (sk L T 0) R00 0) := by
      rw [← hW0]
      unfold prA
      rw [if_neg c4]
      rfl
    rw [ip_ifT (fun z => c4 ((b4 _ hs0.1.1).mp z)), ip_B]
    refine ip_MreadsPart hW hT R00_wf (Int.le_refl _) (by omega) h3 (fun r τ4 hp => ?_)
    -- what a part says
    have part : ∀ (m : Nat) (q ts : Int) (R : aRun) (r : Int) (τ5 : iMem), WF R → 0 ≤ ts → ts < 256 → 0 ≤ q → L - q ≤ m → W0 = Sum.elim Sum.inl (fun s => con L T m s.1 s.2.1 s.2.2) (prt L T q R ts) → PM L T τ (prt L T q R ts) r τ5 →
        (r = 0 ∧ ∃ f, W0 = Sum.inl f ∧ Dm τ f τ5) ∨ (r = 1 ∧ ∃ q R ts, con L T m q R ts = W0 ∧ L - q ≤ m ∧ WF R ∧ 0 ≤ ts ∧ ts < 256 ∧ Lm L T τ q ts R τ5) := by
      intro m q ts R r τ5 hw t0 t1 q0 hm e hp
      rcases hp with ⟨f, p1, p2, p3⟩ | ⟨q', R', ts', p1, p2, p3⟩
      · exact Or.inl ⟨p2, f, by rw [e, p1]; rfl, p3⟩
      · have ok := prt_ok hw t0 t1 q0 hL.2 p1
        rw [p1, Sum.elim_inr] at e
        dsimp only at e ok
        exact Or.inr ⟨p2, q', R', ts', e.symm, by omega, ok.2.1, ok.2.2.1, ok.2.2.2, p3⟩
    have start := part 400 (sk L T 0) 0 R00 r τ4 R00_wf (Int.le_refl _) (by omega) hs0.1.1 (by omega) eA hp
    rw [ip_B]
    refine ip_mono (Q := fun v τ5 => (v = 0 ∧ ∃ f, W0 = Sum.inl f ∧ Dm τ f τ5) ∨ (v = 1 ∧ ∃ q R ts, W0 = (if sn L T q = 4 then Sum.inr R else Sum.inl (8 * q + 1)) ∧ Lm L T τ q ts R τ5)) ?_ (fun v τ5 g => ?_)
    · refine ip_Wg (fun m s τ5 => (s = 0 ∧ ∃ f, W0 = Sum.inl f ∧ Dm τ f τ5) ∨ (s = 1 ∧ ∃ q R ts, con L T m q R ts = W0 ∧ L - q ≤ m ∧ WF R ∧ 0 ≤ ts ∧ ts < 256 ∧ Lm L T τ q ts R τ5)) ?_ (k := 400) start
      intro m s τ5 g
      rcases g with ⟨g1, g2⟩ | ⟨g1, q, R, ts, g2, g3, g4, g5, g6, g7⟩
      · rw [ip_ifT g1, ip_P]
        simp only [Sum.elim_inr]
        exact Or.inl ⟨g1, g2⟩
      · have hq := g7.1.at
        rw [ip_ifF (by omega), ip_B]
        refine nb g7 (fun τ6 h6 s6 => ?_)
        by_cases c2 : sn L T q = 2
        · have hqL := sn_lt (L := L) (T := T) (q := q) (by omega)
          have hnx := nx_in (T := T) hqL.1
          obtain ⟨m', rfl⟩ : ∃ m', m = m' + 1 := ⟨m - 1, by omega⟩
          have e1 : con L T (m' + 1) q R ts = prs L T (m' + 1) (nx L T q) R ts := by
            unfold con
            rw [if_neg (by omega), if_pos c2]
          rw [e1] at g2
          rw [ip_ifF (fun z => z ((b2 q hq.1.1).mpr c2)), ip_B, ip_Gt, s6, ip_A]
          refine ⟨⟨by omega, by omega⟩, ?_⟩
          rw [ip_B, ip_Pt, ip_B]
          have ee1 : ee L T q = q + 1 := by
            unfold ee
            rw [if_neg (by omega)]
          have h7 : Lm L T τ (nx L T q) ts R (iu τ6 367 46 (q + 1)) := h6.go (Sp_ee hq.1.1 hqL.1 (by rw [iu_eq, ee1])) (fun a k z => iu_ne (by omega))
          refine ip_MreadsPart hW hT g4 g5 g6 h7 (fun r' τ7 hp' => ?_)
          rw [ip_P]
          simp only [Sum.elim_inl]
          have hq7 := h7.1.at
          exact ⟨m', by omega, part m' (nx L T q) ts R r' τ7 g4 g5 g6 (by omega) (by omega) g2.symm hp'⟩
        · rw [ip_ifT (fun z => c2 ((b2 q hq.1.1).mp z)), ip_P]
          simp only [Sum.elim_inr]
          refine Or.inr ⟨g1, q, R, ts, ?_, h6⟩
          rw [← g2]
          unfold con
          by_cases z : sn L T q = 4
          · rw [if_pos z, if_pos z]
          · rw [if_neg z, if_neg c2, if_neg z]
    · rcases g with ⟨g1, f, g2, g3⟩ | ⟨g1, q, R, ts, g2, g3⟩
      · rw [ip_ifT g1, ip_P]
        exact hQ 0 τ5 (Or.inl ⟨f, g2, rfl, g3⟩)
      · have hq := g3.1.at
        rw [ip_ifF (by omega), ip_B]
        refine nb g3 (fun τ6 h6 s6 => ?_)
        by_cases z : sn L T q = 4
        · rw [if_pos z] at g2
          rw [ip_ifT ((b4 q hq.1.1).mpr z), ip_P]
          exact hQ 1 τ6 (Or.inr ⟨R, g2, rfl, h6.2.1, h6.2.2.2.2⟩)
        · rw [if_neg z] at g2
          rw [ip_ifF (fun y => z ((b4 q hq.1.1).mp y)), ip_B, ip_Gt, s6, ip_B, ip_fails (by omega) (by omega) hq.1.1 (by omega), ip_ifT rfl, ip_P]
          exact hQ 0 _ (Or.inl ⟨_, g2, rfl, Dm_m h6 iu_eq (fun a k z => iu_ne (by omega))⟩)
theorem act_tell (hI : Inv τ) : act (iz_Top_tell 0) (iz_Model_tell 367) τ := by
  obtain ⟨hS, R, H, n, x, K, f, L, T, hW, hC, hM⟩ := hI
  have hL := hW.2.2.2.1
  have hnil : ∀ (H : Nat → aRun), PaW H 0 := fun H => ⟨by omega, fun i hi => absurd hi (Nat.not_lt_zero _)⟩
  have hT0 : TaW 0 T := ⟨⟨by omega, by omega⟩, fun k k0 k1 => by omega⟩
  cases hA : prA L T with
  | inl g =>
    refine act_of (v := -2 - g) hS hM (R' := R) (H' := H) (n' := n) (x' := x) (K' := K) (f' := f) (L' := 0) (T' := T) ⟨hW.1, hW.2.1, hW.2.2.1, hT0⟩ ?_ (fun τ1 hM1 => ?_)
    · unfold iz_Top_tell
      rw [t_2, t_1, ip_B]
      refine ip_read hW.2.2.2 hC.2.2.2.2 hS (fun v τ1 hv hf => ?_)
      rcases hv with ⟨g', v1, v2, v3⟩ | ⟨R', v1, v2⟩
      · rw [hA] at v1
        cases v1
        rw [ip_B, ip_Pt, ip_ifT (by omega), ip_P]
        have hf2 : ∀ a k, ¬ ((6 ≤ a ∧ a ≤ 12) ∨ (a = 4 ∧ k = 1)) → iu τ1 4 1 0 a k = τ a k := fun a k z => (iu_ne (by omega)).trans (hf a k (by omega))
        exact ⟨v2, ⟨hC.1.frame (fun a k z => hf2 a k (by omega)), hC.2.1.frame (fun a k z => hf2 a k (by omega)), hC.2.2.1.frame (fun a k _ _ => hf2 a k (by omega)), hC.2.2.2.1.frame (hf2 _ _ (by omega)) (fun a k _ _ => hf2 a k (by omega)), iu_eq, fun k k0 k1 => by omega⟩, fun a k z => hf2 a k (by omega)⟩
      · rw [hA] at v1; cases v1
    · unfold iz_Model_tell
      rw [ip_B]
      refine ip_readsAll hW.2.2.2 hM1.2.2.2 (fun r τ2 hr => ?_)
      rcases hr with ⟨g', r1, r2, r3⟩ | ⟨R', r1, r2⟩
      · rw [hA] at r1
        cases r1
        have hf2 : ∀ a k, ¬ (a = 404 ∨ (a = 367 ∧ 45 ≤ k ∧ k ≤ 53)) → iu τ2 367 45 0 a k = τ1 a k := fun a k z => (iu_ne (by omega)).trans (r3.2 a k (by omega))
        rw [ip_B, ip_Pt, ip_ifF (by omega), ip_B, ip_Gt, iu_ne (Or.inr (by omega)), r3.1, ip_A]
        have hg : 0 ≤ g ∧ g ≤ 3300 := by
          have key : ∃ v τ', ((∃ f, prA L T = Sum.inl f ∧ v = -2 - f ∧ 0 ≤ f ∧ f ≤ 3300) ∨ ∃ R', prA L T = Sum.inr R' ∧ v = np R' ∧ RunC τ' 7 R') := by
            obtain ⟨v, τ', -, h⟩ := ip_read (Q := fun v τ' => ((∃ f, prA L T = Sum.inl f ∧ v = -2 - f ∧ 0 ≤ f ∧ f ≤ 3300) ∨ ∃ R', prA L T = Sum.inr R' ∧ v = np R' ∧ RunC τ' 7 R')) hW.2.2.2 hC.2.2.2.2 hS (fun v τ' h _ => h)
            exact ⟨v, τ', h⟩
          obtain ⟨v, τ', h⟩ := key
          rcases h with ⟨f', h1, h2, h3⟩ | ⟨R', h1, h2⟩
          · rw [hA] at h1; cases h1; exact h3
          · rw [hA] at h1; cases h1
        refine ⟨⟨by omega, by omega⟩, ?_⟩
        rw [ip_P]
        exact ⟨rfl, ⟨hM1.1.frame (fun k => hf2 _ _ (by omega)), hM1.2.1.frame (hf2 _ _ (by omega)) (fun k => hf2 _ _ (by omega)), hM1.2.2.1.frame (fun k => hf2 _ _ (by omega)) (fun k => hf2 _ _ (by omega)), iu_eq, fun k k0 k1 => by omega⟩, fun a k z => hf2 a k (by omega)⟩
      · rw [hA] at r1; cases r1
  | inr R' =>
    have hw' := prA_ok hL.2 hL.1 hA
    have hnp := np_ge hw'
    refine act_of (v := np R') hS hM (R' := R') (H' := H) (n' := 0) (x' := x) (K' := K) (f' := f) (L' := 0) (T' := T) ⟨hw', hnil H, hW.2.2.1, hT0⟩ ?_ (fun τ1 hM1 => ?_)
    · unfold iz_Top_tell
      rw [t_2, t_1, t_0, t_3, u_1, ip_B]
      refine ip_read hW.2.2.2 hC.2.2.2.2 hS (fun v τ1 hv hf => ?_)
      rcases hv with ⟨g', v1, v2, v3⟩ | ⟨R'', v1, v2, v3⟩
      · rw [hA] at v1; cases v1
      · rw [hA] at v1
        cases v1
        rw [ip_B, ip_Pt, ip_ifF (by omega), ip_B]
        refine ip_copyFrom isRun_1 isRun_7 (by omega) (by omega) (v3.frame (fun a k _ _ => iu_ne (Or.inl (by omega)))) hw'.1.2 (fun τ2 u1 u2 => ?_)
        rw [ip_B, ip_Pt, ip_B]
        refine ip_changed ?_
        rw [ip_P]
        have hf1 : ∀ a k, ¬ ((a = 0 ∧ (k = 9 ∨ k = 10)) ∨ (a = 13 ∧ k = 2)) → iu (iu (iu τ2 13 2 0) 0 9 0) 0 10 0 a k = τ2 a k := fun a k z => by rw [iu_ne (by omega), iu_ne (by omega), iu_ne (by omega)]
        have hf2 : ∀ a k, ¬ ((a = 0 ∧ (k = 9 ∨ k = 10)) ∨ (a = 13 ∧ k = 2) ∨ (1 ≤ a ∧ a ≤ 3) ∨ (6 ≤ a ∧ a ≤ 12) ∨ (a = 4 ∧ k = 1)) → iu (iu (iu τ2 13 2 0) 0 9 0) 0 10 0 a k = τ a k := fun a k z => by rw [hf1 a k (by omega), u2 a k (by omega), iu_ne (by omega), hf a k (by omega)]
        have e9 : iu (iu (iu τ2 13 2 0) 0 9 0) 0 10 0 0 9 = 0 := by rw [iu_ne (Or.inr (by omega)), iu_eq]
        obtain ⟨⟨g1, g2, g3, g4, g5, g6, g7⟩, gB, gP, gK, gT⟩ := hC
        refine ⟨v2, ⟨⟨u1.frame (fun a k _ _ => hf1 a k (by omega)), ?_, g3.frame (hf2 _ _ (by omega)) (fun k => hf2 _ _ (by omega)), Or.inl e9, Or.inl iu_eq, fun q => by omega, fun q => absurd q (by rw [iu_eq]; omega)⟩, gB.frame (fun a k z => hf2 a k (by omega)), ⟨?_, ?_, gP.2.2.1, fun i hi => absurd hi (Nat.not_lt_zero _)⟩, gK.frame (hf2 _ _ (by omega)) (fun a k _ _ => hf2 a k (by omega)), ?_, fun k k0 k1 => by omega⟩, fun a k z => hf2 a k (by omega)⟩
        · unfold FlZ at g2 ⊢
          rw [hf2 _ _ (by omega), hf2 _ _ (by omega), hf2 _ _ (by omega)]
          exact g2
        · rw [iu_ne (Or.inl (by omega)), iu_ne (Or.inl (by omega)), iu_eq]; rfl
        · rw [hf2 _ _ (by omega)]; exact gP.2.1
        · rw [hf1 _ _ (by omega), u2 _ _ (by omega), iu_eq]
    · unfold iz_Model_tell
      rw [ip_B]
      refine ip_readsAll hW.2.2.2 hM1.2.2.2 (fun r τ2 hr => ?_)
      rcases hr with ⟨g', r1, r2, r3⟩ | ⟨R'', r1, r2, r3, r4⟩
      · rw [hA] at r1; cases r1
      · rw [hA] at r1
        cases r1
        rw [ip_B, ip_Pt, ip_ifT (by omega), ip_B]
        refine ip_mono (Q := fun _ τ3 => (∀ k, 0 ≤ k → k < 265 → τ3 368 k = τ2 404 k) ∧ (∀ a k, a ≠ 368 → τ3 a k = iu τ2 367 45 0 a k)) ?_ (fun _ τ3 g => ?_)
        · refine ip_W (fun s τ3 => (0 ≤ s ∧ s ≤ 265) ∧ (∀ k, 0 ≤ k → k < s → τ3 368 k = τ2 404 k) ∧ (∀ a k, a ≠ 368 → τ3 a k = iu τ2 367 45 0 a k)) (fun s _ => (265 - s).toNat) ?_ ⟨⟨Int.le_refl _, by omega⟩, fun k k0 k1 => by omega, fun _ _ _ => rfl⟩
          intro s τ3 ⟨b1, b2, b3⟩
          by_cases c : 265 ≤ s
          · rw [ip_ifT c, ip_P]
            simp only [Sum.elim_inr]
            exact ⟨fun k k0 k1 => b2 k k0 (by omega), b3⟩
          · rw [ip_ifF c, ip_B, ip_Ld, m_50, l_404, b3 _ _ (by omega), iu_ne (Or.inl (by omega))]
            refine ⟨⟨by omega, by omega⟩, ?_⟩
            rw [ip_B, ip_St, m_0, l_368]
            refine ⟨⟨⟨by omega, by omega⟩, by omega⟩, ?_⟩
            rw [ip_A]
            refine ⟨⟨by omega, by omega⟩, ?_⟩
            rw [ip_B, ip_P, ip_P]
            simp only [Sum.elim_inl]
            refine ⟨⟨⟨by omega, by omega⟩, fun k k0 k1 => ?_, fun a k z => ?_⟩, by omega⟩
            · by_cases z : k = s
              · rw [z, iu_eq]
              · rw [iu_ne (Or.inr z)]; exact b2 k k0 (by omega)
            · rw [iu_ne (Or.inl z)]; exact b3 a k z
        · rw [ip_B, ip_Pt, ip_B]
          have hR3 : RunM (iu τ3 367 2 0) 368 0 R' := r3.copy hw'.1.2 (fun k k0 k1 => by rw [iu_ne (Or.inl (by omega)), Int.zero_add, g.1 k k0 k1])
          refine ip_lays hw' hR3 (fun τ4 v1 v2 => ?_)
          rw [ip_B, ip_Gt, v1.1, ip_P]
          have hf : ∀ a k, ¬ (a = 404 ∨ a = 368 ∨ (a = 367 ∧ (k = 2 ∨ (45 ≤ k ∧ k ≤ 53))) ∨ mlw a k) → τ4 a k = τ1 a k := fun a k z => by
            rw [v2 a k (fun y => z (Or.inr (Or.inr (Or.inr y)))), iu_ne (by omega), g.2 a k (by omega), iu_ne (by omega), r4 a k (by omega)]
          refine ⟨rfl, ⟨hR3.frame (fun k => v2 _ _ (by unfold mlw; omega)), ⟨?_, fun i hi => absurd hi (Nat.not_lt_zero _)⟩, hM1.2.2.1.frame (fun k => hf _ _ (by unfold mlw; omega)) (fun k => hf _ _ (by unfold mlw; omega)), ?_, fun k k0 k1 => by omega⟩, fun a k z => hf a k (by unfold mlw; omega)⟩
          · rw [v2 _ _ (by unfold mlw; omega), iu_eq]; rfl
          · rw [v2 _ _ (by unfold mlw; omega), iu_ne (Or.inr (by omega)), g.2 _ _ (by omega), iu_eq]
end
