/-! ===== the other one's RUN ===== -/
def pw (w : Int) : Int := if w < 8 then w else if w < 12 then 2 * w - 8 else 2 * w - 15
def RunM (τ : iMem) (a : Nat) (o : Int) (R : aRun) : Prop := τ a (o + 8) = rn R ∧ (∀ k, 0 ≤ k → k < 8 → τ a (o + k) = rs R k) ∧ ∀ b w, 0 ≤ b → b < rn R → 0 ≤ w → w < 16 → τ a (o + 9 + 16 * b + pw w) = rc R b w
theorem RunM.frame {τ τ' : iMem} {a : Nat} {o : Int} {R : aRun} (h : RunM τ a o R) (hf : ∀ k, τ' a k = τ a k) : RunM τ' a o R :=
  ⟨(hf _).trans h.1, fun k h1 h2 => (hf _).trans (h.2.1 k h1 h2), fun b w h1 h2 h3 h4 => (hf _).trans (h.2.2 b w h1 h2 h3 h4)⟩
section
variable {τ : iMem} {R : aRun} {b w : Int} {Q : Int → iMem → Prop}
theorem rm_n (h : RunM τ 368 0 R) : τ 368 8 = rn R := h.1
theorem rm_s (h : RunM τ 368 0 R) {k : Int} (h0 : 0 ≤ k) (h8 : k < 8) : τ 368 k = rs R k := by
  have := h.2.1 k h0 h8
  rwa [Int.zero_add] at this
theorem rm_c (h : RunM τ 368 0 R) (h0 : 0 ≤ b) (h1 : b < rn R) (h2 : 0 ≤ w) (h3 : w < 8) : τ 368 (9 + 16 * b + w) = rc R b w := by
  have := h.2.2 b w h0 h1 h2 (by omega)
  unfold pw at this
  rw [if_pos h3] at this
  rw [← this, Int.zero_add]
theorem rm_l (h : RunM τ 368 0 R) {i : Int} (h0 : 0 ≤ b) (h1 : b < rn R) (h2 : 0 ≤ i) (h3 : i < 4) : τ 368 (9 + 16 * b + (8 + 2 * i)) = rc R b (8 + i) := by
  have := h.2.2 b (8 + i) h0 h1 (by omega) (by omega)
  unfold pw at this
  rw [if_neg (by omega), if_pos (by omega)] at this
  rw [← this]
  congr 1
  omega
theorem rm_t (h : RunM τ 368 0 R) {i : Int} (h0 : 0 ≤ b) (h1 : b < rn R) (h2 : 0 ≤ i) (h3 : i < 4) : τ 368 (9 + 16 * b + (8 + 2 * i + 1)) = rc R b (12 + i) := by
  have := h.2.2 b (12 + i) h0 h1 (by omega) (by omega)
  unfold pw at this
  rw [if_neg (by omega), if_neg (by omega)] at this
  rw [← this]
  congr 1
  omega
theorem ip_blocks : ip (iz_Model_blocks 367) Q τ ↔ Q (τ 368 8) τ := by
  unfold iz_Model_blocks
  simp only [ip_B, ip_Ld, ip_P, m_0, l_368]
  exact ⟨fun q => q.2, fun q => ⟨by omega, q⟩⟩
theorem ip_ofr (h0 : 0 ≤ b) (h1 : b ≤ 16) (h2 : 0 ≤ 9 + 16 * b + w) (h3 : 9 + 16 * b + w < 265) : ip (iz_Model_of 367 b w) Q τ ↔ Q (τ 368 (9 + 16 * b + w)) τ := by
  unfold iz_Model_of
  simp only [ip_A, ip_B, ip_Ld, ip_P, m_0, l_368]
  exact ⟨fun q => q.2.2.2.2, fun q => ⟨⟨by omega, by omega⟩, ⟨by omega, by omega⟩, ⟨by omega, by omega⟩, ⟨by omega, by omega⟩, q⟩⟩
theorem ip_of (h : RunM τ 368 0 R) (hn : rn R ≤ 16) (h0 : 0 ≤ b) (h1 : b < rn R) (h2 : 0 ≤ w) (h3 : w < 8) : ip (iz_Model_of 367 b w) Q τ ↔ Q (rc R b w) τ := by
  rw [ip_ofr h0 (by omega) (by omega) (by omega), rm_c h h0 h1 h2 h3]
end
theorem ip_noteOf {τ : iMem} {R : aRun} {b i : Int} {Q : Int → iMem → Prop} (hw : WF R) (hR : RunM τ 368 0 R) (h0 : 0 ≤ b) (h1 : b < rn R) (hi : 0 ≤ i) (hi2 : i ≤ 100) (hQ : Q (nt R b (i + 1)) τ) : ip (iz_Model_noteOf 367 b i) Q τ := by
  have hn := hw.1.2
  obtain ⟨-, -, -, -, -, -, -, -, -, -, hM, -⟩ := hw.2.2.1 b h0 h1
  unfold iz_Model_noteOf
  rw [ip_B, ip_B]
  refine ip_W (fun s τ' => τ' = τ ∧ 0 ≤ s ∧ s ≤ rc R b 7 ∧ (∀ j, 0 ≤ j → j < s → rc R b (8 + j) ≠ i + 1)) (fun s _ => (4 - s).toNat) ?_ ⟨rfl, by omega, by omega, fun j h1 h2 => by omega⟩
  intro s τ' ⟨e, g0, g4, gj⟩
  subst e
  rw [ip_B, ip_of hR hn h0 h1 (by omega) (by omega)]
  by_cases c1 : rc R b 7 ≤ s
  · rw [ip_ifT c1, ip_P]
    simp only [Sum.elim_inl, Sum.elim_inr, ip_P]
    rw [← nt_none (R := R) (b := b) (l := i + 1) (fun j a1 a2 a3 => gj j a1 (by omega))]
    exact hQ
  · rw [ip_ifF c1, ip_A]
    refine ⟨⟨by omega, by omega⟩, ?_⟩
    rw [ip_A]
    refine ⟨⟨by omega, by omega⟩, ?_⟩
    rw [ip_B, ip_ofr h0 (by omega) (by omega) (by omega), rm_l hR h0 h1 g0 (by omega), ip_A]
    refine ⟨⟨by omega, by omega⟩, ?_⟩
    by_cases c3 : rc R b (8 + s) = i + 1
    · rw [ip_ifF (by simpa using c3), ip_P]
      simp only [Sum.elim_inl, Sum.elim_inr, ip_P, ip_A, ip_B]
      refine ⟨⟨by omega, by omega⟩, ⟨by omega, by omega⟩, ⟨by omega, by omega⟩, ?_⟩
      rw [ip_ofr h0 (by omega) (by omega) (by omega), rm_t hR h0 h1 g0 (by omega), ← nt_found g0 (by omega) (by omega) (fun j a1 a2 => gj j a1 a2) c3]
      exact hQ
    · rw [ip_ifT c3, ip_A]
      refine ⟨⟨by omega, by omega⟩, ?_⟩
      rw [ip_B, ip_P, ip_P]
      refine ⟨⟨rfl, by omega, by omega, fun j a1 a2 => ?_⟩, by omega⟩
      by_cases e : j = s
      · subst e; exact c3
      · exact gj j a1 (by omega)
/-! ===== the other one's laying ===== -/
def hH (R : aRun) (p : Int) : Int := sI (pH R) p
def hG (R : aRun) (p : Int) : Int := sI (pG R) p
theorem hT_split {R : aRun} {p : Int} : hT R p = hH R p + hG R p := sI_add
theorem hH_s {R : aRun} {p : Int} (h : 0 ≤ p) : hH R (p + 1) = hH R p + pH R p := sI_s h
theorem hG_s {R : aRun} {p : Int} (h : 0 ≤ p) : hG R (p + 1) = hG R p + pG R p := sI_s h
theorem hH_in {R : aRun} (hw : WF R) {p : Int} (h0 : 0 ≤ p) (hp : p ≤ np R) : 0 ≤ hH R p ∧ hH R p ≤ 209 * p := by
  have := sI_bound (f := pH R) (n := p) (lo := 0) (hi := 209) (fun i h1 h2 => pH_in hw (p := i) (by omega) (by omega)) h0
  unfold hH
  omega
theorem hG_in {R : aRun} (hw : WF R) {p : Int} (h0 : 0 ≤ p) (hp : p ≤ np R) : 0 ≤ hG R p ∧ hG R p ≤ 30 * p := by
  have := sI_bound (f := pG R) (n := p) (lo := 0) (hi := 30) (fun i h1 h2 => pG_in hw (p := i) (by omega) (by omega)) h0
  unfold hG
  omega
/-- the rows by PIECES, up to one -/
def MlA (R : aRun) (τ : iMem) (p : Int) : Prop := ∀ q, 0 ≤ q → q < p → τ 373 q = ow R q ∧ τ 374 q = nu R q ∧ τ 375 q = pH R q ∧ τ 376 q = pG R q ∧ τ 377 q = pN R q ∧ τ 378 q = pS R q
theorem MlA.frame {R : aRun} {τ τ' : iMem} {p : Int} (h : MlA R τ p) (hf : ∀ a k, 373 ≤ a → a ≤ 378 → τ' a k = τ a k) : MlA R τ' p := by
  intro q a1 a2
  rw [hf _ q (by omega) (by omega), hf 374 q (by omega) (by omega), hf 375 q (by omega) (by omega), hf 376 q (by omega) (by omega), hf 377 q (by omega) (by omega), hf 378 q (by omega) (by omega)]
  exact h q a1 a2
def MlS (R : aRun) (τ : iMem) (p : Int) : Prop := ∀ q, 0 ≤ q → q ≤ p → τ 383 q = hH R q ∧ τ 384 q = hG R q ∧ τ 385 q = lT R q ∧ τ 386 q = ll R q
def FlM (R : aRun) (τ : iMem) : Prop :=
  τ 367 13 = np R ∧ τ 367 16 = ns R ∧ MlA R τ (np R) ∧ MlS R τ (np R) ∧ (∀ q, 0 ≤ q → q < np R → ((τ 379 q = 0 ∨ τ 379 q = 1) ∧ (τ 379 q ≠ 0 ↔ en R (q + 1)))) ∧ (∀ s, 0 ≤ s → s ≤ ns R → τ 380 s = bg R s) ∧ (∀ s, 0 ≤ s → s < ns R → τ 381 s = sh R s) ∧ (∀ b, 0 ≤ b → b < rn R → τ 382 b = fs R b)
/-- the cells that a laying writes -/
def mlw (a : Nat) (k : Int) : Prop := (a = 367 ∧ (k = 13 ∨ k = 16)) ∨ (373 ≤ a ∧ a ≤ 386)
theorem ip_laysPiece {τ : iMem} {R : aRun} {b i : Int} {Q : Unit → iMem → Prop} (hw : WF R) (hR : RunM τ 368 0 R) (h0 : 0 ≤ b) (h1 : b < rn R) (hi : 0 ≤ i) (hm : i < rc R b 1) (hp : τ 367 13 = fs R b + i) (hs : τ 367 16 = sc R b) (hA : MlA R τ (fs R b + i))
    (hQ : ∀ τ', MlA R τ' (fs R b + i + 1) → τ' 367 13 = fs R b + i + 1 → (∀ a k, ¬ ((a = 367 ∧ k = 13) ∨ (373 ≤ a ∧ a ≤ 378)) → τ' a k = τ a k) → Q () τ') : ip (iz_Model_laysPiece 367 b i) Q τ := by
  have hn := hw.1.2
  have hbw := hw.2.2.1 b h0 h1
  have hg := fs_ge hw h0 (by omega)
  have hle := fs_le hw (b := b + 1) (by omega) (by omega)
  have h90 := hw.2.2.2
  rw [fs_s h0] at hle
  have hb2 := hbw.2.2.2.2.2.1
  have hb3 := hbw.2.2.2.2.2.2.1
  have hbm := hbw.2.1
  have eow := ow_at hw h0 h1 hi hm
  have enu := nu_at hw h0 h1 hi hm
  unfold iz_Model_laysPiece
  rw [ip_B, ip_Gt, hp, ip_B, ip_St, m_6, l_373]
  refine ⟨⟨⟨by omega, by omega⟩, by omega⟩, ?_⟩
  rw [ip_B, ip_St, m_7, l_374]
  refine ⟨⟨⟨by omega, by omega⟩, by omega⟩, ?_⟩
  have c2 := rm_c (b := b) (w := 2) hR h0 h1 (by omega) (by omega)
  have c3 := rm_c (b := b) (w := 3) hR h0 h1 (by omega) (by omega)
  have c6 := rm_c (b := b) (w := 6) hR h0 h1 (by omega) (by omega)
  rw [ip_B, ip_ofr h0 (by omega) (by omega) (by omega), iu_ne (Or.inl (by omega)), iu_ne (Or.inl (by omega)), c2, ip_B]
  refine ip_mono (Q := fun r τ' => r = (if ¬ i = 0 then 0 else rc R b 3) ∧ τ' = iu (iu τ 373 (fs R b + i) b) 374 (fs R b + i) i) ?_ ?_
  · by_cases z : i = 0
    · rw [ip_ifF (by omega), if_neg (by omega), ip_B, ip_ofr h0 (by omega) (by omega) (by omega), iu_ne (Or.inl (by omega)), iu_ne (Or.inl (by omega)), c3, ip_P]
      exact ⟨rfl, rfl⟩
    · rw [ip_ifT z, if_pos z, ip_P]
      exact ⟨rfl, rfl⟩
  · intro r τ' ⟨er, et⟩
    have hr : 0 ≤ r ∧ r ≤ 9 := by rw [er]; split <;> omega
    rw [ip_A]
    refine ⟨⟨by omega, by omega⟩, ?_⟩
    rw [ip_B, ip_St, m_8, l_375]
    refine ⟨⟨⟨by omega, by omega⟩, by omega⟩, ?_⟩
    rw [ip_B]
    refine ip_mono (Q := fun r6 τ6 => r6 = (if ¬ i = 0 then 0 else rc R b 6) ∧ τ6 = iu τ' 375 (fs R b + i) (rc R b 2 + r)) ?_ ?_
    · by_cases z : i = 0
      · rw [ip_ifF (by omega), if_neg (by omega), ip_B, ip_ofr h0 (by omega) (by omega) (by omega), iu_ne (Or.inl (by omega)), et, iu_ne (Or.inl (by omega)), iu_ne (Or.inl (by omega)), c6, ip_P]
        exact ⟨rfl, rfl⟩
      · rw [ip_ifT z, if_pos z, ip_P]
        exact ⟨rfl, rfl⟩
    · intro r6 τ6 ⟨er6, et6⟩
      rw [ip_B, ip_St, m_9, l_376]
      refine ⟨⟨⟨by omega, by omega⟩, by omega⟩, ?_⟩
      rw [ip_B]
      refine ip_noteOf hw (hR.frame (fun k => by rw [iu_ne (Or.inl (by omega)), et6, iu_ne (Or.inl (by omega)), et, iu_ne (Or.inl (by omega)), iu_ne (Or.inl (by omega))])) h0 h1 hi (by omega) ?_
      have e13 : τ6 367 13 = fs R b + i := by rw [et6, iu_ne (Or.inl (by omega)), et, iu_ne (Or.inl (by omega)), iu_ne (Or.inl (by omega)), hp]
      have e16 : τ6 367 16 = sc R b := by rw [et6, iu_ne (Or.inl (by omega)), et, iu_ne (Or.inl (by omega)), iu_ne (Or.inl (by omega)), hs]
      simp (disch := omega) only [ip_B, ip_Gt, ip_Pt, ip_St, ip_A, ip_P, m_10, m_11, l_377, l_378, iu_ne, iu_eq, iR, e13, e16]
      repeat refine ⟨by omega, ?_⟩
      refine hQ _ ?_ ?_ ?_
      · intro q a1 a2
        by_cases c : q = fs R b + i
        · subst c
          simp (disch := omega) only [iu_ne, iu_eq, et6, et]
          refine ⟨eow.symm, enu.symm, ?_, ?_, ?_, ?_⟩
          · unfold pH
            rw [eow, enu, er]
            by_cases z : i = 0
            · rw [if_neg (by omega), if_pos z]
            · rw [if_pos z, if_neg z]; omega
          · unfold pG
            rw [eow, enu, er6]
            by_cases z : i = 0
            · rw [if_neg (by omega), if_pos z]
            · rw [if_pos z, if_neg z]
          · unfold pN
            rw [eow, enu]
          · unfold pS
            rw [eow]
        · simp (disch := omega) only [iu_ne, et6, et]
          exact hA q a1 (by omega)
      · rw [iu_eq]
      · intro a k hak
        simp (disch := omega) only [iu_ne, et6, et]
