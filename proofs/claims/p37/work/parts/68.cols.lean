/-! ===== columns: TEXT, OWN, what is left over ===== -/
def tx (R : aRun) (p e : Int) : Int := if e ≤ p then 0 else hT R e - hT R p - pG R p + pT R p
def ol (R : aRun) (p e : Int) : Int := if e ≤ p then 0 else lT R e - lT R p
def li (R : aRun) (room : Int) : Int := if room < rs R 6 then 0 else (room - rs R 6) / rs R 5
def lo (R : aRun) (p e c h : Int) : Int :=
  if ol R p e + c = 0 then (if h - tx R p e < 0 then -1 else 0)
  else if (if ol R p e ≤ 0 then 1 else c + ol R p e - ll R e + 1) ≤ li R (h - tx R p e) then (if 0 < ol R p e + c - li R (h - tx R p e) then ol R p e + c - li R (h - tx R p e) else 0) else -1
theorem tx_in {R : aRun} (hw : WF R) {p e : Int} (h0 : 0 ≤ p) (he : e ≤ np R) : 0 ≤ tx R p e ∧ tx R p e ≤ 22000 := by
  unfold tx
  have h90 := hw.2.2.2
  by_cases c : e ≤ p
  · rw [if_pos c]; omega
  · rw [if_neg c]
    have a1 := hT_mono hw (a := p + 1) (b := e) (by omega) (by omega) he
    rw [hT_s h0] at a1
    have a2 := hT_in hw (p := e) (by omega) he
    have a3 := pH_in hw h0 (by omega)
    have a4 := pT_in hw h0 (by omega)
    have a5 := pG_in hw h0 (by omega)
    have a6 := hT_in hw h0 (by omega)
    omega
theorem ol_in {R : aRun} (hw : WF R) {p e : Int} (h0 : 0 ≤ p) (he : e ≤ np R) : 0 ≤ ol R p e ∧ ol R p e ≤ 1800 := by
  unfold ol
  have h90 := hw.2.2.2
  by_cases c : e ≤ p
  · rw [if_pos c]; omega
  · rw [if_neg c]
    have a1 := lT_mono hw (a := p) (b := e) (by omega) (by omega) he
    have a2 := lT_in hw (p := e) (by omega) he
    have a6 := lT_in hw h0 (by omega)
    omega
theorem ll_ol {R : aRun} (hw : WF R) {p e : Int} (h0 : 0 ≤ p) (he : e ≤ np R) (h : 0 < ol R p e) : 1 ≤ ll R e ∧ ll R e ≤ ol R p e ∧ ll R e ≤ 20 := by
  unfold ol at *
  by_cases c : e ≤ p
  · rw [if_pos c] at h; omega
  · rw [if_neg c] at h ⊢
    have := ll_in hw (p := e) (by omega) he
    have h2 := this.2.2 p h0 (by omega) h
    omega
theorem li_in {R : aRun} (hs : WFs R) {room : Int} (h : room ≤ 100000) : 0 ≤ li R room ∧ li R room ≤ 100000 := by
  obtain ⟨-, -, -, -, -, h5, h6, -⟩ := hs
  unfold li
  by_cases c : room < rs R 6
  · rw [if_pos c]; omega
  · rw [if_neg c]
    have a1 : 0 ≤ (room - rs R 6) / rs R 5 := Int.ediv_nonneg (by omega) (by omega)
    have a2 : (room - rs R 6) / rs R 5 ≤ room - rs R 6 := Int.ediv_le_self _ (by omega)
    omega
theorem li_le {R : aRun} (hs : WFs R) {room : Int} (h : 0 ≤ room) : li R room ≤ room := by
  obtain ⟨-, -, -, -, -, h5, h6, -⟩ := hs
  unfold li
  by_cases c : room < rs R 6
  · rw [if_pos c]; omega
  · rw [if_neg c]
    have a2 : (room - rs R 6) / rs R 5 ≤ room - rs R 6 := Int.ediv_le_self _ (by omega)
    omega
theorem li_mono {R : aRun} (hs : WFs R) {a b : Int} (h : a ≤ b) : li R a ≤ li R b := by
  obtain ⟨-, -, -, -, -, h5, h6, -⟩ := hs
  unfold li
  by_cases c : a < rs R 6
  · rw [if_pos c]
    split
    · omega
    · exact Int.ediv_nonneg (by omega) (by omega)
  · rw [if_neg c, if_neg (by omega)]
    exact Int.ediv_le_ediv (by omega) (by omega)
theorem lo_in {R : aRun} (hw : WF R) {p e c h : Int} (h0 : 0 ≤ p) (he : e ≤ np R) (hc : 0 ≤ c) (hc2 : c < 20) (hh : h ≤ 2000) : -1 ≤ lo R p e c h ∧ lo R p e c h < 20 := by
  have a1 := ol_in hw h0 he
  have a2 := tx_in hw h0 he
  have a3 := li_in hw.2.1 (room := h - tx R p e) (by omega)
  unfold lo
  by_cases d : ol R p e + c = 0
  · rw [if_pos d]; split <;> omega
  · rw [if_neg d]
    by_cases z : ol R p e ≤ 0
    · rw [if_pos z]; split
      · split <;> omega
      · omega
    · have := ll_ol hw h0 he (by omega)
      rw [if_neg z]; split
      · split <;> omega
      · omega
section
variable {τ : iMem} {fl ru : Nat} {R : aRun} {p e : Int} {Q : Int → iMem → Prop}
theorem ip_text (hf : isFlow fl ru) (hw : WF R) (hB : FlB R fl τ) (h0 : 0 ≤ p) (he : e ≤ np R) : ip (iz_Flow_text fl p e) Q τ ↔ Q (tx R p e) τ := by
  have h90 := hw.2.2.2
  unfold iz_Flow_text
  rw [ip_ifF (by omega)]
  by_cases c : e ≤ p
  · rw [ip_ifT c, ip_P]
    unfold tx
    rw [if_pos c]
  · have a1 := hT_mono hw (a := p + 1) (b := e) (by omega) (by omega) he
    rw [hT_s h0] at a1
    have a2 := hT_in hw (p := e) (by omega) he
    have a3 := pH_in hw h0 (by omega)
    have a4 := pT_in hw h0 (by omega)
    have a5 := pG_in hw h0 (by omega)
    have a6 := hT_in hw h0 (by omega)
    obtain ⟨-, -, BA, -⟩ := hB
    have A := BA.1 p h0 (by omega)
    have E1 := BA.2.1 e (by omega) he
    have E2 := BA.2.1 p h0 (by omega)
    rw [ip_ifF c, ip_ifT (by omega)]
    simp only [ip_B, ip_Ld, ip_A, ip_P, fl_8 hf, fl_11 hf, fl_12 hf, fl_l5 hf, fl_l8 hf, fl_l9 hf, A.2.2.2.1, A.2.2.2.2.2.2, E1.1, E2.1]
    unfold tx
    rw [if_neg c]
    constructor
    · intro q; exact q.2.2.2.2.2.2.2
    · intro q
      exact ⟨⟨by omega, by omega⟩, ⟨by omega, by omega⟩, ⟨by omega, by omega⟩, ⟨by omega, by omega⟩, ⟨by omega, by omega⟩, ⟨by omega, by omega⟩, ⟨by omega, by omega⟩, q⟩
theorem ip_ownLines (hf : isFlow fl ru) (hw : WF R) (hB : FlB R fl τ) (h0 : 0 ≤ p) (he : e ≤ np R) : ip (iz_Flow_ownLines fl p e) Q τ ↔ Q (ol R p e) τ := by
  have h90 := hw.2.2.2
  unfold iz_Flow_ownLines
  rw [ip_ifF (by omega)]
  by_cases c : e ≤ p
  · rw [ip_ifT c, ip_P]
    unfold ol
    rw [if_pos c]
  · have a2 := lT_in hw (p := e) (by omega) he
    have a6 := lT_in hw h0 (by omega)
    obtain ⟨-, -, BA, -⟩ := hB
    have E1 := BA.2.1 e (by omega) he
    have E2 := BA.2.1 p h0 (by omega)
    rw [ip_ifF c, ip_ifT (by omega)]
    simp only [ip_B, ip_Ld, ip_A, ip_P, fl_13 hf, fl_l10 hf, E1.2.1, E2.2.1]
    unfold ol
    rw [if_neg c]
    constructor
    · intro q; exact q.2.2.2
    · intro q
      exact ⟨⟨by omega, by omega⟩, ⟨by omega, by omega⟩, ⟨by omega, by omega⟩, q⟩
theorem ip_lastAhead (hf : isFlow fl ru) (hw : WF R) (hB : FlB R fl τ) (h0 : 0 ≤ e) (he : e ≤ np R) : ip (iz_Flow_lastLinesAhead fl e) Q τ ↔ Q (ll R e) τ := by
  have h90 := hw.2.2.2
  obtain ⟨-, -, BA, -⟩ := hB
  have E1 := BA.2.1 e (by omega) he
  unfold iz_Flow_lastLinesAhead
  rw [ip_ifF (by omega), ip_ifF (by omega)]
  simp only [ip_B, ip_Ld, ip_P, fl_14 hf, fl_l11 hf, E1.2.2]
  exact ⟨fun q => q.2, fun q => ⟨⟨by omega, by omega⟩, q⟩⟩
theorem ip_mayEnd (hf : isFlow fl ru) (hw : WF R) (hE : FlE R fl τ) (hn : 0 < rn R) (h0 : 0 ≤ e) (he : e ≤ np R) (hQ : ∀ r, (r = 1 ∧ en R e) ∨ (r = 0 ∧ ¬ en R e) → Q r τ) : ip (iz_Flow_mayEnd fl e) Q τ := by
  have h90 := hw.2.2.2
  have := hE e h0 he hn
  unfold iz_Flow_mayEnd
  rw [ip_ifF (by omega), ip_ifF (by omega), ip_B, ip_Ld, fl_15 hf, fl_l12 hf]
  refine ⟨⟨by omega, by omega⟩, ?_⟩
  by_cases c : τ (fl + 12) e = 0
  · rw [ip_ifT c, ip_P]
    exact hQ 0 (Or.inr ⟨rfl, fun q => this.mpr q c⟩)
  · rw [ip_ifF c, ip_P]
    exact hQ 1 (Or.inl ⟨rfl, this.mp c⟩)
theorem ip_at {a : Nat} {i : Int} (h0 : 0 ≤ i) (h1 : i < iLen a) : ip (iz_Top_at a i) Q τ ↔ Q (τ a i) τ := by
  unfold iz_Top_at
  rw [ip_ifF (by omega), ip_ifF (by omega)]
  simp only [ip_B, ip_Ld, ip_P]
  exact ⟨fun q => q.2, fun q => ⟨⟨h0, h1⟩, q⟩⟩
end
/-! where the fitter's things lie -/
def isFit (ft fl ru : Nat) : Prop := isFlow fl ru ∧ (qm_rf ft 0 = ru ∧ qm_rf ft 1 = fl ∧ qm_rf ft 4 = ft + 1 ∧ qm_rf ft 8 = ft + 8) ∧ (qm_rf (ft + 1) 0 = ft + 2 ∧ qm_rf (ft + 1) 1 = ft + 3 ∧ qm_rf (ft + 1) 2 = ft + 4 ∧ qm_rf (ft + 1) 3 = ft + 5 ∧ qm_rf (ft + 1) 4 = ft + 6 ∧ qm_rf (ft + 1) 5 = ft + 7) ∧
  (iLen (ft + 1) = 6 ∧ iLen (ft + 2) = 91 ∧ iLen (ft + 3) = 91 ∧ iLen (ft + 4) = 91 ∧ iLen (ft + 5) = 91 ∧ iLen (ft + 6) = 91 ∧ iLen (ft + 7) = 91 ∧ iLen (ft + 8) = 1820) ∧ fl + 17 = ft ∧ ft + 8 < 405
theorem isFit_70 : isFit 70 53 1 := ⟨isFlow_53, ⟨by decide +kernel, by decide +kernel, by decide +kernel, by decide +kernel⟩, ⟨by decide +kernel, by decide +kernel, by decide +kernel, by decide +kernel, by decide +kernel, by decide +kernel⟩, ⟨by decide +kernel, by decide +kernel, by decide +kernel, by decide +kernel, by decide +kernel, by decide +kernel, by decide +kernel, by decide +kernel⟩, by decide, by decide⟩
theorem isFit_343 : isFit 343 326 323 := ⟨isFlow_326, ⟨by decide +kernel, by decide +kernel, by decide +kernel, by decide +kernel⟩, ⟨by decide +kernel, by decide +kernel, by decide +kernel, by decide +kernel, by decide +kernel, by decide +kernel⟩, ⟨by decide +kernel, by decide +kernel, by decide +kernel, by decide +kernel, by decide +kernel, by decide +kernel, by decide +kernel, by decide +kernel⟩, by decide, by decide⟩
theorem ft_F {ft fl ru : Nat} (h : isFit ft fl ru) : isFlow fl ru := h.1
theorem ft_0 {ft fl ru : Nat} (h : isFit ft fl ru) : qm_rf ft 0 = ru := h.2.1.1
theorem ft_1 {ft fl ru : Nat} (h : isFit ft fl ru) : qm_rf ft 1 = fl := h.2.1.2.1
theorem ft_4 {ft fl ru : Nat} (h : isFit ft fl ru) : qm_rf ft 4 = ft + 1 := h.2.1.2.2.1
theorem ft_8 {ft fl ru : Nat} (h : isFit ft fl ru) : qm_rf ft 8 = ft + 8 := h.2.1.2.2.2
theorem ft_e {ft fl ru : Nat} (h : isFit ft fl ru) : fl + 17 = ft := h.2.2.2.2.1
theorem ft_m {ft fl ru : Nat} (h : isFit ft fl ru) : ft + 8 < 405 := h.2.2.2.2.2
theorem ft_l1 {ft fl ru : Nat} (h : isFit ft fl ru) : iLen (ft + 1) = 6 := h.2.2.2.1.1
theorem ft_l8 {ft fl ru : Nat} (h : isFit ft fl ru) : iLen (ft + 8) = 1820 := h.2.2.2.1.2.2.2.2.2.2.2
theorem ft_row {ft fl ru : Nat} (h : isFit ft fl ru) {k : Int} (h0 : 0 ≤ k) (h5 : k ≤ 5) : qm_rf (ft + 1) k.toNat = ft + 2 + k.toNat ∧ iLen (ft + 2 + k.toNat) = 91 := by
  obtain ⟨r0, r1, r2, r3, r4, r5⟩ := h.2.2.1
  obtain ⟨-, l0, l1, l2, l3, l4, l5, -⟩ := h.2.2.2.1
  have hc : k = 0 ∨ k = 1 ∨ k = 2 ∨ k = 3 ∨ k = 4 ∨ k = 5 := by omega
  rcases hc with rfl | rfl | rfl | rfl | rfl | rfl
  · exact ⟨r0, l0⟩
  · exact ⟨r1, l1⟩
  · exact ⟨r2, l2⟩
  · exact ⟨r3, l3⟩
  · exact ⟨r4, l4⟩
  · exact ⟨r5, l5⟩
/-- rule and note line as told -/
def FtR (R : aRun) (ft : Nat) (τ : iMem) : Prop := τ ft 2 = rs R 6 ∧ τ ft 3 = rs R 5
theorem ip_linesIn {τ : iMem} {ft : Nat} {R : aRun} {room : Int} {Q : Int → iMem → Prop} (hs : WFs R) (hR : FtR R ft τ) (hr : -1000000 ≤ room ∧ room ≤ 100000) : ip (iz_Fitter_linesIn ft room) Q τ ↔ Q (li R room) τ := by
  obtain ⟨-, -, -, -, -, h5, h6, -⟩ := hs
  unfold iz_Fitter_linesIn li
  rw [ip_B, ip_Gt, hR.1]
  by_cases c : room < rs R 6
  · rw [ip_ifT c, if_pos c, ip_P]
  · rw [ip_ifF c, if_neg c]
    simp only [ip_B, ip_Gt]
    rw [hR.2, ip_ifT (by omega)]
    simp only [ip_B, ip_Gt, ip_A, ip_Dv, ip_P]
    rw [hR.1, hR.2]
    exact ⟨fun q => q.2.2, fun q => ⟨⟨by omega, by omega⟩, ⟨by omega, by omega⟩, q⟩⟩
theorem ip_leftOver {τ : iMem} {ft fl ru : Nat} {R : aRun} {p e c h : Int} {Q : Int → iMem → Prop} (hf : isFit ft fl ru) (hw : WF R) (hB : FlB R fl τ) (hR : FtR R ft τ) (h0 : 0 ≤ p) (hpe : 0 ≤ e) (he : e ≤ np R) (hc : 0 ≤ c) (hc2 : c < 10000) (hh : 0 ≤ h) (hh2 : h ≤ 2000) : ip (iz_Fitter_leftOver ft p e c h) Q τ ↔ Q (lo R p e c h) τ := by
  have h90 := hw.2.2.2
  have a1 := ol_in hw h0 he
  have a2 := tx_in hw h0 he
  have a3 := li_in hw.2.1 (room := h - tx R p e) (by omega)
  have hl := ll_in hw hpe he
  have hl2 := hl.2.1
  have hl1 := hl.1
  unfold iz_Fitter_leftOver lo
  rw [ft_1 hf, ip_B, ip_text (ft_F hf) hw hB h0 he, ip_A]
  refine (and_iff_right ⟨by omega, by omega⟩).trans ?_
  rw [ip_B, ip_P, ip_B, ip_ownLines (ft_F hf) hw hB h0 he, ip_A]
  refine (and_iff_right ⟨by omega, by omega⟩).trans ?_
  by_cases d : ol R p e + c = 0
  · rw [ip_ifF (by omega), if_pos d]
    by_cases z : h - tx R p e < 0
    · rw [ip_ifT z, if_pos z, ip_P]
    · rw [ip_ifF z, if_neg z, ip_P]
  · rw [ip_ifT d, if_neg d, ip_B, ip_linesIn hw.2.1 hR ⟨by omega, by omega⟩, ip_B]
    by_cases z : ol R p e ≤ 0
    · rw [ip_ifT z, if_pos z, ip_P]
      by_cases y : 1 ≤ li R (h - tx R p e)
      · rw [ip_ifT y, if_pos y, ip_A, ip_A]
        refine (and_iff_right ⟨by omega, by omega⟩).trans ((and_iff_right ⟨by omega, by omega⟩).trans ?_)
        rw [ip_B, ip_max, ip_P]
      · rw [ip_ifF y, if_neg y, ip_P]
    · rw [ip_ifF z, if_neg z]
      simp only [ip_B, ip_A]
      rw [ip_lastAhead (ft_F hf) hw hB hpe he]
      refine (and_iff_right ⟨by omega, by omega⟩).trans ((and_iff_right ⟨by omega, by omega⟩).trans ((and_iff_right ⟨by omega, by omega⟩).trans ?_))
      rw [ip_P]
      by_cases y : c + ol R p e - ll R e + 1 ≤ li R (h - tx R p e)
      · rw [ip_ifT y, if_pos y, ip_A, ip_A]
        refine (and_iff_right ⟨by omega, by omega⟩).trans ((and_iff_right ⟨by omega, by omega⟩).trans ?_)
        rw [ip_B, ip_max, ip_P]
      · rw [ip_ifF y, if_neg y, ip_P]
