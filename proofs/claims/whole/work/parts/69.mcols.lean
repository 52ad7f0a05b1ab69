/-! ===== the other one's columns ===== -/
def st (R : aRun) (p e c h : Int) : Int := if (if ol R p e + c = 0 then 0 else li R (h - tx R p e)) ≤ ol R p e + c then (if ol R p e + c = 0 then 0 else li R (h - tx R p e)) else ol R p e + c
def mi (R : aRun) (p e lv h : Int) : Int :=
  if h < tx R p e + (if ol R p e ≤ 0 then 0 else rs R 6) then -1
  else if ol R p e = 0 then (if li R (h - tx R p e) < 1 then 0 else li R (h - tx R p e) + lv)
  else (if li R (h - tx R p e) - ol R p e + lv ≤ li R (h - tx R p e) - ol R p e + ll R e - 1 then li R (h - tx R p e) - ol R p e + lv else li R (h - tx R p e) - ol R p e + ll R e - 1)
section
variable {τ : iMem} {R : aRun} {p e c h lv s : Int} {Q : Int → iMem → Prop}
theorem ip_textOf (hw : WF R) (hR : RunM τ 368 0 R) (hF : FlM R τ) (h0 : 0 ≤ p) (hpe : p ≤ e) (he : e ≤ np R) : ip (iz_Model_textOf 367 p e) Q τ ↔ Q (tx R p e) τ := by
  have h90 := hw.2.2.2
  have hn := hw.1.2
  unfold iz_Model_textOf
  by_cases c : e = p
  · rw [ip_ifF (by omega), ip_P]
    unfold tx
    rw [if_pos (by omega)]
  · obtain ⟨-, -, A, S, -⟩ := hF
    have A1 := A p h0 (by omega)
    have S1 := S e (by omega) he
    have S2 := S p h0 (by omega)
    have S3 := S (p + 1) (by omega) (by omega)
    obtain ⟨o1, o2, o3, o4, o5⟩ := ow_in hw h0 (by omega : p < np R)
    have hb3 := (hw.2.2.1 _ o1 o2).2.2.2.2.2.2.1
    have b1 := hH_in hw (p := e) (by omega) he
    have b2 := hH_in hw h0 (by omega)
    have b3 := hG_in hw (p := e) (by omega) he
    have b4 := hG_in hw (p := p + 1) (by omega) (by omega)
    have b5 := hG_s (R := R) h0
    have e3 : τ 368 (9 + 16 * ow R p + 3) = rc R (ow R p) 3 := rm_c hR o1 o2 (by omega) (by omega)
    rw [ip_ifT c, ip_B, ip_Ld, m_7, l_374]
    refine (and_iff_right ⟨by omega, by omega⟩).trans ?_
    rw [A1.2.1, ip_B]
    have key : ip (if nu R p ≤ 0 then iP 0 else iB (iLd (qm_rf 367 6) p) fun x3 => iB (iz_Model_of 367 x3 3) fun x4 => iP x4) (fun a τ' => ip (iB (iLd (qm_rf 367 18) e) fun x5 => iB (iLd (qm_rf 367 18) p) fun x6 => iB (iLd (qm_rf 367 19) e) fun x7 => iA (p + 1) fun y1 => iB (iLd (qm_rf 367 19) y1) fun x8 => iA (x5 - x6) fun y2 => iA (y2 + x7) fun y3 => iA (y3 - x8) fun y4 => iA (y4 + a) fun y5 => iP y5) Q τ') τ ↔ ip (iB (iLd (qm_rf 367 18) e) fun x5 => iB (iLd (qm_rf 367 18) p) fun x6 => iB (iLd (qm_rf 367 19) e) fun x7 => iA (p + 1) fun y1 => iB (iLd (qm_rf 367 19) y1) fun x8 => iA (x5 - x6) fun y2 => iA (y2 + x7) fun y3 => iA (y3 - x8) fun y4 => iA (y4 + pT R p) fun y5 => iP y5) Q τ := by
      unfold pT
      by_cases z : nu R p = 0
      · rw [ip_ifT (by omega), if_pos z, ip_P]
      · rw [ip_ifF (by omega), if_neg z, ip_B, ip_Ld, m_6, l_373]
        refine (and_iff_right ⟨by omega, by omega⟩).trans ?_
        rw [A1.1, ip_B, ip_ofr o1 (by omega) (by omega) (by omega), e3, ip_P]
    refine key.trans ?_
    have hpT := pT_in hw h0 (by omega : p < np R)
    simp only [ip_B, ip_Ld, ip_A, ip_P, m_18, m_19, l_383, l_384, S1.1, S1.2.1, S2.1, S3.2.1]
    have ev : hH R e - hH R p + hG R e - hG R (p + 1) + pT R p = tx R p e := by
      unfold tx
      rw [if_neg (by omega), hT_split, hT_split, b5]
      omega
    rw [ev]
    constructor
    · intro q; exact q.2.2.2.2.2.2.2.2.2
    · intro q
      have := tx_in hw h0 he
      exact ⟨⟨by omega, by omega⟩, ⟨by omega, by omega⟩, ⟨by omega, by omega⟩, ⟨by omega, by omega⟩, ⟨by omega, by omega⟩, ⟨by omega, by omega⟩, ⟨by omega, by omega⟩, ⟨by omega, by omega⟩, ⟨by omega, by omega⟩, q⟩
theorem ip_ownOf (hw : WF R) (hF : FlM R τ) (h0 : 0 ≤ p) (hpe : p ≤ e) (he : e ≤ np R) : ip (iz_Model_ownOf 367 p e) Q τ ↔ Q (ol R p e) τ := by
  have h90 := hw.2.2.2
  obtain ⟨-, -, A, S, -⟩ := hF
  have S1 := S e (by omega) he
  have S2 := S p h0 (by omega)
  have a1 := lT_in hw (p := e) (by omega) he
  have a2 := lT_in hw h0 (by omega)
  unfold iz_Model_ownOf
  simp only [ip_B, ip_Ld, ip_A, ip_P, m_20, l_385, S1.2.2.1, S2.2.2.1]
  have ev : lT R e - lT R p = ol R p e := by
    unfold ol
    by_cases c : e ≤ p
    · rw [if_pos c, show e = p by omega]; omega
    · rw [if_neg c]
  rw [ev]
  constructor
  · intro q; exact q.2.2.2
  · intro q
    have := ol_in hw h0 he
    exact ⟨⟨by omega, by omega⟩, ⟨by omega, by omega⟩, ⟨by omega, by omega⟩, q⟩
theorem ip_roomOf (hw : WF R) (hR : RunM τ 368 0 R) (hF : FlM R τ) (h0 : 0 ≤ p) (hpe : p ≤ e) (he : e ≤ np R) (hh : 0 ≤ h) (hh2 : h ≤ 2000) : ip (iz_Model_roomOf 367 p e h) Q τ ↔ Q (li R (h - tx R p e)) τ := by
  have h90 := hw.2.2.2
  have a2 := tx_in hw h0 he
  have hs := hw.2.1
  obtain ⟨-, -, -, -, -, h5, h6, -⟩ := hs
  unfold iz_Model_roomOf li
  rw [ip_B, ip_textOf hw hR hF h0 hpe he]
  simp only [ip_B, ip_Ld, ip_A, ip_P, m_0, l_368]
  rw [rm_s hR (k := 6) (by omega) (by omega)]
  refine (and_iff_right ⟨by omega, by omega⟩).trans ((and_iff_right ⟨by omega, by omega⟩).trans ((and_iff_right ⟨by omega, by omega⟩).trans ?_))
  by_cases c : h - tx R p e < rs R 6
  · rw [ip_ifF (by omega), if_pos c, ip_P]
  · rw [ip_ifT (by omega), if_neg c]
    simp only [ip_B, ip_Ld, ip_P, ip_Dv, l_368]
    rw [rm_s hR (k := 5) (by omega) (by omega)]
    exact ⟨fun q => q.2.2, fun q => ⟨⟨by omega, by omega⟩, ⟨by omega, by omega⟩, q⟩⟩
theorem ip_canEnd (hw : WF R) (hR : RunM τ 368 0 R) (hF : FlM R τ) (h0 : 0 ≤ p) (hpe : p ≤ e) (he : e ≤ np R) (hc : 0 ≤ c) (hc2 : c < 10000) (hh : 0 ≤ h) (hh2 : h ≤ 2000) : ip (iz_Model_canEnd 367 p e c h) Q τ ↔ Q (if lo R p e c h = -1 then 0 else 1) τ := by
  have h90 := hw.2.2.2
  have a1 := ol_in hw h0 he
  have a2 := tx_in hw h0 he
  have a3 := li_in hw.2.1 (room := h - tx R p e) (by omega)
  have hs := hw.2.1
  obtain ⟨-, -, -, -, -, h5, h6, -⟩ := hs
  obtain ⟨-, -, A, S, -⟩ := id hF
  have S1 := S e (by omega) he
  have hl := ll_in hw (p := e) (by omega) he
  have hl1 := hl.1
  have hl2 := hl.2.1
  unfold iz_Model_canEnd
  rw [ip_B, ip_ownOf hw hF h0 hpe he, ip_B, ip_textOf hw hR hF h0 hpe he, ip_B, ip_A]
  refine (and_iff_right ⟨by omega, by omega⟩).trans ?_
  by_cases d : ol R p e + c = 0
  · rw [ip_ifT (by omega), ip_P, ip_A]
    refine (and_iff_right ⟨by omega, by omega⟩).trans ?_
    by_cases z : h - tx R p e < 0
    · have e1 : lo R p e c h = -1 := by unfold lo; rw [if_pos d, if_pos z]
      rw [if_pos e1, ip_ifF (by omega), ip_P]
    · have e1 : lo R p e c h = 0 := by unfold lo; rw [if_pos d, if_neg z]
      rw [if_neg (show ¬ lo R p e c h = -1 by omega), ip_ifT (by omega), ip_B, ip_roomOf hw hR hF h0 hpe he hh hh2, ip_ifT (by omega), ip_ifT (by omega), ip_P]
  · rw [ip_ifF (by omega), ip_B, ip_Ld, m_0, l_368]
    refine (and_iff_right ⟨by omega, by omega⟩).trans ?_
    rw [rm_s hR (k := 6) (by omega) (by omega), ip_P, ip_A]
    refine (and_iff_right ⟨by omega, by omega⟩).trans ?_
    by_cases z : tx R p e + rs R 6 ≤ h
    · rw [ip_ifT z, ip_B, ip_roomOf hw hR hF h0 hpe he hh hh2]
      by_cases y : ol R p e ≤ 0
      · rw [ip_ifT y, ip_ifF (by omega)]
        by_cases x : li R (h - tx R p e) < 1
        · have e1 : lo R p e c h = -1 := by unfold lo; rw [if_neg d, if_pos y, if_neg (show ¬ 1 ≤ li R (h - tx R p e) by omega)]
          rw [ip_ifT x, ip_P, if_pos e1]
        · have e1 : lo R p e c h ≠ -1 := by
            unfold lo; rw [if_neg d, if_pos y, if_pos (show 1 ≤ li R (h - tx R p e) by omega)]; split <;> omega
          rw [ip_ifF x, ip_P, if_neg e1]
      · rw [ip_ifF y, ip_B, ip_Ld, m_21, l_386]
        refine (and_iff_right ⟨by omega, by omega⟩).trans ?_
        rw [S1.2.2.2, ip_A, ip_A, ip_A]
        refine (and_iff_right ⟨by omega, by omega⟩).trans ((and_iff_right ⟨by omega, by omega⟩).trans ((and_iff_right ⟨by omega, by omega⟩).trans ?_))
        by_cases x : li R (h - tx R p e) < c + ol R p e - ll R e + 1
        · have e1 : lo R p e c h = -1 := by unfold lo; rw [if_neg d, if_neg y, if_neg (show ¬ c + ol R p e - ll R e + 1 ≤ li R (h - tx R p e) by omega)]
          rw [ip_ifT x, ip_P, if_pos e1]
        · have e1 : lo R p e c h ≠ -1 := by
            unfold lo; rw [if_neg d, if_neg y, if_pos (show c + ol R p e - ll R e + 1 ≤ li R (h - tx R p e) by omega)]; split <;> omega
          rw [ip_ifF x, ip_P, if_neg e1]
    · rw [ip_ifF z, ip_P]
      have hz : li R (h - tx R p e) = 0 := by
        unfold li
        rw [if_pos (by omega)]
      have : lo R p e c h = -1 := by
        unfold lo
        rw [if_neg d, hz]
        by_cases y : ol R p e ≤ 0
        · rw [if_pos y, if_neg (show ¬ (1 : Int) ≤ 0 by omega)]
        · have := ll_ol hw h0 he (by omega)
          rw [if_neg y, if_neg (show ¬ c + ol R p e - ll R e + 1 ≤ 0 by omega)]
      rw [if_pos this]
theorem ip_standsOf (hw : WF R) (hR : RunM τ 368 0 R) (hF : FlM R τ) (h0 : 0 ≤ p) (hpe : p ≤ e) (he : e ≤ np R) (hc : 0 ≤ c) (hc2 : c < 10000) (hh : 0 ≤ h) (hh2 : h ≤ 2000) : ip (iz_Model_standsOf 367 p e c h) Q τ ↔ Q (st R p e c h) τ := by
  have a1 := ol_in hw h0 he
  unfold iz_Model_standsOf st
  rw [ip_B, ip_ownOf hw hF h0 hpe he, ip_A]
  refine (and_iff_right ⟨by omega, by omega⟩).trans ?_
  rw [ip_B, ip_P, ip_B]
  by_cases d : ol R p e + c = 0
  · rw [ip_ifF (by omega), ip_P, if_pos d]
    rw [ip_ifP]
  · rw [ip_ifT d, ip_B, ip_roomOf hw hR hF h0 hpe he hh hh2, ip_P, if_neg d]
    rw [ip_ifP]
theorem st_lo (hw : WF R) (h0 : 0 ≤ p) (he : e ≤ np R) (hc : 0 ≤ c) (hh2 : h ≤ 2000) (h1 : lo R p e c h ≠ -1) : ol R p e + c - st R p e c h = lo R p e c h ∧ 0 ≤ st R p e c h := by
  have a1 := ol_in hw h0 he
  have a2 := tx_in hw h0 he
  have a3 := li_in hw.2.1 (room := h - tx R p e) (by omega)
  unfold lo at *
  unfold st
  by_cases d : ol R p e + c = 0
  · rw [if_pos d] at h1 ⊢
    rw [if_pos d]
    by_cases z : h - tx R p e < 0
    · rw [if_pos z] at h1; omega
    · rw [if_neg z, if_pos (by omega)]; omega
  · rw [if_neg d] at h1 ⊢
    rw [if_neg d]
    by_cases y : (if ol R p e ≤ 0 then 1 else c + ol R p e - ll R e + 1) ≤ li R (h - tx R p e)
    · rw [if_pos y] at h1 ⊢
      split <;> split <;> omega
    · rw [if_neg y] at h1; omega
theorem ip_mostInto (hw : WF R) (hR : RunM τ 368 0 R) (hF : FlM R τ) (h0 : 0 ≤ p) (hpe : p ≤ e) (he : e ≤ np R) (hl0 : -1 ≤ lv) (hl9 : lv ≤ 100000) (hh : 0 ≤ h) (hh2 : h ≤ 2000) : ip (iz_Model_mostInto 367 p e lv h) Q τ ↔ Q (mi R p e lv h) τ := by
  have h90 := hw.2.2.2
  have a1 := ol_in hw h0 he
  have a2 := tx_in hw h0 he
  have a3 := li_in hw.2.1 (room := h - tx R p e) (by omega)
  have hs := hw.2.1
  obtain ⟨-, -, -, -, -, h5, h6, -⟩ := hs
  obtain ⟨-, -, A, S, -⟩ := id hF
  have S1 := S e (by omega) he
  have hl := ll_in hw (p := e) (by omega) he
  have hl1 := hl.1
  have hl2 := hl.2.1
  unfold iz_Model_mostInto mi
  rw [ip_B, ip_ownOf hw hF h0 hpe he, ip_B, ip_textOf hw hR hF h0 hpe he, ip_B]
  have key : ∀ (f : Int → iM Int), ip (if ol R p e ≤ 0 then iP 0 else iB (iLd (qm_rf 367 0) 6) fun x4 => iP x4) (fun a τ' => ip (f a) Q τ') τ ↔ ip (f (if ol R p e ≤ 0 then 0 else rs R 6)) Q τ := by
    intro f
    by_cases y : ol R p e ≤ 0
    · rw [ip_ifT y, if_pos y, ip_P]
    · rw [ip_ifF y, if_neg y, ip_B, ip_Ld, m_0, l_368]
      refine (and_iff_right ⟨by omega, by omega⟩).trans ?_
      rw [rm_s hR (k := 6) (by omega) (by omega), ip_P]
  rw [key]
  have hb : 0 ≤ (if ol R p e ≤ 0 then 0 else rs R 6) ∧ (if ol R p e ≤ 0 then 0 else rs R 6) ≤ 9 := by split <;> omega
  rw [ip_A]
  refine (and_iff_right ⟨by omega, by omega⟩).trans ?_
  by_cases z : tx R p e + (if ol R p e ≤ 0 then 0 else rs R 6) ≤ h
  · rw [ip_ifT z, if_neg (show ¬ h < tx R p e + (if ol R p e ≤ 0 then 0 else rs R 6) by omega), ip_B, ip_Ld, m_0, l_368]
    refine (and_iff_right ⟨by omega, by omega⟩).trans ?_
    rw [rm_s hR (k := 6) (by omega) (by omega), ip_B, ip_A]
    refine (and_iff_right ⟨by omega, by omega⟩).trans ?_
    have key2 : ∀ (f : Int → iM Int), ip (if tx R p e + rs R 6 ≤ h then iB (iz_Model_roomOf 367 p e h) fun x7 => iP x7 else iP 0) (fun a τ' => ip (f a) Q τ') τ ↔ ip (f (li R (h - tx R p e))) Q τ := by
      intro f
      by_cases y : tx R p e + rs R 6 ≤ h
      · rw [ip_ifT y, ip_B, ip_roomOf hw hR hF h0 hpe he hh hh2, ip_P]
      · rw [ip_ifF y, ip_P]
        have hz : li R (h - tx R p e) = 0 := by
          unfold li
          rw [if_pos (by omega)]
        rw [hz]
    rw [key2]
    by_cases y : ol R p e = 0
    · rw [ip_ifF (by omega), if_pos y]
      by_cases x : li R (h - tx R p e) < 1
      · rw [ip_ifT x, if_pos x, ip_P]
      · rw [ip_ifF x, if_neg x, ip_A]
        refine (and_iff_right ⟨by omega, by omega⟩).trans ?_
        rw [ip_P]
    · rw [ip_ifT y, if_neg y, ip_B, ip_Ld, m_21, l_386]
      refine (and_iff_right ⟨by omega, by omega⟩).trans ?_
      rw [S1.2.2.2]
      simp only [ip_A, ip_B, ip_P]
      refine (and_iff_right ⟨by omega, by omega⟩).trans ((and_iff_right ⟨by omega, by omega⟩).trans ((and_iff_right ⟨by omega, by omega⟩).trans ((and_iff_right ⟨by omega, by omega⟩).trans ((and_iff_right ⟨by omega, by omega⟩).trans ?_))))
      rw [ip_ifP]
  · rw [ip_ifF z, if_pos (show h < tx R p e + (if ol R p e ≤ 0 then 0 else rs R 6) by omega), ip_P]
theorem ip_endOf (hF : FlM R τ) (hw : WF R) (h0 : 0 ≤ s) (hs : s < ns R) : ip (iz_Model_endOf 367 s) Q τ ↔ Q (bg R (s + 1)) τ := by
  have hns := ns_in hw
  have hn := hw.1.2
  obtain ⟨-, -, -, -, -, B, -⟩ := hF
  unfold iz_Model_endOf
  simp only [ip_B, ip_Ld, ip_A, ip_P, m_14, l_380, B (s + 1) (by omega) (by omega)]
  exact ⟨fun q => q.2.2, fun q => ⟨⟨by omega, by omega⟩, ⟨by omega, by omega⟩, q⟩⟩
theorem en_begin (h0 : 0 ≤ s) (hs : s < ns R) : en R (bg R s) := Or.inl ⟨s, h0, hs, Or.inl rfl⟩
theorem en_finish (h0 : 0 ≤ s) (hs : s < ns R) : en R (bg R (s + 1)) := Or.inl ⟨s, h0, hs, Or.inr rfl⟩
theorem ip_isEnd (hF : FlM R τ) (hw : WF R) (h0 : 0 ≤ s) (hs : s < ns R) (h1 : bg R s ≤ e) (h2 : e ≤ bg R (s + 1)) (hQ : ∀ r, (r = 1 ∧ en R e) ∨ (r = 0 ∧ ¬ en R e) → Q r τ) : ip (iz_Model_isEnd 367 s e) Q τ := by
  have hns := ns_in hw
  have hn := hw.1.2
  have h90 := hw.2.2.2
  have hb := bg_in hw s
  have hb2 := bg_in hw (s + 1)
  obtain ⟨-, -, -, -, E, B, -⟩ := hF
  unfold iz_Model_isEnd
  rw [ip_B, ip_Ld, m_14, l_380]
  refine ⟨⟨by omega, by omega⟩, ?_⟩
  rw [B s (by omega) (by omega)]
  by_cases c : e = bg R s
  · rw [ip_ifT c, ip_P]
    exact hQ 1 (Or.inl ⟨rfl, by rw [c]; exact en_begin h0 hs⟩)
  · rw [ip_ifF c, ip_A]
    refine ⟨⟨by omega, by omega⟩, ?_⟩
    rw [ip_B, ip_Ld, m_12, l_379]
    refine ⟨⟨by omega, by omega⟩, ?_⟩
    have := E (e - 1) (by omega) (by omega)
    rw [show e - 1 + 1 = e by omega] at this
    by_cases d : τ 379 (e - 1) = 0
    · rw [ip_ifT d, ip_P]
      exact hQ 0 (Or.inr ⟨rfl, fun q => this.2.mpr q d⟩)
    · rw [ip_ifF d, ip_P]
      exact hQ 1 (Or.inl ⟨rfl, this.2.mp d⟩)
end
