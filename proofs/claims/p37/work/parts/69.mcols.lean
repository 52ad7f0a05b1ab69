/-! ===== the other one's columns ===== -/
def st (R : aRun) (p e c h : Int) : Int := if (if ol R p e + c = 0 then 0 else li R (h - tx R p e)) ≤ ol R p e + c then (if ol R p e + c = 0 then 0 else li R (h - tx R p e)) else ol R p e + c
def mi (R : aRun) (p e lv h : Int) : Int :=
  if h < tx R p e + (if ol R p e ≤ 0 then 0 else rs R 6) then -1
  else if ol R p e = 0 then (if li R (h - tx R p e) < 1 then 0 else li R (h - tx R p e) + lv)
  else (if li R (h - tx R p e) - ol R p e + lv ≤ li R (h - tx R p e) - ol R p e + ll R e - 1 then li R (h - tx R p e) - ol R p e + lv else li R (h - tx R p e) - ol R p e + ll R e - 1)
section
variable {τ : iMem} {R : aRun} {p e c h lv s : Int} {Q : Int → iMem → Prop}
theorem st_lo (hw : WF R) (h0 : 0 ≤ p) (he : e ≤ np R) (hc : 0 ≤ c) (hh2 : h ≤ 2000) (h1 : lo R p e c h ≠ -1) : ol R p e + c - st R p e c h = lo R p e c h ∧ 0 ≤ st R p e c h := by
  have a1 := ol_in hw h0 he
  have a2 := tx_in hw h0 he
  have a3 := li_in hw.2.1 (room := h - tx R p e) (by omega)
  unfold lo at *
  unfold st
  by_cases d : ol R p e + c = 0
  · rw [if_pos d] at h1 ⊢
    rw [if_pos d]
    by_cases z : h - tx R p e < 0
    · rw [if_pos z] at h1; omega
    · rw [if_neg z, if_pos (by omega)]; omega
  · rw [if_neg d] at h1 ⊢
    rw [if_neg d]
    by_cases y : (if ol R p e ≤ 0 then 1 else c + ol R p e - ll R e + 1) ≤ li R (h - tx R p e)
    · rw [if_pos y] at h1 ⊢
      split <;> split <;> omega
    · rw [if_neg y] at h1; omega
theorem en_begin (h0 : 0 ≤ s) (hs : s < ns R) : en R (bg R s) := Or.inl ⟨s, h0, hs, Or.inl rfl⟩
theorem en_finish (h0 : 0 ≤ s) (hs : s < ns R) : en R (bg R (s + 1)) := Or.inl ⟨s, h0, hs, Or.inr rfl⟩
end
