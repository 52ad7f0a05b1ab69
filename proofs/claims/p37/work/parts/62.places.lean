/-! ===== where things lie ===== -/
def isRun (o : Nat) : Prop := (qm_rf o 1 = o + 1 ∧ qm_rf o 2 = o + 2) ∧ (iLen (o + 1) = 8 ∧ iLen (o + 2) = 256) ∧ o + 2 < 405
theorem run_1 {o : Nat} (h : isRun o) : qm_rf o 1 = o + 1 := h.1.1
theorem run_2 {o : Nat} (h : isRun o) : qm_rf o 2 = o + 2 := h.1.2
theorem run_l1 {o : Nat} (h : isRun o) : iLen (o + 1) = 8 := h.2.1.1
theorem run_l2 {o : Nat} (h : isRun o) : iLen (o + 2) = 256 := h.2.1.2
theorem run_m {o : Nat} (h : isRun o) : o + 2 < 405 := h.2.2
theorem isRun_1 : isRun 1 := ⟨⟨by decide +kernel, by decide +kernel⟩, ⟨by decide +kernel, by decide +kernel⟩, by decide⟩
theorem isRun_7 : isRun 7 := ⟨⟨by decide +kernel, by decide +kernel⟩, ⟨by decide +kernel, by decide +kernel⟩, by decide⟩
theorem isRun_15 : isRun 15 := ⟨⟨by decide +kernel, by decide +kernel⟩, ⟨by decide +kernel, by decide +kernel⟩, by decide⟩
theorem isRun_18 : isRun 18 := ⟨⟨by decide +kernel, by decide +kernel⟩, ⟨by decide +kernel, by decide +kernel⟩, by decide⟩
theorem isRun_21 : isRun 21 := ⟨⟨by decide +kernel, by decide +kernel⟩, ⟨by decide +kernel, by decide +kernel⟩, by decide⟩
theorem isRun_24 : isRun 24 := ⟨⟨by decide +kernel, by decide +kernel⟩, ⟨by decide +kernel, by decide +kernel⟩, by decide⟩
theorem isRun_27 : isRun 27 := ⟨⟨by decide +kernel, by decide +kernel⟩, ⟨by decide +kernel, by decide +kernel⟩, by decide⟩
theorem isRun_30 : isRun 30 := ⟨⟨by decide +kernel, by decide +kernel⟩, ⟨by decide +kernel, by decide +kernel⟩, by decide⟩
theorem isRun_33 : isRun 33 := ⟨⟨by decide +kernel, by decide +kernel⟩, ⟨by decide +kernel, by decide +kernel⟩, by decide⟩
theorem isRun_36 : isRun 36 := ⟨⟨by decide +kernel, by decide +kernel⟩, ⟨by decide +kernel, by decide +kernel⟩, by decide⟩
theorem isRun_39 : isRun 39 := ⟨⟨by decide +kernel, by decide +kernel⟩, ⟨by decide +kernel, by decide +kernel⟩, by decide⟩
theorem isRun_42 : isRun 42 := ⟨⟨by decide +kernel, by decide +kernel⟩, ⟨by decide +kernel, by decide +kernel⟩, by decide⟩
theorem isRun_46 : isRun 46 := ⟨⟨by decide +kernel, by decide +kernel⟩, ⟨by decide +kernel, by decide +kernel⟩, by decide⟩
theorem isRun_49 : isRun 49 := ⟨⟨by decide +kernel, by decide +kernel⟩, ⟨by decide +kernel, by decide +kernel⟩, by decide⟩
theorem isRun_323 : isRun 323 := ⟨⟨by decide +kernel, by decide +kernel⟩, ⟨by decide +kernel, by decide +kernel⟩, by decide⟩
def isFlow (fl ru : Nat) : Prop := (qm_rf fl 3 = ru ∧ isRun ru ∧ ru + 2 < fl ∧ fl + 16 < 405) ∧ (qm_rf fl 4 = fl + 1 ∧ qm_rf fl 5 = fl + 2 ∧ qm_rf fl 6 = fl + 3 ∧ qm_rf fl 7 = fl + 4 ∧ qm_rf fl 8 = fl + 5 ∧ qm_rf fl 9 = fl + 6 ∧ qm_rf fl 10 = fl + 7 ∧ qm_rf fl 11 = fl + 8 ∧ qm_rf fl 12 = fl + 9 ∧ qm_rf fl 13 = fl + 10 ∧ qm_rf fl 14 = fl + 11 ∧ qm_rf fl 15 = fl + 12 ∧ qm_rf fl 16 = fl + 13 ∧ qm_rf fl 17 = fl + 14 ∧ qm_rf fl 18 = fl + 15 ∧ qm_rf fl 19 = fl + 16) ∧ (iLen (fl + 1) = 16 ∧ iLen (fl + 2) = 91 ∧ iLen (fl + 3) = 91 ∧ iLen (fl + 4) = 91 ∧ iLen (fl + 5) = 91 ∧ iLen (fl + 6) = 91 ∧ iLen (fl + 7) = 91 ∧ iLen (fl + 8) = 91 ∧ iLen (fl + 9) = 91 ∧ iLen (fl + 10) = 91 ∧ iLen (fl + 11) = 91 ∧ iLen (fl + 12) = 91 ∧ iLen (fl + 13) = 17 ∧ iLen (fl + 14) = 17 ∧ iLen (fl + 15) = 17 ∧ iLen (fl + 16) = 64)
theorem fl_3 {fl ru : Nat} (h : isFlow fl ru) : qm_rf fl 3 = ru := h.1.1
theorem fl_r {fl ru : Nat} (h : isFlow fl ru) : isRun ru := h.1.2.1
theorem fl_a {fl ru : Nat} (h : isFlow fl ru) : ru + 2 < fl := h.1.2.2.1
theorem fl_m {fl ru : Nat} (h : isFlow fl ru) : fl + 16 < 405 := h.1.2.2.2
theorem fl_4 {fl ru : Nat} (h : isFlow fl ru) : qm_rf fl 4 = fl + 1 := h.2.1.1
theorem fl_5 {fl ru : Nat} (h : isFlow fl ru) : qm_rf fl 5 = fl + 2 := h.2.1.2.1
theorem fl_6 {fl ru : Nat} (h : isFlow fl ru) : qm_rf fl 6 = fl + 3 := h.2.1.2.2.1
theorem fl_7 {fl ru : Nat} (h : isFlow fl ru) : qm_rf fl 7 = fl + 4 := h.2.1.2.2.2.1
theorem fl_8 {fl ru : Nat} (h : isFlow fl ru) : qm_rf fl 8 = fl + 5 := h.2.1.2.2.2.2.1
theorem fl_9 {fl ru : Nat} (h : isFlow fl ru) : qm_rf fl 9 = fl + 6 := h.2.1.2.2.2.2.2.1
theorem fl_10 {fl ru : Nat} (h : isFlow fl ru) : qm_rf fl 10 = fl + 7 := h.2.1.2.2.2.2.2.2.1
theorem fl_11 {fl ru : Nat} (h : isFlow fl ru) : qm_rf fl 11 = fl + 8 := h.2.1.2.2.2.2.2.2.2.1
theorem fl_12 {fl ru : Nat} (h : isFlow fl ru) : qm_rf fl 12 = fl + 9 := h.2.1.2.2.2.2.2.2.2.2.1
theorem fl_13 {fl ru : Nat} (h : isFlow fl ru) : qm_rf fl 13 = fl + 10 := h.2.1.2.2.2.2.2.2.2.2.2.1
theorem fl_14 {fl ru : Nat} (h : isFlow fl ru) : qm_rf fl 14 = fl + 11 := h.2.1.2.2.2.2.2.2.2.2.2.2.1
theorem fl_15 {fl ru : Nat} (h : isFlow fl ru) : qm_rf fl 15 = fl + 12 := h.2.1.2.2.2.2.2.2.2.2.2.2.2.1
theorem fl_16 {fl ru : Nat} (h : isFlow fl ru) : qm_rf fl 16 = fl + 13 := h.2.1.2.2.2.2.2.2.2.2.2.2.2.2.1
theorem fl_17 {fl ru : Nat} (h : isFlow fl ru) : qm_rf fl 17 = fl + 14 := h.2.1.2.2.2.2.2.2.2.2.2.2.2.2.2.1
theorem fl_18 {fl ru : Nat} (h : isFlow fl ru) : qm_rf fl 18 = fl + 15 := h.2.1.2.2.2.2.2.2.2.2.2.2.2.2.2.2.1
theorem fl_19 {fl ru : Nat} (h : isFlow fl ru) : qm_rf fl 19 = fl + 16 := h.2.1.2.2.2.2.2.2.2.2.2.2.2.2.2.2.2
theorem fl_l1 {fl ru : Nat} (h : isFlow fl ru) : iLen (fl + 1) = 16 := h.2.2.1
theorem fl_l2 {fl ru : Nat} (h : isFlow fl ru) : iLen (fl + 2) = 91 := h.2.2.2.1
theorem fl_l3 {fl ru : Nat} (h : isFlow fl ru) : iLen (fl + 3) = 91 := h.2.2.2.2.1
theorem fl_l4 {fl ru : Nat} (h : isFlow fl ru) : iLen (fl + 4) = 91 := h.2.2.2.2.2.1
theorem fl_l5 {fl ru : Nat} (h : isFlow fl ru) : iLen (fl + 5) = 91 := h.2.2.2.2.2.2.1
theorem fl_l6 {fl ru : Nat} (h : isFlow fl ru) : iLen (fl + 6) = 91 := h.2.2.2.2.2.2.2.1
theorem fl_l7 {fl ru : Nat} (h : isFlow fl ru) : iLen (fl + 7) = 91 := h.2.2.2.2.2.2.2.2.1
theorem fl_l8 {fl ru : Nat} (h : isFlow fl ru) : iLen (fl + 8) = 91 := h.2.2.2.2.2.2.2.2.2.1
theorem fl_l9 {fl ru : Nat} (h : isFlow fl ru) : iLen (fl + 9) = 91 := h.2.2.2.2.2.2.2.2.2.2.1
theorem fl_l10 {fl ru : Nat} (h : isFlow fl ru) : iLen (fl + 10) = 91 := h.2.2.2.2.2.2.2.2.2.2.2.1
theorem fl_l11 {fl ru : Nat} (h : isFlow fl ru) : iLen (fl + 11) = 91 := h.2.2.2.2.2.2.2.2.2.2.2.2.1
theorem fl_l12 {fl ru : Nat} (h : isFlow fl ru) : iLen (fl + 12) = 91 := h.2.2.2.2.2.2.2.2.2.2.2.2.2.1
theorem fl_l13 {fl ru : Nat} (h : isFlow fl ru) : iLen (fl + 13) = 17 := h.2.2.2.2.2.2.2.2.2.2.2.2.2.2.1
theorem fl_l14 {fl ru : Nat} (h : isFlow fl ru) : iLen (fl + 14) = 17 := h.2.2.2.2.2.2.2.2.2.2.2.2.2.2.2.1
theorem fl_l15 {fl ru : Nat} (h : isFlow fl ru) : iLen (fl + 15) = 17 := h.2.2.2.2.2.2.2.2.2.2.2.2.2.2.2.2.1
theorem fl_l16 {fl ru : Nat} (h : isFlow fl ru) : iLen (fl + 16) = 64 := h.2.2.2.2.2.2.2.2.2.2.2.2.2.2.2.2.2
theorem isFlow_53 : isFlow 53 1 := ⟨⟨by decide +kernel, isRun_1, by decide, by decide⟩, ⟨by decide +kernel, by decide +kernel, by decide +kernel, by decide +kernel, by decide +kernel, by decide +kernel, by decide +kernel, by decide +kernel, by decide +kernel, by decide +kernel, by decide +kernel, by decide +kernel, by decide +kernel, by decide +kernel, by decide +kernel, by decide +kernel⟩, ⟨by decide +kernel, by decide +kernel, by decide +kernel, by decide +kernel, by decide +kernel, by decide +kernel, by decide +kernel, by decide +kernel, by decide +kernel, by decide +kernel, by decide +kernel, by decide +kernel, by decide +kernel, by decide +kernel, by decide +kernel, by decide +kernel⟩⟩
theorem isFlow_326 : isFlow 326 323 := ⟨⟨by decide +kernel, isRun_323, by decide, by decide⟩, ⟨by decide +kernel, by decide +kernel, by decide +kernel, by decide +kernel, by decide +kernel, by decide +kernel, by decide +kernel, by decide +kernel, by decide +kernel, by decide +kernel, by decide +kernel, by decide +kernel, by decide +kernel, by decide +kernel, by decide +kernel, by decide +kernel⟩, ⟨by decide +kernel, by decide +kernel, by decide +kernel, by decide +kernel, by decide +kernel, by decide +kernel, by decide +kernel, by decide +kernel, by decide +kernel, by decide +kernel, by decide +kernel, by decide +kernel, by decide +kernel, by decide +kernel, by decide +kernel, by decide +kernel⟩⟩
