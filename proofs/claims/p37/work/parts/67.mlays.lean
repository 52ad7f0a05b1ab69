theorem en_piece {R : aRun} (hw : WF R) {p : Int} (h0 : 0 ≤ p) (hp : p < np R) : en R (p + 1) ↔ (p + 1 = bg R (pS R p + 1) ∨ eb R (ow R p) (nu R p + 1)) := by
  obtain ⟨s1, s2, s3, s4⟩ := pS_in hw h0 hp
  unfold en
  rw [show p + 1 - 1 = p by omega]
  constructor
  · rintro (⟨s, a1, a2, a3⟩ | ⟨-, -, q⟩)
    · refine Or.inl ?_
      have key : ∀ t, p + 1 = bg R t → p + 1 = bg R (pS R p + 1) := by
        intro t e
        by_cases c : t ≤ pS R p
        · have := bg_mono hw c; omega
        · have := bg_mono hw (show pS R p + 1 ≤ t by omega); omega
      rcases a3 with e | e
      · exact key s e
      · exact key (s + 1) e
    · exact Or.inr q
  · rintro (e | q)
    · exact Or.inl ⟨pS R p, s1, s2, Or.inr e⟩
    · exact Or.inr ⟨by omega, by omega, q⟩
