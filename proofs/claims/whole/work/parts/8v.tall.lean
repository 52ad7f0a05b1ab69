theorem allN_hI {R : aRun} (hw : WF R) : ∀ n : Nat, (n : Int) ≤ ns R → aSt (allN R (ini R) n) = -1 → hI R (allN R (ini R) n).1 ∧ pat (allN R (ini R) n).1 = bg R n := by
  have hS := hw.2.1.1
  have hH' := hw.2.1.2.1
  intro n
  induction n with
  | zero =>
    intro _ _
    refine ⟨?_, bg_0.symm⟩
    show hH R 0 + rs R 0 * rs R 1 ≤ (0 + 1) * (rs R 0 * rs R 1)
    have : hH R 0 = 0 := rfl
    rw [this]
    omega
  | succ n ih =>
    intro hn hst
    have hok := allN_ok hw n (by omega)
    have h0 : (0 : Int) ≤ n := by omega
    have hs : (n : Int) < ns R := by omega
    have hb := bg_step hw (n : Int)
    have hsh := sh_in hw h0 hs
    rw [allN_s] at hst ⊢
    rw [show ((n + 1 : Nat) : Int) = (n : Int) + 1 by omega]
    by_cases c0 : aSt (allN R (ini R) n) ≠ -1
    · rw [if_pos c0] at hst; exact absurd hst c0
    · rw [if_neg c0] at hst ⊢
      have ih := ih (by omega) (by omega)
      generalize allN R (ini R) n = A at *
      have okB : okP R n (atP (bg R n) 0 A.1) := okP_at hw h0 hs hok.1
      have hiB : hI R (atP (bg R n) 0 A.1) := by
        have := ih.1
        unfold hI at *
        rw [ih.2] at this
        exact this
      have key : ∀ B : aA, okP R n B.1 → hI R B.1 → pat B.1 = bg R n → aSt (secA R n B) = -1 → hI R (secA R n B).1 ∧ pat (secA R n B).1 = bg R ((n : Int) + 1) := by
        intro B b1 b2 b3 b4
        unfold secA at b4 ⊢
        by_cases c1 : aSt B ≠ -1 ∨ bg R ((n : Int) + 1) ≤ pat B.1
        · rw [if_pos c1] at b4 ⊢
          exact ⟨b2, by omega⟩
        · rw [if_neg c1] at b4 ⊢
          exact secN_hI hw h0 hs 41 B.1 b1 b2 (by have := b1.2.1; omega) b4
      by_cases c1 : n = 0
      · rw [if_pos c1] at hst ⊢
        exact key _ okB hiB rfl hst
      · rw [if_neg c1] at hst ⊢
        unfold spanA at hst ⊢
        by_cases c2 : (pfr (begA R n A).1 < sh R n + rs R 7 ∧ pfr (begA R n A).1 ≠ rs R 1) ∧ 39 ≤ ppg (begA R n A).1
        · rw [if_pos c2] at hst
          exfalso
          unfold secA at hst
          have e : aSt ((begA R n A).1, pat (begA R n A).1, aSp (begA R n A), aPg (begA R n A), aAb (begA R n A)) = bg R n := rfl
          rw [if_pos (Or.inl (by rw [e]; omega)), e] at hst
          omega
        · rw [if_neg c2] at hst ⊢
          have hP : okP R n (spP R n (begA R n A).1) ∧ hI R (spP R n (begA R n A).1) ∧ pat (spP R n (begA R n A).1) = bg R n := by
            unfold spP
            by_cases c3 : pfr (begA R n A).1 < sh R n + rs R 7 ∧ pfr (begA R n A).1 ≠ rs R 1
            · rw [if_pos c3]
              obtain ⟨m1, m2, m3, m4, m5, m6, m7⟩ := id okB
              have m2' : 0 ≤ ppg A.1 := m2.1
              have m38 : ¬ 39 ≤ ppg A.1 := fun q => c2 ⟨c3, q⟩
              refine ⟨⟨m1, ⟨by show 0 ≤ ppg A.1 + 1; omega, by show ppg A.1 + 1 ≤ 39; omega⟩, ⟨by show 0 ≤ rs R 1; omega, by show rs R 1 ≤ 400; omega⟩, m4, m5, m6, m7⟩, ?_, rfl⟩
              have hi : hH R (bg R n) + rs R 0 * pfr A.1 ≤ (ppg A.1 + 1) * (rs R 0 * rs R 1) := hiB
              have hm : 0 ≤ rs R 0 * pfr A.1 := Int.mul_nonneg (by omega) m3.1
              show hH R (bg R n) + rs R 0 * rs R 1 ≤ (ppg A.1 + 1 + 1) * (rs R 0 * rs R 1)
              rw [Int.add_mul (ppg A.1 + 1) 1, Int.one_mul]
              omega
            · rw [if_neg c3]
              exact ⟨okB, hiB, rfl⟩
          generalize spP R n (begA R n A).1 = P1 at *
          obtain ⟨⟨m1, m2, m3, m4, m5, m6, m7⟩, hi, hp⟩ := hP
          have f0 : 0 ≤ (if 0 < pfr P1 - sh R n then pfr P1 - sh R n else 0) ∧ (if 0 < pfr P1 - sh R n then pfr P1 - sh R n else 0) ≤ pfr P1 := by split <;> omega
          have hm : rs R 0 * (if 0 < pfr P1 - sh R n then pfr P1 - sh R n else 0) ≤ rs R 0 * pfr P1 := Int.mul_le_mul_of_nonneg_left f0.2 (by omega)
          refine key _ ⟨m1, m2, ⟨f0.1, by show (if 0 < pfr P1 - sh R n then pfr P1 - sh R n else 0) ≤ 400; omega⟩, m4, m5, m6, m7⟩ ?_ hp hst
          show hH R (pat P1) + rs R 0 * (if 0 < pfr P1 - sh R n then pfr P1 - sh R n else 0) ≤ (ppg P1 + 1) * (rs R 0 * rs R 1)
          unfold hI at hi
          omega
/-- so many pages hold no more -/
theorem tall_le {R : aRun} (hw : WF R) (h : 0 ≤ ans R) : hH R (np R) ≤ ans R * (rs R 0 * rs R 1) := by
  have hns := ns_in hw
  have hS := hw.2.1.1
  have hH' := hw.2.1.2.1
  have hst := (ans_neg hw).mp h
  have hn0 := ns_0 hw
  have hpos : 0 ≤ rs R 0 * rs R 1 := Int.mul_nonneg (by omega) (by omega)
  by_cases z : ns R = 0
  · have e : np R = 0 := by unfold np; rw [hn0.mp z, fs_0]
    have e2 : hH R 0 = 0 := rfl
    rw [e, e2]
    exact Int.mul_nonneg h hpos
  · have a := allN_hI hw (ns R).toNat (by omega) hst
    rw [show (((ns R).toNat : Nat) : Int) = ns R by omega, bg_ns hw (by have := hw.1.1; omega)] at a
    have a1 : hH R (pat (pou R).1) + rs R 0 * pfr (pou R).1 ≤ (ppg (pou R).1 + 1) * (rs R 0 * rs R 1) := a.1
    have a2 : pat (pou R).1 = np R := a.2
    have ok := (pou_ok hw).1.2.2.1
    have hm : 0 ≤ rs R 0 * pfr (pou R).1 := Int.mul_nonneg (by omega) ok.1
    have ea : ans R = ppg (pou R).1 + 1 := by
      unfold ans
      rw [if_pos hst, if_neg z]
    rw [a2] at a1
    rw [ea]
    omega
section
variable {τ : iMem} {R : aRun}
theorem ip_allHeights {fl ru : Nat} {Q : Int → iMem → Prop} (hff : isFlow fl ru) (hw : WF R) (hB : FlB R fl τ) (hQ : Q (hH R (np R)) τ) : ip (iz_Flow_allHeights fl) Q τ := by
  have h90 := hw.2.2.2
  have hnp := np_ge hw
  unfold iz_Flow_allHeights
  rw [ip_B]
  refine ip_mono (ip_sum (a := 0) (cnt := np R) (B := 209) (g := pH R) hnp (by omega) (by omega) (by omega) (fun i i0 i1 => by have := pH_in hw i0 i1; omega) (fun t => ?_) (fun t i i0 i1 t0 t1 => ?_)) (fun v τ' e => by rw [ip_P, e.1, e.2]; exact hQ)
  · rw [ip_B, ip_Gt, hB.1, ip_ifT (by show np R ≤ np R + 0; omega), ip_P]
    exact ⟨rfl, rfl⟩
  · have hp := pH_in hw i0 i1
    rw [Int.add_zero]
    dsimp only
    rw [ip_B, ip_Gt, hB.1, ip_ifF (by omega), ip_B, fl_7 hff, ip_at i0 (by rw [fl_l4 hff]; omega), (hB.2.2.1.1 i i0 i1).2.2.1, ip_A]
    refine ⟨⟨by omega, by omega⟩, ?_⟩
    rw [ip_B, ip_P, ip_A]
    refine ⟨⟨by omega, by omega⟩, ?_⟩
    rw [ip_B, ip_P, ip_P, Int.add_zero]
    exact ⟨rfl, rfl⟩
end
