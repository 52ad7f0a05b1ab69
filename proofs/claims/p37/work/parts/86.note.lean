/-! ===== NOTES ===== -/
/-- the PIECE of a NOTE -/
theorem note_at {R : aRun} {k : Int} (h0 : 0 ≤ k) : ∀ n : Nat, k < nc R n → ∃ p : Int, 0 ≤ p ∧ p < (n : Int) ∧ 0 < pN R p ∧ nc R p = k := by
  intro n
  induction n with
  | zero => intro h; have : nc R ((0 : Nat) : Int) = 0 := rfl; omega
  | succ n ih =>
    intro h
    by_cases c : k < nc R n
    · obtain ⟨p, a, b, d, e⟩ := ih c
      exact ⟨p, a, by omega, d, e⟩
    · rw [show ((n + 1 : Nat) : Int) = (n : Int) + 1 by omega, nc_s (by omega)] at h
      by_cases d : pN R n ≤ 0
      · rw [if_pos d] at h; omega
      · rw [if_neg d] at h
        exact ⟨n, by omega, by omega, by omega, by omega⟩
theorem nc_in {R : aRun} {p : Int} (h0 : 0 ≤ p) : 0 ≤ nc R p ∧ nc R p ≤ p := by
  have := sI_bound (f := fun q => if pN R q ≤ 0 then 0 else 1) (n := p) (lo := 0) (hi := 1) (fun i _ _ => by (try dsimp only); split <;> omega) h0
  unfold nc
  omega
/-- what is left over of a NOTE by its column -/
noncomputable def lft (R : aRun) (p c : Int) : Int := if ol R (p + 1) (cf R c 4) = 0 then cf R c 6 + cf R c 7 - cf R c 8 else 0
noncomputable def cnF (R : aRun) : Nat → Int → Int → Int → Int
  | 0, _, _, m => m
  | n + 1, k, l, m => if l ≤ 0 then m else cnF R n (k + 1) (l - cf R k 8) (if cf R k 8 ≤ 0 then m else m + 1)
theorem cnF_le {R : aRun} {n : Nat} {k l m : Int} (h : l ≤ 0) : cnF R n k l m = m := by
  cases n with
  | zero => rfl
  | succ n => exact if_pos h
section
variable {τ : iMem} {R : aRun}
theorem cf_in (hw : WF R) {i : Int} (h0 : 0 ≤ i) (h1 : i < pcn (pou R).1) : (0 ≤ cf R i 3 ∧ cf R i 3 ≤ cf R i 4 ∧ cf R i 4 ≤ np R) ∧ (0 ≤ cf R i 5 ∧ cf R i 5 ≤ 22000) ∧ (0 ≤ cf R i 6 ∧ cf R i 6 < 20) ∧ (0 ≤ cf R i 7 ∧ cf R i 7 ≤ 1800) ∧ (0 ≤ cf R i 8 ∧ cf R i 8 ≤ 1820) ∧ (0 ≤ cf R i 10 ∧ cf R i 10 ≤ 2000) := by
  obtain ⟨o1, o2, o3, o4, o5, o6, o7, o8, o9⟩ := okC_at hw h0 h1
  have hb := bg_in hw (pC (pou R).1 i 2 + 1)
  have hb2 := bg_in hw (pC (pou R).1 i 2)
  have a1 := tx_in hw (p := pC (pou R).1 i 3) (e := pC (pou R).1 i 4) (by omega) (by omega)
  have a2 := ol_in hw (p := pC (pou R).1 i 3) (e := pC (pou R).1 i 4) (by omega) (by omega)
  have hst := st_lo hw (p := pC (pou R).1 i 3) (e := pC (pou R).1 i 4) (c := pC (pou R).1 i 5) (h := pC (pou R).1 i 7) (by omega) (by omega) o5.1 o6.2 o7
  have a3 := lo_in hw (p := pC (pou R).1 i 3) (e := pC (pou R).1 i 4) (c := pC (pou R).1 i 5) (h := pC (pou R).1 i 7) (by omega) (by omega) o5.1 o5.2 o6.2
  have e8 : cf R i 8 = ol R (pC (pou R).1 i 3) (pC (pou R).1 i 4) + pC (pou R).1 i 5 - lo R (pC (pou R).1 i 3) (pC (pou R).1 i 4) (pC (pou R).1 i 5) (pC (pou R).1 i 7) := rfl
  refine ⟨⟨?_, o4.2.1, ?_⟩, a1, o5, a2, ?_, o6⟩
  · show 0 ≤ pC (pou R).1 i 3; omega
  · show pC (pou R).1 i 4 ≤ np R; omega
  · rw [e8]; omega
theorem ip_leftOfNote {p c : Int} {Q : Int → iMem → Prop} (hw : WF R) (hx : Cx R 70 53 1 τ) (hP : PoC R 52 79 320 240 τ (pou R)) (h0 : 0 ≤ c) (h1 : c < pcn (pou R).1) (p0 : 0 ≤ p) (p1 : p < np R) : ip (iz_Press_leftOfNote 52 p c) Q τ ↔ Q (lft R p c) τ := by
  have h90 := hw.2.2.2
  have hc := cf_in hw h0 h1
  have hff := ft_F (pr_F isPress_52)
  have a := ol_in hw (p := p + 1) (e := cf R c 4) (by omega) hc.1.2.2
  unfold iz_Press_leftOfNote lft
  rw [ip_B, ip_pcell hw hP h0 h1 (by omega) (by omega), ip_A]
  refine (and_iff_right ⟨by omega, by omega⟩).trans ?_
  rw [pr_1 isPress_52, ip_B, ip_ownLines hff hw hx.2.1 (by omega) hc.1.2.2, ip_B, ip_ifP]
  by_cases d : ol R (p + 1) (cf R c 4) = 0
  · rw [if_pos d, if_neg (show ¬ ¬ ol R (p + 1) (cf R c 4) = 0 by omega), ip_ifF (by omega), ip_B, ip_pcell hw hP h0 h1 (by omega) (by omega), ip_B, ip_pcell hw hP h0 h1 (by omega) (by omega), ip_B, ip_pcell hw hP h0 h1 (by omega) (by omega), ip_A, ip_A]
    refine (and_iff_right ⟨by omega, by omega⟩).trans ((and_iff_right ⟨by omega, by omega⟩).trans ?_)
    rw [ip_P]
  · rw [if_neg d, if_pos d, ip_ifT rfl, ip_P]
theorem gv_notes (hI : InvX R τ) : gv R (iz_Top_note 0 (-1) 0) (nc R (np R)) τ := by
  unfold iz_Top_note
  refine gv_poured hI (fun τ1 Q w1 w2 hQ => ?_)
  obtain ⟨x1, x2, x3, x4⟩ := id w1
  have A := x2.2.2.1
  rw [pr_1 isPress_52, ip_B, ip_ifF (by omega), ip_ifF (by omega), ip_B, ip_Gt, A.2.2.1, ip_P]
  simp only [Sum.elim_inr, ip_P]
  exact hQ
end
