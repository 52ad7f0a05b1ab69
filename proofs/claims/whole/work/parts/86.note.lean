/-! ===== NOTES ===== -/
/-- the PIECE of a NOTE -/
theorem note_at {R : aRun} {k : Int} (h0 : 0 ≤ k) : ∀ n : Nat, k < nc R n → ∃ p : Int, 0 ≤ p ∧ p < (n : Int) ∧ 0 < pN R p ∧ nc R p = k := by
  intro n
  induction n with
  | zero => intro h; have : nc R ((0 : Nat) : Int) = 0 := rfl; omega
  | succ n ih =>
    intro h
    by_cases c : k < nc R n
    · obtain ⟨p, a, b, d, e⟩ := ih c
      exact ⟨p, a, by omega, d, e⟩
    · rw [show ((n + 1 : Nat) : Int) = (n : Int) + 1 by omega, nc_s (by omega)] at h
      by_cases d : pN R n ≤ 0
      · rw [if_pos d] at h; omega
      · rw [if_neg d] at h
        exact ⟨n, by omega, by omega, by omega, by omega⟩
theorem nc_in {R : aRun} {p : Int} (h0 : 0 ≤ p) : 0 ≤ nc R p ∧ nc R p ≤ p := by
  have := sI_bound (f := fun q => if pN R q ≤ 0 then 0 else 1) (n := p) (lo := 0) (hi := 1) (fun i _ _ => by (try dsimp only); split <;> omega) h0
  unfold nc
  omega
/-- what is left over of a NOTE by its column -/
noncomputable def lft (R : aRun) (p c : Int) : Int := if ol R (p + 1) (cf R c 4) = 0 then cf R c 6 + cf R c 7 - cf R c 8 else 0
noncomputable def cnF (R : aRun) : Nat → Int → Int → Int → Int
  | 0, _, _, m => m
  | n + 1, k, l, m => if l ≤ 0 then m else cnF R n (k + 1) (l - cf R k 8) (if cf R k 8 ≤ 0 then m else m + 1)
theorem cnF_le {R : aRun} {n : Nat} {k l m : Int} (h : l ≤ 0) : cnF R n k l m = m := by
  cases n with
  | zero => rfl
  | succ n => exact if_pos h
section
variable {τ : iMem} {R : aRun}
theorem cf_in (hw : WF R) {i : Int} (h0 : 0 ≤ i) (h1 : i < pcn (pou R).1) : (0 ≤ cf R i 3 ∧ cf R i 3 ≤ cf R i 4 ∧ cf R i 4 ≤ np R) ∧ (0 ≤ cf R i 5 ∧ cf R i 5 ≤ 22000) ∧ (0 ≤ cf R i 6 ∧ cf R i 6 < 20) ∧ (0 ≤ cf R i 7 ∧ cf R i 7 ≤ 1800) ∧ (0 ≤ cf R i 8 ∧ cf R i 8 ≤ 1820) ∧ (0 ≤ cf R i 10 ∧ cf R i 10 ≤ 2000) := by
  obtain ⟨o1, o2, o3, o4, o5, o6, o7, o8, o9⟩ := okC_at hw h0 h1
  have hb := bg_in hw (pC (pou R).1 i 2 + 1)
  have hb2 := bg_in hw (pC (pou R).1 i 2)
  have a1 := tx_in hw (p := pC (pou R).1 i 3) (e := pC (pou R).1 i 4) (by omega) (by omega)
  have a2 := ol_in hw (p := pC (pou R).1 i 3) (e := pC (pou R).1 i 4) (by omega) (by omega)
  have hst := st_lo hw (p := pC (pou R).1 i 3) (e := pC (pou R).1 i 4) (c := pC (pou R).1 i 5) (h := pC (pou R).1 i 7) (by omega) (by omega) o5.1 o6.2 o7
  have a3 := lo_in hw (p := pC (pou R).1 i 3) (e := pC (pou R).1 i 4) (c := pC (pou R).1 i 5) (h := pC (pou R).1 i 7) (by omega) (by omega) o5.1 o5.2 o6.2
  have e8 : cf R i 8 = ol R (pC (pou R).1 i 3) (pC (pou R).1 i 4) + pC (pou R).1 i 5 - lo R (pC (pou R).1 i 3) (pC (pou R).1 i 4) (pC (pou R).1 i 5) (pC (pou R).1 i 7) := rfl
  refine ⟨⟨?_, o4.2.1, ?_⟩, a1, o5, a2, ?_, o6⟩
  · show 0 ≤ pC (pou R).1 i 3; omega
  · show pC (pou R).1 i 4 ≤ np R; omega
  · rw [e8]; omega
theorem ip_leftOfNote {p c : Int} {Q : Int → iMem → Prop} (hw : WF R) (hx : Cx R 70 53 1 τ) (hP : PoC R 52 79 320 240 τ (pou R)) (h0 : 0 ≤ c) (h1 : c < pcn (pou R).1) (p0 : 0 ≤ p) (p1 : p < np R) : ip (iz_Press_leftOfNote 52 p c) Q τ ↔ Q (lft R p c) τ := by
  have h90 := hw.2.2.2
  have hc := cf_in hw h0 h1
  have hff := ft_F (pr_F isPress_52)
  have a := ol_in hw (p := p + 1) (e := cf R c 4) (by omega) hc.1.2.2
  unfold iz_Press_leftOfNote lft
  rw [ip_B, ip_pcell hw hP h0 h1 (by omega) (by omega), ip_A]
  refine (and_iff_right ⟨by omega, by omega⟩).trans ?_
  rw [pr_1 isPress_52, ip_B, ip_ownLines hff hw hx.2.1 (by omega) hc.1.2.2, ip_B, ip_ifP]
  by_cases d : ol R (p + 1) (cf R c 4) = 0
  · rw [if_pos d, if_neg (show ¬ ¬ ol R (p + 1) (cf R c 4) = 0 by omega), ip_ifF (by omega), ip_B, ip_pcell hw hP h0 h1 (by omega) (by omega), ip_B, ip_pcell hw hP h0 h1 (by omega) (by omega), ip_B, ip_pcell hw hP h0 h1 (by omega) (by omega), ip_A, ip_A]
    refine (and_iff_right ⟨by omega, by omega⟩).trans ((and_iff_right ⟨by omega, by omega⟩).trans ?_)
    rw [ip_P]
  · rw [if_neg d, if_pos d, ip_ifT rfl, ip_P]
theorem ip_MlinesAt {p c : Int} {Q : Int → iMem → Prop} (hw : WF R) (hx : Mx R τ) (hP : PoM R τ (pou R)) (h0 : 0 ≤ c) (h1 : c < pcn (pou R).1) (p0 : 0 ≤ p) (hpc : p < cf R c 4) : ip (iz_Model_linesAt 367 p c) Q τ ↔ Q (pN R p - lft R p c) τ := by
  have h90 := hw.2.2.2
  have h240 := pou_240 hw
  have hc := cf_in hw h0 h1
  obtain ⟨m0, m1, m2, m3, m4, m5, m6, m7, m8⟩ := hP.2.1 c h0 h1
  obtain ⟨f1, f2, f3, f4, -⟩ := id hx.2
  have e4 : pC (pou R).1 c 4 = cf R c 4 := rfl
  have e3 : pC (pou R).1 c 3 = cf R c 3 := rfl
  have e6 : pC (pou R).1 c 5 = cf R c 6 := rfl
  have e7 : ol R (cf R c 3) (cf R c 4) = cf R c 7 := rfl
  have S1 := (f4 (cf R c 4) (by omega) hc.1.2.2).2.2.1
  have S2 := (f4 (p + 1) (by omega) (by omega)).2.2.1
  have N := (f3 p p0 (by omega)).2.2.2.2.1
  have hN := pN_in hw p0 (by omega)
  have hiff : (lT R (cf R c 4) = lT R (p + 1)) ↔ (ol R (p + 1) (cf R c 4) = 0) := by
    unfold ol
    by_cases z : cf R c 4 ≤ p + 1
    · rw [if_pos z, show cf R c 4 = p + 1 by omega]; omega
    · rw [if_neg z]; omega
  unfold iz_Model_linesAt lft
  rw [ip_B, ip_Ld, m_27, l_392]
  refine (and_iff_right ⟨by omega, by omega⟩).trans ?_
  rw [m4, e4, ip_B, ip_Ld, m_20, l_385]
  refine (and_iff_right ⟨by omega, by omega⟩).trans ?_
  rw [S1, ip_A]
  refine (and_iff_right ⟨by omega, by omega⟩).trans ?_
  rw [ip_B, ip_Ld, l_385]
  refine (and_iff_right ⟨by omega, by omega⟩).trans ?_
  rw [S2, ip_B, ip_ifP]
  by_cases d : ol R (p + 1) (cf R c 4) = 0
  · have d' := hiff.mpr d
    rw [if_pos d, if_neg (show ¬ ¬ lT R (cf R c 4) = lT R (p + 1) from fun q => q d'), ip_ifF (by omega), ip_B, ip_MlinesIn hw hx hP h0 h1, ip_B, ip_Ld, m_28, l_393]
    refine (and_iff_right ⟨by omega, by omega⟩).trans ?_
    rw [m5, e6, ip_B, ip_Ld, m_26, l_391]
    refine (and_iff_right ⟨by omega, by omega⟩).trans ?_
    rw [m3, e3, ip_B, ip_Ld, l_392]
    refine (and_iff_right ⟨by omega, by omega⟩).trans ?_
    rw [m4, e4, ip_B, ip_ownOf hw hx.2 (by omega) hc.1.2.1 (by omega), e7, ip_B, ip_Ld, m_10, l_377]
    refine (and_iff_right ⟨by omega, by omega⟩).trans ?_
    rw [N, ip_A, ip_A, ip_A]
    refine (and_iff_right ⟨by omega, by omega⟩).trans ((and_iff_right ⟨by omega, by omega⟩).trans ((and_iff_right ⟨by omega, by omega⟩).trans ?_))
    rw [ip_P, show cf R c 8 - cf R c 6 - (cf R c 7 - pN R p) = pN R p - (cf R c 6 + cf R c 7 - cf R c 8) by omega]
  · have d' : ¬ lT R (cf R c 4) = lT R (p + 1) := fun q => d (hiff.mp q)
    rw [if_neg d, if_pos d', ip_ifT rfl, ip_B, ip_Ld, m_10, l_377]
    refine (and_iff_right ⟨by omega, by omega⟩).trans ?_
    rw [N, ip_P, Int.sub_zero]
theorem ip_notes {Q' : Int → iMem → Prop} (hw : WF R) (hF : FlM R τ) (hq : Q' (nc R (np R)) τ) : ip (iz_Model_notes 367) Q' τ := by
  have h90 := hw.2.2.2
  have hnp := np_ge hw
  obtain ⟨f1, f2, f3, f4, -⟩ := id hF
  unfold iz_Model_notes
  rw [ip_B]
  refine ip_mono (Q := fun v τ' => τ' = τ ∧ v = nc R (np R)) ?_ (fun v τ' e => by rw [ip_P, e.1, e.2]; exact hq)
  refine ip_W (fun (q : Int × Int) τ' => τ' = τ ∧ (0 ≤ q.2 ∧ q.2 ≤ np R) ∧ q.1 = nc R q.2) (fun (q : Int × Int) _ => (np R - q.2).toNat) ?_ ⟨rfl, ⟨Int.le_refl _, hnp⟩, rfl⟩
  intro q τ' ⟨et, b1, b2⟩
  obtain ⟨v, i⟩ := q
  subst et
  dsimp only at b1 b2 ⊢
  rw [ip_B, ip_Gt, f1]
  by_cases z1 : np R ≤ i
  · rw [ip_ifT z1, ip_P]
    exact ⟨rfl, by rw [b2, show i = np R by omega]⟩
  · have hi := nc_in (R := R) b1.1
    have hi2 := nc_s (R := R) b1.1
    rw [ip_ifF z1, ip_B, ip_Ld, m_10, l_377]
    refine ⟨⟨by omega, by omega⟩, ?_⟩
    rw [(f3 i b1.1 (by omega)).2.2.2.2.1, ip_B, ip_ifP, ip_A]
    have h01 : 0 ≤ (if pN R i ≤ 0 then (0 : Int) else 1) ∧ (if pN R i ≤ 0 then (0 : Int) else 1) ≤ 1 := by split <;> omega
    refine ⟨⟨by omega, by omega⟩, ?_⟩
    rw [ip_B, ip_P, ip_A]
    refine ⟨⟨by omega, by omega⟩, ?_⟩
    rw [ip_B, ip_P, ip_P]
    simp only [Sum.elim_inl]
    exact ⟨⟨trivial, ⟨by omega, by omega⟩, by omega⟩, by omega⟩
theorem two_note (hI : InvX R τ) (k w : Int) : two R (iz_Top_note 0 k w) (iz_Model_note 367 k w) τ := by
  have hw := hI.1
  have h240 := pou_240 hw
  have h90 := hw.2.2.2
  have hnp := np_ge hw
  have hnc := nc_in (R := R) hnp
  unfold iz_Top_note iz_Model_note
  by_cases cN : 0 ≤ k ∧ k < nc R (np R)
  · obtain ⟨p, p0, p1, p2, p3⟩ := note_at (R := R) cN.1 (np R).toNat (by rw [show (((np R).toNat : Nat) : Int) = np R by omega]; exact cN.2)
    rw [show (((np R).toNat : Nat) : Int) = np R by omega] at p1
    have h64 := nc_lt hw p0 p1 p2
    have hN := pN_in hw p0 p1
    refine two_poured (Fn := fun r => r = if 0 ≤ w ∧ w ≤ 3 then (if w = 0 then p else if w = 1 then pN R p else if cOf R p = -1 then -2 else if w = 2 then pN R p - lft R p (cOf R p) else cnF R (pcn (pou R).1 - (cOf R p + 1)).toNat (cOf R p + 1) (lft R p (cOf R p)) 1) else -1) hI (fun τ1 Q w1 w2 hQ => ?_) (fun τ1 Q w1 w2 hQ => ?_) (fun r r' e e' => e'.trans e.symm)
    · have hQ := hQ _ rfl
      have hff := ft_F (pr_F isPress_52)
      obtain ⟨x1, x2, x3, x4⟩ := id w1
      have A := x2.2.2.1
      rw [pr_1 isPress_52, fl_19 hff, fl_9 hff, ip_B, ip_ifT (by omega), ip_P]
      simp only [Sum.elim_inl]
      rw [ip_ifF (by omega), ip_B, ip_Gt, A.2.2.1, ip_ifF (by omega)]
      by_cases c3 : w < 0
      · rw [if_neg (by omega)] at hQ
        rw [ip_ifT c3, ip_P]; exact hQ
      · rw [ip_ifF c3]
        by_cases c4 : w ≤ 3
        · rw [if_pos (by omega)] at hQ
          have ep := A.2.2.2 p p0 p1 p2
          rw [p3] at ep
          rw [ip_ifT c4, ip_B, ip_at (by omega) (by rw [fl_l16 hff]; omega), ep]
          by_cases d0 : w = 0
          · rw [if_pos d0] at hQ
            rw [ip_ifT d0, ip_P]; exact hQ
          · rw [if_neg d0] at hQ
            rw [ip_ifF d0]
            by_cases d1 : w = 1
            · rw [if_pos d1] at hQ
              rw [ip_ifT d1, ip_B, ip_at (by omega) (by rw [fl_l6 hff]; omega), (A.1 p p0 p1).2.2.2.2.1, ip_P]; exact hQ
            · rw [if_neg d1] at hQ
              rw [ip_ifF d1]
              by_cases d2 : w = 2
              · rw [ip_ifT d2, ip_B]
                unfold iz_Press_linesByMark
                rw [ip_B]
                refine ip_columnOf hw w2 ?_
                by_cases c5 : cOf R p = -1
                · rw [if_pos c5] at hQ
                  rw [ip_ifF (by omega), ip_P, ip_P]; exact hQ
                · rw [if_neg c5, if_pos d2] at hQ
                  obtain ⟨g0, g1, g2, g3⟩ := (cOf_or hw p).resolve_left c5
                  have hc := cf_in hw g0 g1
                  have hl : -4000 ≤ lft R p (cOf R p) ∧ lft R p (cOf R p) ≤ 4000 := by unfold lft; split <;> omega
                  rw [ip_ifT c5, pr_1 isPress_52, fl_9 hff, ip_B, ip_at (by omega) (by rw [fl_l6 hff]; omega), (A.1 p p0 p1).2.2.2.2.1, ip_B, ip_leftOfNote hw w1 w2 g0 g1 p0 p1, ip_A, ip_P, ip_P]
                  exact ⟨⟨by omega, by omega⟩, hQ⟩
              · rw [ip_ifF d2, ip_B]
                unfold iz_Press_columnsOfNote
                rw [ip_B]
                refine ip_columnOf hw w2 ?_
                by_cases c5 : cOf R p = -1
                · rw [if_pos c5] at hQ
                  rw [ip_ifF (by omega), ip_P, ip_P]; exact hQ
                · rw [if_neg c5, if_neg d2] at hQ
                  obtain ⟨g0, g1, g2, g3⟩ := (cOf_or hw p).resolve_left c5
                  have hc := cf_in hw g0 g1
                  have hl : -4000 ≤ lft R p (cOf R p) ∧ lft R p (cOf R p) ≤ 4000 := by unfold lft; split <;> omega
                  rw [ip_ifT c5, ip_B, ip_leftOfNote hw w1 w2 g0 g1 p0 p1, ip_A]
                  refine ⟨⟨by omega, by omega⟩, ?_⟩
                  rw [ip_B, ip_P, ip_B]
                  refine ip_mono (Q := fun v τ' => τ' = τ1 ∧ v = cnF R (pcn (pou R).1 - (cOf R p + 1)).toNat (cOf R p + 1) (lft R p (cOf R p)) 1) ?_ (fun v τ' e => by rw [ip_P, ip_P, e.1, e.2]; exact hQ)
                  refine ip_W (fun (q : Int × (Int × Int)) τ' => τ' = τ1 ∧ (0 ≤ q.2.2 ∧ q.2.2 ≤ pcn (pou R).1) ∧ (0 ≤ q.1 ∧ q.1 ≤ q.2.2) ∧ (-4000 - 2000 * q.2.2 ≤ q.2.1 ∧ q.2.1 ≤ 4000) ∧ cnF R (pcn (pou R).1 - q.2.2).toNat q.2.2 q.2.1 q.1 = cnF R (pcn (pou R).1 - (cOf R p + 1)).toNat (cOf R p + 1) (lft R p (cOf R p)) 1) (fun (q : Int × (Int × Int)) _ => (pcn (pou R).1 - q.2.2).toNat) ?_ ⟨rfl, ⟨by show 0 ≤ cOf R p + 1; omega, by show cOf R p + 1 ≤ _; omega⟩, ⟨by show (0 : Int) ≤ 1; omega, by show 1 ≤ cOf R p + 1; omega⟩, ⟨by show -4000 - 2000 * (cOf R p + 1) ≤ lft R p (cOf R p); omega, hl.2⟩, rfl⟩
                  intro q τ' ⟨et, b1, b2, b3, b4⟩
                  obtain ⟨m, l, i⟩ := q
                  subst et
                  dsimp only at b1 b2 b3 b4 ⊢
                  rw [ip_B, ip_Gt, w2.1.1]
                  by_cases z1 : pcn (pou R).1 ≤ i
                  · rw [ip_ifT z1, ip_P]
                    rw [show (pcn (pou R).1 - i).toNat = 0 by omega] at b4
                    exact ⟨rfl, b4⟩
                  · rw [ip_ifF z1]
                    by_cases z2 : l ≤ 0
                    · rw [ip_ifT z2, ip_P]
                      rw [cnF_le z2] at b4
                      exact ⟨rfl, b4⟩
                    · have hci := cf_in hw (i := i) b1.1 (by omega)
                      have hci8 := hci.2.2.2.2.1
                      rw [show (pcn (pou R).1 - i).toNat = (pcn (pou R).1 - (i + 1)).toNat + 1 by omega] at b4
                      have b4 : (if l ≤ 0 then m else cnF R (pcn (pou R).1 - (i + 1)).toNat (i + 1) (l - cf R i 8) (if cf R i 8 ≤ 0 then m else m + 1)) = _ := b4
                      rw [if_neg z2] at b4
                      rw [ip_ifF z2, ip_B, ip_pcell hw w2 b1.1 (by omega) (by omega) (by omega), ip_B]
                      refine ip_mono (Q := fun v τ2 => τ2 = τ' ∧ v = (if cf R i 8 ≤ 0 then m else m + 1)) ?_ ?_
                      · by_cases z3 : cf R i 8 ≤ 0
                        · rw [ip_ifT z3, ip_P, if_pos z3]; exact ⟨rfl, rfl⟩
                        · rw [ip_ifF z3, ip_A, if_neg z3]
                          refine ⟨⟨by omega, by omega⟩, ?_⟩
                          rw [ip_B, ip_P, ip_P]; exact ⟨rfl, rfl⟩
                      · intro v τ2 ⟨et, ev⟩
                        subst et
                        rw [← ev] at b4
                        have hv : 0 ≤ v ∧ v ≤ i + 1 := by rw [ev]; split <;> omega
                        rw [ip_B, ip_pcell hw w2 b1.1 (by omega) (by omega) (by omega), ip_A]
                        refine ⟨⟨by omega, by omega⟩, ?_⟩
                        rw [ip_B, ip_P, ip_A]
                        refine ⟨⟨by omega, by omega⟩, ?_⟩
                        rw [ip_B, ip_P, ip_P]
                        simp only [Sum.elim_inl]
                        exact ⟨⟨trivial, ⟨by omega, by omega⟩, hv, ⟨by omega, by omega⟩, b4⟩, by omega⟩
        · rw [if_neg (by omega)] at hQ
          rw [ip_ifF c4, ip_P]; exact hQ
    · have hQ := hQ _ rfl
      obtain ⟨f1, f2, f3, f4, -⟩ := id w1.2
      rw [ip_B, ip_ifT (by omega), ip_P]
      simp only [Sum.elim_inl]
      rw [ip_B]
      refine ip_notes hw w1.2 ?_
      rw [ip_A]
      refine ⟨⟨by omega, by omega⟩, ?_⟩
      rw [ip_B, ip_in, if_neg (show ¬ (k < 0 ∨ nc R (np R) - 1 < k) by omega), ip_ifF (by omega), ip_B, ip_in]
      by_cases c2 : w < 0 ∨ 3 < w
      · rw [if_neg (by omega)] at hQ
        rw [if_pos c2, ip_ifF (by omega), ip_P]; exact hQ
      · rw [if_pos (by omega)] at hQ
        rw [if_neg c2, ip_ifT (by omega), ip_B]
        refine ip_mono (Q := fun v τ' => τ' = τ1 ∧ v = p) ?_ ?_
        · unfold iz_Model_noteAt
          refine ip_W (fun (q : Int × Int) τ' => τ' = τ1 ∧ (0 ≤ q.2 ∧ q.2 ≤ p) ∧ q.1 = k - nc R q.2) (fun (q : Int × Int) _ => (p - q.2).toNat) ?_ ⟨rfl, ⟨Int.le_refl _, p0⟩, by show k = k - nc R 0; have : nc R 0 = 0 := rfl; omega⟩
          intro q τ' ⟨et, b1, b2⟩
          obtain ⟨l, i⟩ := q
          subst et
          dsimp only at b1 b2 ⊢
          have N := (f3 i b1.1 (by omega)).2.2.2.2.1
          have hNi := pN_in hw b1.1 (by omega : i < np R)
          have hi := nc_in (R := R) b1.1
          have hi2 := nc_s (R := R) b1.1
          rw [ip_B, ip_Ld, m_10, l_377]
          refine ⟨⟨by omega, by omega⟩, ?_⟩
          rw [N, ip_B]
          have go : i < p → ip (iB (iLd 377 i) fun x4 => iB (α := Int) (if x4 ≤ 0 then iP 0 else iP 1) fun s5 => iA (l - s5) fun y1 => iB (iP y1) fun x6 => iA (i + 1) fun y2 => iB (iP y2) fun x7 => iP (Sum.inl (x6, x7) : (Int × Int) ⊕ Int)) (fun r τ'' => Sum.elim (fun s' => (τ'' = τ' ∧ (0 ≤ s'.2 ∧ s'.2 ≤ p) ∧ s'.1 = k - nc R s'.2) ∧ (p - s'.2).toNat < (p - i).toNat) (fun a => τ'' = τ' ∧ a = p) r) τ' := by
            intro hlt
            rw [ip_B, ip_Ld, l_377]
            refine ⟨⟨by omega, by omega⟩, ?_⟩
            rw [N, ip_B, ip_ifP, ip_A]
            have h01 : 0 ≤ (if pN R i ≤ 0 then (0 : Int) else 1) ∧ (if pN R i ≤ 0 then (0 : Int) else 1) ≤ 1 := by split <;> omega
            refine ⟨⟨by omega, by omega⟩, ?_⟩
            rw [ip_B, ip_P, ip_A]
            refine ⟨⟨by omega, by omega⟩, ?_⟩
            rw [ip_B, ip_P, ip_P]
            simp only [Sum.elim_inl]
            exact ⟨⟨trivial, ⟨by omega, by omega⟩, by omega⟩, by omega⟩
          by_cases z0 : pN R i = 0
          · rw [ip_ifT z0, ip_P]
            simp only [Sum.elim_inl]
            refine go ?_
            by_cases y : i = p
            · rw [y] at z0; omega
            · omega
          · rw [ip_ifF z0]
            by_cases z1 : l ≤ 0
            · rw [ip_ifT z1, ip_P]
              simp only [Sum.elim_inr, ip_P]
              refine ⟨trivial, ?_⟩
              by_cases y : i = p
              · exact y
              · have := nc_mono (R := R) (a := i + 1) (b := p) (by omega) (by omega)
                rw [if_neg (by omega)] at hi2
                omega
            · rw [ip_ifF z1, ip_P]
              simp only [Sum.elim_inl]
              refine go ?_
              by_cases y : i = p
              · rw [y] at b2; omega
              · omega
        · intro v τ' ⟨et, ev⟩
          subst et ev
          by_cases d2 : 2 ≤ w
          · rw [if_neg (by omega), if_neg (by omega)] at hQ
            rw [ip_ifT d2, ip_B]
            refine ip_McolumnOf hw w2 ?_
            by_cases c5 : cOf R v = -1
            · rw [if_pos c5] at hQ
              rw [ip_ifF (by omega), ip_P]; exact hQ
            · rw [if_neg c5] at hQ
              obtain ⟨g0, g1, g2, g3⟩ := (cOf_or hw v).resolve_left c5
              have hc := cf_in hw g0 g1
              have hl : -4000 ≤ lft R v (cOf R v) ∧ lft R v (cOf R v) ≤ 4000 := by unfold lft; split <;> omega
              rw [ip_ifT c5]
              by_cases d3 : w = 2
              · rw [if_pos d3] at hQ
                rw [ip_ifF (by omega), ip_B, ip_MlinesAt hw w1 w2 g0 g1 p0 g3, ip_P]; exact hQ
              · rw [if_neg d3] at hQ
                rw [ip_ifT d3, ip_B]
                unfold iz_Model_columnsOf
                rw [ip_B, ip_Ld, m_10, l_377]
                refine ⟨⟨by omega, by omega⟩, ?_⟩
                rw [(f3 v p0 p1).2.2.2.2.1, ip_B, ip_MlinesAt hw w1 w2 g0 g1 p0 g3, ip_A]
                refine ⟨⟨by omega, by omega⟩, ?_⟩
                rw [show pN R v - (pN R v - lft R v (cOf R v)) = lft R v (cOf R v) by omega, ip_B, ip_P, ip_A]
                refine ⟨⟨by omega, by omega⟩, ?_⟩
                rw [ip_B, ip_P, ip_B]
                refine ip_mono (Q := fun x τ2 => τ2 = τ' ∧ x = cnF R (pcn (pou R).1 - (cOf R v + 1)).toNat (cOf R v + 1) (lft R v (cOf R v)) 1) ?_ (fun x τ2 e => by rw [ip_P, ip_P, e.1, e.2]; exact hQ)
                refine ip_W (fun (q : Int × (Int × Int)) τ2 => τ2 = τ' ∧ (0 ≤ q.2.2 ∧ q.2.2 ≤ pcn (pou R).1) ∧ (0 ≤ q.2.1 ∧ q.2.1 ≤ q.2.2) ∧ (-4000 ≤ q.1 ∧ q.1 ≤ 4000) ∧ cnF R (pcn (pou R).1 - q.2.2).toNat q.2.2 q.1 q.2.1 = cnF R (pcn (pou R).1 - (cOf R v + 1)).toNat (cOf R v + 1) (lft R v (cOf R v)) 1) (fun (q : Int × (Int × Int)) _ => (pcn (pou R).1 - q.2.2).toNat) ?_ ⟨rfl, ⟨by show 0 ≤ cOf R v + 1; omega, by show cOf R v + 1 ≤ _; omega⟩, ⟨by show (0 : Int) ≤ 1; omega, by show 1 ≤ cOf R v + 1; omega⟩, hl, rfl⟩
                intro q τ2 ⟨et, b1, b2, b3, b4⟩
                obtain ⟨l, m, i⟩ := q
                subst et
                dsimp only at b1 b2 b3 b4 ⊢
                rw [ip_B, ip_Gt, w2.1.1]
                by_cases z1 : pcn (pou R).1 ≤ i
                · rw [ip_ifT z1, ip_P]
                  rw [show (pcn (pou R).1 - i).toNat = 0 by omega] at b4
                  exact ⟨rfl, b4⟩
                · rw [ip_ifF z1]
                  by_cases z2 : l ≤ 0
                  · rw [ip_ifT z2, ip_P]
                    rw [cnF_le z2] at b4
                    exact ⟨rfl, b4⟩
                  · have hci := cf_in hw (i := i) b1.1 (by omega)
                    have hci8 := hci.2.2.2.2.1
                    rw [show (pcn (pou R).1 - i).toNat = (pcn (pou R).1 - (i + 1)).toNat + 1 by omega] at b4
                    have b4 : (if l ≤ 0 then m else cnF R (pcn (pou R).1 - (i + 1)).toNat (i + 1) (l - cf R i 8) (if cf R i 8 ≤ 0 then m else m + 1)) = _ := b4
                    rw [if_neg z2] at b4
                    rw [ip_ifF z2, ip_B, ip_MlinesIn hw w1 w2 b1.1 (by omega), ip_B]
                    refine ip_mono (Q := fun x τ3 => τ3 = τ2 ∧ x = (if cf R i 8 ≤ l then cf R i 8 else l)) ?_ ?_
                    · by_cases z3 : cf R i 8 ≤ l
                      · rw [ip_ifT z3, ip_B, ip_MlinesIn hw w1 w2 b1.1 (by omega), ip_P, if_pos z3]; exact ⟨rfl, rfl⟩
                      · rw [ip_ifF z3, ip_P, if_neg z3]; exact ⟨rfl, rfl⟩
                    · intro x τ3 ⟨et, ex⟩
                      subst et
                      have hx : 0 ≤ x ∧ x ≤ l ∧ (x ≤ 0 ↔ cf R i 8 ≤ 0) ∧ (x = cf R i 8 ∨ (x = l ∧ l ≤ cf R i 8)) := by rw [ex]; split <;> omega
                      rw [ip_B, ip_ifP, ip_A]
                      have h01 : 0 ≤ (if x ≤ 0 then (0 : Int) else 1) ∧ (if x ≤ 0 then (0 : Int) else 1) ≤ 1 := by split <;> omega
                      refine ⟨⟨by omega, by omega⟩, ?_⟩
                      rw [ip_B, ip_P, ip_A]
                      refine ⟨⟨by omega, by omega⟩, ?_⟩
                      rw [ip_B, ip_P, ip_A]
                      refine ⟨⟨by omega, by omega⟩, ?_⟩
                      rw [ip_B, ip_P, ip_P]
                      simp only [Sum.elim_inl]
                      have em : m + (if x ≤ 0 then (0 : Int) else 1) = (if cf R i 8 ≤ 0 then m else m + 1) := by
                        by_cases y : cf R i 8 ≤ 0
                        · rw [if_pos y, if_pos (hx.2.2.1.mpr y)]; omega
                        · rw [if_neg y, if_neg (fun q => y (hx.2.2.1.mp q))]
                      refine ⟨⟨trivial, ⟨by omega, by omega⟩, ⟨by omega, by omega⟩, ⟨by omega, by omega⟩, ?_⟩, by omega⟩
                      rw [em]
                      rcases hx.2.2.2 with y | ⟨y1, y2⟩
                      · rw [y]; exact b4
                      · rw [cnF_le (by omega)] at b4 ⊢
                        exact b4
          · rw [ip_ifF d2]
            by_cases d0 : w = 0
            · rw [if_pos d0] at hQ
              rw [ip_ifF (by omega), ip_P]; exact hQ
            · rw [if_neg d0, if_pos (by omega)] at hQ
              rw [ip_ifT d0, ip_B, ip_Ld, m_10, l_377]
              refine ⟨⟨by omega, by omega⟩, ?_⟩
              rw [(f3 v p0 p1).2.2.2.2.1, ip_P]; exact hQ
  · refine two_poured (Fn := fun r => r = if k = -1 ∧ w = 0 then nc R (np R) else -1) hI (fun τ1 Q w1 w2 hQ => ?_) (fun τ1 Q w1 w2 hQ => ?_) (fun r r' e e' => e'.trans e.symm)
    · have hQ := hQ _ rfl
      obtain ⟨x1, x2, x3, x4⟩ := id w1
      have A := x2.2.2.1
      rw [pr_1 isPress_52, ip_B]
      by_cases c0 : k = -1 ∧ w = 0
      · rw [if_pos c0] at hQ
        rw [ip_ifF (by omega), ip_ifF (by omega), ip_B, ip_Gt, A.2.2.1, ip_P]
        simp only [Sum.elim_inr, ip_P]
        exact hQ
      · rw [if_neg c0] at hQ
        have lift : ∀ m : iM Int, ip m Q τ1 → ip (if ¬ k = -1 then iP (Sum.inl ()) else if ¬ w = 0 then iP (Sum.inl ()) else iB (iGt 53 2) fun x3 => iP (Sum.inr x3)) (fun (a : Unit ⊕ Int) τ' => ip (Sum.elim (fun s2 => m) iP a) Q τ') τ1 := by
          intro m hm
          by_cases d1 : k = -1
          · rw [ip_ifF (by omega), ip_ifT (by omega), ip_P]
            simp only [Sum.elim_inl]
            exact hm
          · rw [ip_ifT d1, ip_P]
            simp only [Sum.elim_inl]
            exact hm
        refine lift _ ?_
        by_cases c1 : k < 0
        · rw [ip_ifT c1, ip_P]; exact hQ
        · rw [ip_ifF c1, ip_B, ip_Gt, A.2.2.1, ip_ifT (by omega), ip_P]; exact hQ
    · have hQ := hQ _ rfl
      rw [ip_B]
      by_cases c0 : k = -1 ∧ w = 0
      · rw [if_pos c0] at hQ
        rw [ip_ifF (by omega), ip_ifF (by omega), ip_B]
        refine ip_notes hw w1.2 ?_
        rw [ip_P]
        simp only [Sum.elim_inr, ip_P]
        exact hQ
      · rw [if_neg c0] at hQ
        have lift : ∀ m : iM Int, ip m Q τ1 → ip (if ¬ k = -1 then iP (Sum.inl ()) else if ¬ w = 0 then iP (Sum.inl ()) else iB (iz_Model_notes 367) fun x3 => iP (Sum.inr x3)) (fun (a : Unit ⊕ Int) τ' => ip (Sum.elim (fun s2 => m) iP a) Q τ') τ1 := by
          intro m hm
          by_cases d1 : k = -1
          · rw [ip_ifF (by omega), ip_ifT (by omega), ip_P]
            simp only [Sum.elim_inl]
            exact hm
          · rw [ip_ifT d1, ip_P]
            simp only [Sum.elim_inl]
            exact hm
        refine lift _ ?_
        rw [ip_B]
        refine ip_notes hw w1.2 ?_
        rw [ip_A]
        refine ⟨⟨by omega, by omega⟩, ?_⟩
        rw [ip_B, ip_in, if_pos (show k < 0 ∨ nc R (np R) - 1 < k by omega), ip_ifT rfl, ip_P]
        exact hQ
end
