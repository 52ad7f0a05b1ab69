/-! ===== how many columns ===== -/
/-- another COLUMNS -/
def R0 (R : aRun) (x : Int) : aRun := (R.1, (fun k => if k = 0 then x else R.2.1 k), R.2.2)
theorem R0_rs {R : aRun} {x k : Int} (h : k ≠ 0) : rs (R0 R x) k = rs R k := if_neg h
theorem R0_r0 {R : aRun} {x : Int} : rs (R0 R x) 0 = x := by
  show (if (0 : Int) = 0 then x else R.2.1 0) = x
  exact if_pos rfl
theorem R0_llN {R : aRun} {x : Int} : ∀ n : Nat, llN (R0 R x) n = llN R n := by
  intro n
  induction n with
  | zero => rfl
  | succ n ih =>
    show (if pN (R0 R x) (n : Int) ≤ 0 then llN (R0 R x) n else pN (R0 R x) (n : Int)) = (if pN R (n : Int) ≤ 0 then llN R n else pN R (n : Int))
    rw [ih]
    rfl
theorem R0_li {R : aRun} {x room : Int} : li (R0 R x) room = li R room := by
  unfold li
  rw [R0_rs (by omega), R0_rs (by omega)]
theorem R0_tx {R : aRun} {x p e : Int} : tx (R0 R x) p e = tx R p e := rfl
theorem R0_ol {R : aRun} {x p e : Int} : ol (R0 R x) p e = ol R p e := rfl
theorem R0_ll {R : aRun} {x p : Int} : ll (R0 R x) p = ll R p := R0_llN _
theorem R0_lo {R : aRun} {x p e c h : Int} : lo (R0 R x) p e c h = lo R p e c h := by
  unfold lo
  rw [R0_li, R0_tx, R0_ol, R0_ll]
theorem R0_mi {R : aRun} {x p e lv h : Int} : mi (R0 R x) p e lv h = mi R p e lv h := by
  unfold mi
  rw [R0_li, R0_tx, R0_ol, R0_ll, R0_rs (by omega)]
theorem R0_be {R : aRun} {x s h : Int} : ∀ (k : Nat) (p : Int), be (R0 R x) s h k p = be R s h k p := by
  intro k
  induction k with
  | zero => intro p; rfl
  | succ k ih => 
    intro p
    have e : cand (R0 R x) h (be (R0 R x) s h k) p = cand R h (be R s h k) p := by
      funext e
      unfold cand
      rw [ih e, R0_mi]
      rfl
    rw [be_s, be_s, e]
    rfl
theorem R0_bg {R : aRun} {x s : Int} : bg (R0 R x) s = bg R s := rfl
theorem R0_ns {R : aRun} {x : Int} : ns (R0 R x) = ns R := rfl
theorem R0_Fl {R : aRun} {x : Int} {τ : iMem} (h : FlM R τ) : FlM (R0 R x) τ := by
  obtain ⟨f1, f2, f3, f4, f5, f6, f7, f8⟩ := h
  refine ⟨f1, f2, f3, fun q q0 q1 => ?_, f5, f6, f7, f8⟩
  rw [R0_ll]
  exact f4 q q0 q1
theorem R0_wf {R : aRun} {x : Int} (h : WF R) (h0 : 1 ≤ x) (h1 : x ≤ 5) : WF (R0 R x) := by
  obtain ⟨a1, a2, a3, a4⟩ := h
  exact ⟨a1, ⟨⟨h0, h1⟩, a2.2⟩, a3, a4⟩
theorem R0_rm {R : aRun} {x : Int} {τ : iMem} (h : RunM τ 368 0 R) : RunM (iu τ 368 0 x) 368 0 (R0 R x) := by
  refine ⟨?_, fun k k0 k1 => ?_, fun b w b0 b1 w0 w1 => ?_⟩
  · rw [iu_ne (Or.inr (by omega))]; exact h.1
  · by_cases c : k = 0
    · subst c
      rw [show (0 : Int) + 0 = 0 from rfl, iu_eq]; exact R0_r0.symm
    · rw [iu_ne (Or.inr (by omega)), h.2.1 k k0 k1]; exact (if_neg c).symm
  · have hp : 0 ≤ pw w := by unfold pw; split <;> omega
    rw [iu_ne (Or.inr (by omega))]; exact h.2.2 b w b0 b1 w0 w1
noncomputable def nrw (R : aRun) (s h : Int) : Int := if 0 ≤ be R s h 1 (bg R s) then 1 else if 0 ≤ be R s h 2 (bg R s) then 2 else if 0 ≤ be R s h 3 (bg R s) then 3 else if 0 ≤ be R s h 4 (bg R s) then 4 else if 0 ≤ be R s h 5 (bg R s) then 5 else -2
theorem nrw_is {R : aRun} {s h i : Int} (i0 : 1 ≤ i) (i1 : i ≤ 5) (hl : ∀ j : Int, 1 ≤ j → j < i → be R s h j.toNat (bg R s) < 0) (hi : 0 ≤ be R s h i.toNat (bg R s)) : nrw R s h = i := by
  have q1 : 1 < i → be R s h 1 (bg R s) < 0 := fun z => hl 1 (by omega) z
  have q2 : 2 < i → be R s h 2 (bg R s) < 0 := fun z => hl 2 (by omega) z
  have q3 : 3 < i → be R s h 3 (bg R s) < 0 := fun z => hl 3 (by omega) z
  have q4 : 4 < i → be R s h 4 (bg R s) < 0 := fun z => hl 4 (by omega) z
  have p1 : i = 1 → 0 ≤ be R s h 1 (bg R s) := fun z => by subst z; exact hi
  have p2 : i = 2 → 0 ≤ be R s h 2 (bg R s) := fun z => by subst z; exact hi
  have p3 : i = 3 → 0 ≤ be R s h 3 (bg R s) := fun z => by subst z; exact hi
  have p4 : i = 4 → 0 ≤ be R s h 4 (bg R s) := fun z => by subst z; exact hi
  have p5 : i = 5 → 0 ≤ be R s h 5 (bg R s) := fun z => by subst z; exact hi
  unfold nrw
  omega
theorem nrw_no {R : aRun} {s h : Int} (hl : ∀ j : Int, 1 ≤ j → j < 6 → be R s h j.toNat (bg R s) < 0) : nrw R s h = -2 := by
  have q1 : be R s h 1 (bg R s) < 0 := hl 1 (by omega) (by omega)
  have q2 : be R s h 2 (bg R s) < 0 := hl 2 (by omega) (by omega)
  have q3 : be R s h 3 (bg R s) < 0 := hl 3 (by omega) (by omega)
  have q4 : be R s h 4 (bg R s) < 0 := hl 4 (by omega) (by omega)
  have q5 : be R s h 5 (bg R s) < 0 := hl 5 (by omega) (by omega)
  unfold nrw
  omega
noncomputable def nrV (R : aRun) (s h : Int) : Int := if (0 ≤ s ∧ s < ns R) ∧ 0 ≤ h ∧ h ≤ 2000 then nrw R s h else -1
section
variable {τ : iMem} {R : aRun}
theorem gv_narrow (hI : InvX R τ) (s h : Int) : gv R (iz_Top_narrow 0 s h) (nrV R s h) τ := by
  unfold iz_Top_narrow
  refine gv_asks hI (fun a1 a2 a3 a4 τ1 hX h9 hx => ?_) (fun z => if_neg z)
  have ev : nrV R s h = nrw R s h := if_pos ⟨⟨a1, a2⟩, a3, a4⟩
  unfold gv
  rw [t_6, pr_2 isPress_52, ip_B, ev]
  refine ip_mono (Q := fun v τ2 => (v = Sum.inr (nrw R s h) ∨ (v = Sum.inl () ∧ nrw R s h = -2)) ∧ InvX R τ2 ∧ ∀ a k, ¬ zw a k → τ2 a k = τ1 a k) ?_ (fun v τ2 e => ?_)
  · refine ip_W (fun i τ2 => (1 ≤ i ∧ i ≤ 6) ∧ (∀ j : Int, 1 ≤ j → j < i → be R s h j.toNat (bg R s) < 0) ∧ InvX R τ2 ∧ τ2 0 9 = 1 ∧ ∀ a k, ¬ zw a k → τ2 a k = τ1 a k) (fun i _ => (6 - i).toNat) ?_ ⟨⟨Int.le_refl _, by omega⟩, fun j j0 j1 => by omega, hX, h9, fun _ _ _ => rfl⟩
    intro i τ2 ⟨b1, b2, b3, b4, b5⟩
    have hx2 := b3.2.1.2.2.2.2.2.1 b4
    by_cases c : 5 < i
    · rw [ip_ifT c, ip_P]
      exact ⟨Or.inr ⟨rfl, nrw_no (fun j j0 j1 => b2 j j0 (by omega))⟩, b3, b5⟩
    · rw [ip_ifF c, ip_B]
      refine ip_fitsAll (pr_F isPress_52) hI.1 hx2.2.1 hx2.2.2.1 hx2.2.2.2 a1 a2 a3 a4 (by omega) (by omega) (fun r τ3 hr hF hk => ?_)
      have f1 : InvX R τ3 := b3.fit b4 hF hk
      have f2 : ∀ a k, ¬ zw a k → τ3 a k = τ1 a k := fun a k z => (hk a k (fw_zw z)).trans (b5 a k z)
      have f3 : τ3 0 9 = 1 := (hk 0 9 (by unfold fw; omega)).trans b4
      by_cases d : r = 0
      · rw [ip_ifT d, ip_A]
        refine ⟨⟨by omega, by omega⟩, ?_⟩
        rw [ip_B, ip_P, ip_P]
        simp only [Sum.elim_inl]
        refine ⟨⟨⟨by omega, by omega⟩, fun j j0 j1 => ?_, f1, f3, f2⟩, by omega⟩
        by_cases y : j = i
        · subst y; omega
        · exact b2 j j0 (by omega)
      · rw [ip_ifF d, ip_P]
        exact ⟨Or.inl (by rw [nrw_is b1.1 (by omega) b2 (by omega)]), f1, f2⟩
  · rcases e.1 with q | ⟨q, q2⟩
    · rw [q]
      simp only [Sum.elim_inr, ip_P]
      exact ⟨trivial, e.2⟩
    · rw [q]
      simp only [Sum.elim_inl, ip_P]
      exact ⟨q2.symm, e.2⟩
theorem gv_Mnarrow (hI : InvX R τ) (s h : Int) : gv R (iz_Model_narrow 367 s h) (nrV R s h) τ := by
  have hw := hI.1
  have hb := bg_step hw s
  have hns := ns_in hw
  have hn16 := hw.1.2
  unfold iz_Model_narrow
  refine gv_Masks hI (fun a1 a2 τ1 hX hx => ?_) (fun z => if_neg (fun q => z q.1))
  have e380 := hx.2.2.2.2.2.2.1 s a1 (by omega)
  unfold gv
  rw [ip_B, ip_in]
  by_cases c : h < 0 ∨ 2000 < h
  · have ev : nrV R s h = -1 := if_neg (by omega)
    rw [if_pos c, ip_ifF (by omega), ip_P, ev]; exact ⟨rfl, hX, fun _ _ _ => rfl⟩
  · have ev : nrV R s h = nrw R s h := if_pos ⟨⟨a1, a2⟩, by omega, by omega⟩
    rw [if_neg c, ip_ifT (by omega), ip_B, ip_Ld, m_0, l_368]
    refine ⟨⟨by omega, by omega⟩, ?_⟩
    rw [ip_B, ev]
    refine ip_mono (Q := fun v τ2 => v = nrw R s h ∧ ∀ a k, a ≠ 387 → ¬ (a = 368 ∧ k = 0) → τ2 a k = τ1 a k) ?_ (fun v τ2 e => ?_)
    · refine ip_W (fun (q : Int × Int) τ2 => (1 ≤ q.2 ∧ q.2 ≤ 6) ∧ ((q.1 = -2 ∧ ∀ j : Int, 1 ≤ j → j < q.2 → be R s h j.toNat (bg R s) < 0) ∨ (q.1 ≠ -2 ∧ q.1 = nrw R s h)) ∧ ∀ a k, a ≠ 387 → ¬ (a = 368 ∧ k = 0) → τ2 a k = τ1 a k) (fun (q : Int × Int) _ => (6 - q.2).toNat) ?_ ⟨⟨Int.le_refl _, by show (1 : Int) ≤ 6; omega⟩, Or.inl ⟨rfl, fun j j0 j1 => by have j1 : j < 1 := j1; omega⟩, fun _ _ _ _ => rfl⟩
      intro q τ2 ⟨b1, b2, b3⟩
      obtain ⟨v, i⟩ := q
      dsimp only at b1 b2 ⊢
      by_cases c1 : 5 < i
      · rw [ip_ifT c1, ip_P]
        refine ⟨?_, b3⟩
        rcases b2 with b2 | b2
        · rw [b2.1, nrw_no (fun j j0 j1 => b2.2 j j0 (by omega))]
        · exact b2.2
      · rw [ip_ifF c1]
        by_cases c2 : v = -2
        · have b2 : ∀ j : Int, 1 ≤ j → j < i → be R s h j.toNat (bg R s) < 0 := by
            rcases b2 with b2 | b2
            · exact b2.2
            · exact absurd c2 b2.1
          rw [ip_ifF (by omega), ip_B, ip_St, l_368]
          refine ⟨⟨⟨by omega, by omega⟩, by omega⟩, ?_⟩
          have hm : ∀ a k, a ≠ 387 → iu τ2 368 0 i a k = iu τ1 368 0 i a k := by
            intro a k h1
            by_cases y : a = 368 ∧ k = 0
            · rw [y.1, y.2, iu_eq, iu_eq]
            · rw [iu_ne (by omega), iu_ne (by omega)]
              exact b3 a k h1 y
          have hR' : RunM (iu τ2 368 0 i) 368 0 (R0 R i) := (R0_rm hx.1).frame (fun k => hm _ _ (by omega))
          have hF' : FlM (R0 R i) (iu τ2 368 0 i) := R0_Fl (hx.2.frame (fun a k z => (hm a k (by omega)).trans (iu_ne (by omega))))
          rw [ip_B, ip_Ld, m_14, l_380, hm 380 s (by omega), iu_ne (Or.inl (by omega)), e380]
          refine ⟨⟨by omega, by omega⟩, ?_⟩
          rw [ip_B]
          have hen : en (R0 R i) (bg R s) := en_begin (R := R0 R i) a1 a2
          refine ip_fitsFrom (R := R0 R i) (R0_wf hw b1.1 (by omega)) hR' hF' a1 a2 (Int.le_refl _) hb.2.1 hen (by omega) (by omega) (fun r τ3 hr hf _ => ?_)
          rw [R0_be, R0_r0] at hr
          have f3 : ∀ a k, a ≠ 387 → ¬ (a = 368 ∧ k = 0) → τ3 a k = τ1 a k := fun a k h1 h2 => by rw [hf a k h1, iu_ne (by omega)]; exact b3 a k h1 h2
          rw [ip_B, ip_ifP, ip_A]
          refine ⟨⟨by omega, by omega⟩, ?_⟩
          rw [ip_B, ip_P, ip_P]
          simp only [Sum.elim_inl]
          refine ⟨⟨⟨by omega, by omega⟩, ?_, f3⟩, by omega⟩
          by_cases d : r = 0
          · rw [if_pos d]
            refine Or.inl ⟨rfl, fun j j0 j1 => ?_⟩
            by_cases y : j = i
            · subst y; omega
            · exact b2 j j0 (by omega)
          · rw [if_neg d]
            exact Or.inr ⟨by omega, (nrw_is b1.1 (by omega) b2 (by omega)).symm⟩
        · rw [ip_ifT c2, ip_P]
          refine ⟨?_, b3⟩
          rcases b2 with b2 | b2
          · exact absurd b2.1 c2
          · exact b2.2
    · rw [ip_B, ip_St, l_368]
      refine ⟨⟨⟨by omega, by omega⟩, by omega⟩, ?_⟩
      have hf : ∀ a k, a ≠ 387 → iu τ2 368 0 (τ1 368 0) a k = τ1 a k := by
        intro a k h1
        by_cases y : a = 368 ∧ k = 0
        · rw [y.1, y.2, iu_eq]
        · rw [iu_ne (by omega)]; exact e.2 a k h1 y
      rw [ip_P]
      exact ⟨e.1, hX.n hf, fun a k z => hf a k (zw_387 z)⟩
theorem two_narrow (hI : InvX R τ) (s h : Int) : two R (iz_Top_narrow 0 s h) (iz_Model_narrow 367 s h) τ := gv_two (gv_narrow hI s h) (fun _ q _ => gv_Mnarrow q s h)
end
