/-! ===== how many columns ===== -/
/-- another COLUMNS -/
def R0 (R : aRun) (x : Int) : aRun := (R.1, (fun k => if k = 0 then x else R.2.1 k), R.2.2)
theorem R0_rs {R : aRun} {x k : Int} (h : k ≠ 0) : rs (R0 R x) k = rs R k := if_neg h
theorem R0_r0 {R : aRun} {x : Int} : rs (R0 R x) 0 = x := by
  show (if (0 : Int) = 0 then x else R.2.1 0) = x
  exact if_pos rfl
theorem R0_llN {R : aRun} {x : Int} : ∀ n : Nat, llN (R0 R x) n = llN R n := by
  intro n
  induction n with
  | zero => rfl
  | succ n ih =>
    show (if pN (R0 R x) (n : Int) ≤ 0 then llN (R0 R x) n else pN (R0 R x) (n : Int)) = (if pN R (n : Int) ≤ 0 then llN R n else pN R (n : Int))
    rw [ih]
    rfl
theorem R0_li {R : aRun} {x room : Int} : li (R0 R x) room = li R room := by
  unfold li
  rw [R0_rs (by omega), R0_rs (by omega)]
theorem R0_tx {R : aRun} {x p e : Int} : tx (R0 R x) p e = tx R p e := rfl
theorem R0_ol {R : aRun} {x p e : Int} : ol (R0 R x) p e = ol R p e := rfl
theorem R0_ll {R : aRun} {x p : Int} : ll (R0 R x) p = ll R p := R0_llN _
theorem R0_lo {R : aRun} {x p e c h : Int} : lo (R0 R x) p e c h = lo R p e c h := by
  unfold lo
  rw [R0_li, R0_tx, R0_ol, R0_ll]
theorem R0_mi {R : aRun} {x p e lv h : Int} : mi (R0 R x) p e lv h = mi R p e lv h := by
  unfold mi
  rw [R0_li, R0_tx, R0_ol, R0_ll, R0_rs (by omega)]
theorem R0_be {R : aRun} {x s h : Int} : ∀ (k : Nat) (p : Int), be (R0 R x) s h k p = be R s h k p := by
  intro k
  induction k with
  | zero => intro p; rfl
  | succ k ih => 
    intro p
    have e : cand (R0 R x) h (be (R0 R x) s h k) p = cand R h (be R s h k) p := by
      funext e
      unfold cand
      rw [ih e, R0_mi]
      rfl
    rw [be_s, be_s, e]
    rfl
theorem R0_bg {R : aRun} {x s : Int} : bg (R0 R x) s = bg R s := rfl
theorem R0_ns {R : aRun} {x : Int} : ns (R0 R x) = ns R := rfl
theorem R0_wf {R : aRun} {x : Int} (h : WF R) (h0 : 1 ≤ x) (h1 : x ≤ 5) : WF (R0 R x) := by
  obtain ⟨a1, a2, a3, a4⟩ := h
  exact ⟨a1, ⟨⟨h0, h1⟩, a2.2⟩, a3, a4⟩
noncomputable def nrw (R : aRun) (s h : Int) : Int := if 0 ≤ be R s h 1 (bg R s) then 1 else if 0 ≤ be R s h 2 (bg R s) then 2 else if 0 ≤ be R s h 3 (bg R s) then 3 else if 0 ≤ be R s h 4 (bg R s) then 4 else if 0 ≤ be R s h 5 (bg R s) then 5 else -2
theorem nrw_is {R : aRun} {s h i : Int} (i0 : 1 ≤ i) (i1 : i ≤ 5) (hl : ∀ j : Int, 1 ≤ j → j < i → be R s h j.toNat (bg R s) < 0) (hi : 0 ≤ be R s h i.toNat (bg R s)) : nrw R s h = i := by
  have q1 : 1 < i → be R s h 1 (bg R s) < 0 := fun z => hl 1 (by omega) z
  have q2 : 2 < i → be R s h 2 (bg R s) < 0 := fun z => hl 2 (by omega) z
  have q3 : 3 < i → be R s h 3 (bg R s) < 0 := fun z => hl 3 (by omega) z
  have q4 : 4 < i → be R s h 4 (bg R s) < 0 := fun z => hl 4 (by omega) z
  have p1 : i = 1 → 0 ≤ be R s h 1 (bg R s) := fun z => by subst z; exact hi
  have p2 : i = 2 → 0 ≤ be R s h 2 (bg R s) := fun z => by subst z; exact hi
  have p3 : i = 3 → 0 ≤ be R s h 3 (bg R s) := fun z => by subst z; exact hi
  have p4 : i = 4 → 0 ≤ be R s h 4 (bg R s) := fun z => by subst z; exact hi
  have p5 : i = 5 → 0 ≤ be R s h 5 (bg R s) := fun z => by subst z; exact hi
  unfold nrw
  omega
theorem nrw_no {R : aRun} {s h : Int} (hl : ∀ j : Int, 1 ≤ j → j < 6 → be R s h j.toNat (bg R s) < 0) : nrw R s h = -2 := by
  have q1 : be R s h 1 (bg R s) < 0 := hl 1 (by omega) (by omega)
  have q2 : be R s h 2 (bg R s) < 0 := hl 2 (by omega) (by omega)
  have q3 : be R s h 3 (bg R s) < 0 := hl 3 (by omega) (by omega)
  have q4 : be R s h 4 (bg R s) < 0 := hl 4 (by omega) (by omega)
  have q5 : be R s h 5 (bg R s) < 0 := hl 5 (by omega) (by omega)
  unfold nrw
  omega
noncomputable def nrV (R : aRun) (s h : Int) : Int := if (0 ≤ s ∧ s < ns R) ∧ 0 ≤ h ∧ h ≤ 2000 then nrw R s h else -1
section
variable {τ : iMem} {R : aRun}
end
