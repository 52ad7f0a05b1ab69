/-! ===== the object asked, and what is expected ===== -/
section
variable {β : Type} {Q : β → yW → Prop} {R : aRun} {H : Nat → aRun} {n : Nat} {x : Int} {K : Int → aRun} {f9 : Int → Int} {L : Int} {T : Int → Int} {κ : iMem} {d : yD}
theorem yq_ask {m : iM Int} {v : Int} {xs : List Int} {f : Int → yM β} (hI : cI R H n x K f9 L T κ) (hx : ∀ z ∈ xs, iR z) (hq : ∀ τ, InvX R τ → couX τ n L (f9 0 + 2 * f9 1) → gv R m v τ) (k : ∀ κ1, cI R H n x K f9 L T κ1 → yp (f v) Q (κ1, d)) : yp (yB (yC xs m) f) Q (κ, d) := by
  refine yb_C hx (ip_mono (cI_q hI (hq κ)) (fun r κ1 hr => ?_))
  obtain ⟨rfl, h1⟩ := hr
  exact k κ1 h1
theorem yq_eq {w : yW} {a b : Int} {m1 m2 : yM β} (h : a = b) (hb : iR b) (k : yp m2 Q w) : yp (yB (yR2 a b) fun _ => if ¬ a = b then m1 else m2) Q w :=
  yb_R2 ⟨by rw [h]; exact hb, hb⟩ (yp_ifF (fun z => z h) k)
theorem xs1 {a : Int} (h : iR a) : ∀ z ∈ [a], iR z := fun z hz => by
  simp only [List.mem_cons, List.not_mem_nil, or_false] at hz
  rw [hz]; exact h
theorem xs2 {a b : Int} (h : iR a) (h2 : iR b) : ∀ z ∈ [a, b], iR z := fun z hz => by
  simp only [List.mem_cons, List.not_mem_nil, or_false] at hz
  rcases hz with rfl | rfl
  · exact h
  · exact h2
theorem yq_count {f : Int → yM β} (hI : cI R H n x K f9 L T κ) (k9 : Int) (hk : iR k9) (k : ∀ κ1, cI R H n x K f9 L T κ1 → yp (f (couV R n L (f9 0 + 2 * f9 1) k9)) Q (κ1, d)) : yp (yB (yC ([k9] : List Int) (iz_Top_count 0 k9)) f) Q (κ, d) :=
  yq_ask hI (xs1 hk) (fun τ hi hc => gv_count hi hc k9) k
theorem yq_block {f : Int → yM β} (hI : cI R H n x K f9 L T κ) (b k9 : Int) (hb : iR b) (hk : iR k9) (k : ∀ κ1, cI R H n x K f9 L T κ1 → yp (f (blkV R b k9)) Q (κ1, d)) : yp (yB (yC ([b, k9] : List Int) (iz_Top_block 0 b k9)) f) Q (κ, d) :=
  yq_ask hI (xs2 hb hk) (fun τ hi _ => gv_block hi b k9) k
theorem yq_piece {f : Int → yM β} (hI : cI R H n x K f9 L T κ) (b k9 : Int) (hb : iR b) (hk : iR k9) (k : ∀ κ1, cI R H n x K f9 L T κ1 → yp (f (pieV R b k9)) Q (κ1, d)) : yp (yB (yC ([b, k9] : List Int) (iz_Top_piece 0 b k9)) f) Q (κ, d) :=
  yq_ask hI (xs2 hb hk) (fun τ hi _ => gv_piece hi b k9) k
theorem yq_sect {f : Int → yM β} (hI : cI R H n x K f9 L T κ) (b k9 : Int) (hb : iR b) (hk : iR k9) (k : ∀ κ1, cI R H n x K f9 L T κ1 → yp (f (secV R b k9)) Q (κ1, d)) : yp (yB (yC ([b, k9] : List Int) (iz_Top_section 0 b k9)) f) Q (κ, d) :=
  yq_ask hI (xs2 hb hk) (fun τ hi _ => gv_section hi b k9) k
end
theorem blk_in {R : aRun} {b k : Int} (h : 0 ≤ b ∧ b < rn R) : blkV R b k = if k = 0 then rc R b 0 else if k = 1 then rc R b 1 else if k = 2 then fs R b else if k = 3 then rc R b 2 else if k = 4 then rc R b 3 else if k = 5 then rc R b 4 else if k = 6 then rc R b 5 else if k = 7 then rc R b 6 else if k = 8 then rc R b 7 else -1 := if_pos h
theorem pie_in {R : aRun} {p k : Int} (h : 0 ≤ p ∧ p < np R) : pieV R p k = if k = 0 then ow R p else if k = 1 then nu R p else if k = 2 then pH R p else if k = 3 then pG R p else if k = 4 then pN R p else if k = 5 then enb R (p + 1) else if k = 6 then pS R p else -1 := if_pos h
theorem sec_at {R : aRun} {s k : Int} (h : 0 ≤ s ∧ s < ns R) : secV R s k = if k = 0 then bg R s else if k = 1 then bg R (s + 1) else if k = 2 then sh R s else if k = 3 then esN R s else if k = 4 then ol R (bg R s) (bg R (s + 1)) else -1 := if_pos h
/-- what a PIECE may measure -/
theorem pie_small {R : aRun} (hw : WF R) {p : Int} (h : 0 ≤ p ∧ p < np R) : (0 ≤ pH R p ∧ pH R p ≤ 209) ∧ (0 ≤ pG R p ∧ pG R p ≤ 30) ∧ (0 ≤ pN R p ∧ pN R p ≤ 20) := by
  obtain ⟨o1, o2, o3, o4, -⟩ := ow_in hw h.1 h.2
  have wb := hw.2.2.1 _ o1 o2
  unfold WFb at wb
  refine ⟨?_, ?_, ?_⟩
  · unfold pH; split <;> omega
  · unfold pG; split <;> omega
  · unfold pN nt
    split
    · omega
    · split
      · omega
      · split
        · omega
        · split <;> omega
theorem ol_small {R : aRun} (hw : WF R) {s : Int} : 0 ≤ ol R (bg R s) (bg R (s + 1)) ∧ ol R (bg R s) (bg R (s + 1)) ≤ 2000 := by
  have b1 := bg_in hw s
  have b2 := bg_in hw (s + 1)
  have h90 := hw.2.2.2
  unfold ol
  split
  · omega
  · have e1 := sI_bound (f := pN R) (n := bg R (s + 1)) (lo := 0) (hi := 20) (fun i i0 i1 => (pie_small hw ⟨i0, by omega⟩).2.2) b2.1
    have e2 := sI_mono (f := pN R) (a := bg R s) (b := bg R (s + 1)) b1.1 (by omega) (fun i i0 i1 => (pie_small hw ⟨by omega, by omega⟩).2.2.1)
    have e3 := sI_bound (f := pN R) (n := bg R s) (lo := 0) (hi := 20) (fun i i0 i1 => (pie_small hw ⟨i0, by omega⟩).2.2) b1.1
    unfold lT
    omega
theorem sh_small {R : aRun} (hw : WF R) {s : Int} (h : 0 ≤ s ∧ s < ns R) : 0 ≤ sh R s ∧ sh R s ≤ 200 := by
  unfold sh
  split
  · omega
  · have hk := sbk_in hw.1.1 s
    by_cases e : sbk R s = rn R
    · have hsc := sc_in (R := R) hw.1.1
      exfalso
      unfold ns at h
      split at h
      · omega
      · have : sbk R s < rn R := by
          have hlt : s ≤ sc R (rn R) := by omega
          refine Classical.byContradiction fun z => ?_
          have e1 := sI_bound (f := fun b => if sc R (b + 1) < s then 1 else 0) (n := rn R - 1) (lo := 0) (hi := 1) (fun i _ _ => by (try dsimp only); split <;> omega) (by omega)
          have e2 : sbk R s = sI (fun b => if sc R (b + 1) < s then 1 else 0) (rn R - 1) + (if sc R (rn R - 1 + 1) < s then 1 else 0) := by
            unfold sbk
            have := sI_s (f := fun b => if sc R (b + 1) < s then 1 else 0) (n := rn R - 1) (by omega)
            rw [show rn R - 1 + 1 = rn R by omega] at this ⊢
            exact this
          rw [show rn R - 1 + 1 = rn R by omega, if_neg (by omega)] at e2
          omega
        omega
    · have wb := (hw.2.2.1 (sbk R s) hk.1 (by omega)).2.2.2.2.2.1
      exact wb
