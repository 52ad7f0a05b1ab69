section
variable {τ : iMem} {R : aRun}
theorem ip_on {p : Int} {g : Int → Int} {B : Int → Int → iM Int} {Q : Int → iMem → Prop} (hw : WF R) (hP : PoC R 52 79 320 240 τ (pou R)) (hg : ∀ i, 0 ≤ i → i < pcn (pou R).1 → 0 ≤ g i ∧ g i ≤ 100000)
    (hB : ∀ i, 0 ≤ i → i < pcn (pou R).1 → ∀ Q : Int → iMem → Prop, Q (if cf R i 0 = p then g i else 0) τ → ip (B i (cf R i 0)) Q τ) (hQ : Q (on R p g) τ) :
    ip (iB (α := Int) (iW (S := (Int × Int)) (α := Int) (fun s2 => iB (iGt 52 4) fun x3 => if x3 ≤ s2.2 then iP (Sum.inr s2.1) else iB (iz_Press_cell 52 s2.2 0) fun x4 => iB (α := Int) (B s2.2 x4) fun s5 => iA (s2.1 + s5) fun y1 => iB (iP y1) fun x6 => iA (s2.2 + 1) fun y2 => iB (iP y2) fun x7 => iP (Sum.inl (x6, x7))) (0, 0)) fun s1 => iP s1) Q τ := by
  have h240 := pou_240 hw
  rw [ip_B]
  refine ip_mono (ip_sum (a := 0) (cnt := pcn (pou R).1) (B := 100000) (g := fun i => if cf R i 0 = p then g i else 0) h240.1 (by omega) (by omega) (by omega) (fun i i0 i1 => ?_) (fun s => ?_) (fun s i i0 i1 s0 s1 => ?_)) (fun v τ' e => by rw [ip_P, e.1, e.2]; exact hQ)
  · have := hg i i0 i1
    (try dsimp only)
    split <;> omega
  · rw [ip_B, ip_Gt, hP.1.1, ip_ifT (by show pcn (pou R).1 ≤ pcn (pou R).1 + 0; omega), ip_P]
    exact ⟨rfl, rfl⟩
  · have h := hg i i0 i1
    have hh : 0 ≤ (if cf R i 0 = p then g i else 0) ∧ (if cf R i 0 = p then g i else 0) ≤ 100000 := by split <;> omega
    rw [Int.add_zero]
    dsimp only
    rw [ip_B, ip_Gt, hP.1.1, ip_ifF (by show ¬ pcn (pou R).1 ≤ i; omega), ip_B, ip_pcell hw hP i0 i1 (by omega) (by omega), ip_B]
    refine hB i i0 i1 _ ?_
    rw [ip_A]
    refine ⟨⟨by omega, by omega⟩, ?_⟩
    rw [ip_B, ip_P, ip_A]
    refine ⟨⟨by omega, by omega⟩, ?_⟩
    rw [ip_B, ip_P, ip_P]
    exact ⟨rfl, by rw [Int.add_zero]⟩
end
