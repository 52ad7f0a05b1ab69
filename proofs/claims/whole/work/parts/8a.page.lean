section
variable {τ : iMem} {R : aRun}
theorem ip_on {p : Int} {g : Int → Int} {B : Int → Int → iM Int} {Q : Int → iMem → Prop} (hw : WF R) (hP : PoC R 52 79 320 240 τ (pou R)) (hg : ∀ i, 0 ≤ i → i < pcn (pou R).1 → 0 ≤ g i ∧ g i ≤ 100000)
    (hB : ∀ i, 0 ≤ i → i < pcn (pou R).1 → ∀ Q : Int → iMem → Prop, Q (if cf R i 0 = p then g i else 0) τ → ip (B i (cf R i 0)) Q τ) (hQ : Q (on R p g) τ) :
    ip (iB (α := Int) (iW (S := (Int × Int)) (α := Int) (fun s2 => iB (iGt 52 4) fun x3 => if x3 ≤ s2.2 then iP (Sum.inr s2.1) else iB (iz_Press_cell 52 s2.2 0) fun x4 => iB (α := Int) (B s2.2 x4) fun s5 => iA (s2.1 + s5) fun y1 => iB (iP y1) fun x6 => iA (s2.2 + 1) fun y2 => iB (iP y2) fun x7 => iP (Sum.inl (x6, x7))) (0, 0)) fun s1 => iP s1) Q τ := by
  have h240 := pou_240 hw
  rw [ip_B]
  refine ip_mono (ip_sum (a := 0) (cnt := pcn (pou R).1) (B := 100000) (g := fun i => if cf R i 0 = p then g i else 0) h240.1 (by omega) (by omega) (by omega) (fun i i0 i1 => ?_) (fun s => ?_) (fun s i i0 i1 s0 s1 => ?_)) (fun v τ' e => by rw [ip_P, e.1, e.2]; exact hQ)
  · have := hg i i0 i1
    (try dsimp only)
    split <;> omega
  · rw [ip_B, ip_Gt, hP.1.1, ip_ifT (by show pcn (pou R).1 ≤ pcn (pou R).1 + 0; omega), ip_P]
    exact ⟨rfl, rfl⟩
  · have h := hg i i0 i1
    have hh : 0 ≤ (if cf R i 0 = p then g i else 0) ∧ (if cf R i 0 = p then g i else 0) ≤ 100000 := by split <;> omega
    rw [Int.add_zero]
    dsimp only
    rw [ip_B, ip_Gt, hP.1.1, ip_ifF (by show ¬ pcn (pou R).1 ≤ i; omega), ip_B, ip_pcell hw hP i0 i1 (by omega) (by omega), ip_B]
    refine hB i i0 i1 _ ?_
    rw [ip_A]
    refine ⟨⟨by omega, by omega⟩, ?_⟩
    rw [ip_B, ip_P, ip_A]
    refine ⟨⟨by omega, by omega⟩, ?_⟩
    rw [ip_B, ip_P, ip_P]
    exact ⟨rfl, by rw [Int.add_zero]⟩
theorem ip_columnsOn {p : Int} {Q : Int → iMem → Prop} (hw : WF R) (hP : PoC R 52 79 320 240 τ (pou R)) (hQ : Q (on R p (fun _ => 1)) τ) : ip (iz_Press_columnsOn 52 p) Q τ := by
  unfold iz_Press_columnsOn
  refine ip_on (B := fun _ x4 => if ¬ x4 = p then iP 0 else iP 1) (g := fun _ => 1) hw hP (fun _ _ _ => by (try dsimp only); omega) (fun i i0 i1 Q' h' => ?_) hQ
  try dsimp only at h' ⊢
  by_cases c : cf R i 0 = p
  · rw [if_pos c] at h'
    rw [ip_ifF (by omega), ip_P]; exact h'
  · rw [if_neg c] at h'
    rw [ip_ifT c, ip_P]; exact h'
theorem ip_piecesOn {p : Int} {Q : Int → iMem → Prop} (hw : WF R) (hP : PoC R 52 79 320 240 τ (pou R)) (hQ : Q (on R p (fun i => cf R i 4 - cf R i 3)) τ) : ip (iz_Press_piecesOn 52 p) Q τ := by
  have hnp := hw.2.2.2
  unfold iz_Press_piecesOn
  refine ip_on (B := fun i x4 => if ¬ x4 = p then iP 0 else iB (iz_Press_cell 52 i 4) fun x6 => iB (iz_Press_cell 52 i 3) fun x7 => iA (x6 - x7) fun y1 => iP y1) (g := fun i => cf R i 4 - cf R i 3) hw hP (fun i i0 i1 => ?_) (fun i i0 i1 Q' h' => ?_) hQ
  · have hc := cf_in hw i0 i1
    (try dsimp only)
    omega
  · have hc := cf_in hw i0 i1
    try dsimp only at h' ⊢
    by_cases c : cf R i 0 = p
    · rw [if_pos c] at h'
      rw [ip_ifF (by omega), ip_B, ip_pcell hw hP i0 i1 (by omega) (by omega), ip_B, ip_pcell hw hP i0 i1 (by omega) (by omega), ip_A, ip_P]
      exact ⟨⟨by omega, by omega⟩, h'⟩
    · rw [if_neg c] at h'
      rw [ip_ifT c, ip_P]; exact h'
theorem ip_noteLinesOn {p : Int} {Q : Int → iMem → Prop} (hw : WF R) (hP : PoC R 52 79 320 240 τ (pou R)) (hQ : Q (on R p (fun i => cf R i 8)) τ) : ip (iz_Press_noteLinesOn 52 p) Q τ := by
  unfold iz_Press_noteLinesOn
  refine ip_on (B := fun i x4 => if ¬ x4 = p then iP 0 else iB (iz_Press_cell 52 i 8) fun x6 => iP x6) (g := fun i => cf R i 8) hw hP (fun i i0 i1 => ?_) (fun i i0 i1 Q' h' => ?_) hQ
  · have hc := cf_in hw i0 i1
    (try dsimp only)
    omega
  · try dsimp only at h' ⊢
    by_cases c : cf R i 0 = p
    · rw [if_pos c] at h'
      rw [ip_ifF (by omega), ip_B, ip_pcell hw hP i0 i1 (by omega) (by omega), ip_P]
      exact h'
    · rw [if_neg c] at h'
      rw [ip_ifT c, ip_P]; exact h'
theorem ip_sectionsOn {p : Int} {Q : Int → iMem → Prop} (hw : WF R) (hP : PoC R 52 79 320 240 τ (pou R)) (hQ : Q (on R p (fun i => if cf R i 1 = 0 then 1 else 0)) τ) : ip (iz_Press_sectionsOn 52 p) Q τ := by
  unfold iz_Press_sectionsOn
  refine ip_on (B := fun i x4 => iB (α := (Unit ⊕ Int)) (if ¬ x4 = p then iP (Sum.inl ()) else iB (iz_Press_cell 52 i 1) fun x7 => if ¬ x7 = 0 then iP (Sum.inl ()) else iP (Sum.inr 1)) (Sum.elim (fun s6 => iP 0) iP)) (g := fun i => if cf R i 1 = 0 then 1 else 0) hw hP (fun i i0 i1 => ?_) (fun i i0 i1 Q' h' => ?_) hQ
  · (try dsimp only)
    split <;> omega
  · try dsimp only at h' ⊢
    rw [ip_B]
    by_cases c : cf R i 0 = p
    · rw [if_pos c] at h'
      rw [ip_ifF (by omega), ip_B, ip_pcell hw hP i0 i1 (by omega) (by omega)]
      by_cases d : cf R i 1 = 0
      · rw [if_pos d] at h'
        rw [ip_ifF (by omega), ip_P]
        simp only [Sum.elim_inr, ip_P]; exact h'
      · rw [if_neg d] at h'
        rw [ip_ifT d, ip_P]
        simp only [Sum.elim_inl, ip_P]; exact h'
    · rw [if_neg c] at h'
      rw [ip_ifT c, ip_P]
      simp only [Sum.elim_inl, ip_P]; exact h'
theorem ip_spansOn {p : Int} {Q : Int → iMem → Prop} (hw : WF R) (hP : PoC R 52 79 320 240 τ (pou R)) (hQ : Q (spo R p) τ) : ip (iz_Press_spansOn 52 p) Q τ := by
  have hok := pou_ok hw
  have hsp := hok.2.2.1
  unfold iz_Press_spansOn
  rw [ip_B]
  refine ip_mono (ip_sum (a := 0) (cnt := aSp (pou R)) (B := 1) (g := fun i => if aPg (pou R) i = p then 1 else 0) hok.2.2.1.1 (by omega) (by omega) (by omega) (fun i i0 i1 => ?_) (fun s => ?_) (fun s i i0 i1 s0 s1 => ?_)) (fun v τ' e => by rw [ip_P, e.1, e.2]; exact hQ)
  · (try dsimp only)
    split <;> omega
  · rw [ip_B, ip_Gt, hP.2.2.2.1, ip_ifT (by show aSp (pou R) ≤ aSp (pou R) + 0; omega), ip_P]
    exact ⟨rfl, rfl⟩
  · have hk := hP.2.2.2.2 i i0 i1
    have hh : 0 ≤ (if aPg (pou R) i = p then (1 : Int) else 0) ∧ (if aPg (pou R) i = p then (1 : Int) else 0) ≤ 1 := by split <;> omega
    rw [Int.add_zero]
    dsimp only
    rw [ip_B, ip_Gt, hP.2.2.2.1, ip_ifF (by show ¬ aSp (pou R) ≤ i; omega), ip_ifF (by show ¬ 16 ≤ i; omega), ip_B, ip_Ld, pr_11 isPress_52, (pr_ls isPress_52).1, hk.1]
    refine ⟨⟨by omega, by omega⟩, ?_⟩
    rw [ip_B]
    have tail : ip (iA (s + (if aPg (pou R) i = p then (1 : Int) else 0)) fun y1 => iB (iP y1) fun x6 => iA (i + 1) fun y2 => iB (iP y2) fun x7 => iP (Sum.inl (x6, x7) : (Int × Int) ⊕ Int)) (fun r τ' => τ' = τ ∧ r = Sum.inl (s + (if aPg (pou R) i = p then (1 : Int) else 0), i + 1 + 0)) τ := by
      rw [ip_A]
      refine ⟨⟨by omega, by omega⟩, ?_⟩
      rw [ip_B, ip_P, ip_A]
      refine ⟨⟨by omega, by omega⟩, ?_⟩
      rw [ip_B, ip_P, ip_P]
      exact ⟨rfl, by rw [Int.add_zero]⟩
    by_cases c : aPg (pou R) i = p
    · rw [if_pos c] at tail ⊢
      rw [ip_ifF (by omega), ip_P]; exact tail
    · rw [if_neg c] at tail ⊢
      rw [ip_ifT c, ip_P]; exact tail
theorem ip_MspansOn {p : Int} {Q : Int → iMem → Prop} (hw : WF R) (hx : Mx R τ) (hP : PoM R τ (pou R)) (hn : 0 < ns R) (hp : 0 ≤ p) (hQ : Q (spo R p) τ) : ip (iz_Model_spansOn 367 p) Q τ := by
  have hok := pou_ok hw
  have hns := ns_in hw
  have hn16 := hw.1.2
  have hlt := hok.2.2.2.2.2.1 hn
  have hsp0 := hok.2.2.1.1
  have eS : sI (fun i => if (if i + 1 ≤ aSp (pou R) then aPg (pou R) i else -1) = p then (1 : Int) else 0) (ns R - 1) = spo R p := by
    unfold spo
    refine sI_ext hsp0 (by omega) (fun i i0 i1 => ?_) (fun i i0 i1 => ?_)
    · rw [if_pos (show i + 1 ≤ aSp (pou R) by omega)]
    · rw [if_neg (show ¬ i + 1 ≤ aSp (pou R) by omega), if_neg (show ¬ -1 = p by omega)]
  unfold iz_Model_spansOn
  rw [ip_B]
  refine ip_mono (ip_sum (a := 1) (cnt := ns R - 1) (B := 1) (g := fun i => if (if i + 1 ≤ aSp (pou R) then aPg (pou R) i else -1) = p then (1 : Int) else 0) (by omega) (by omega) (by omega) (by omega) (fun i i0 i1 => ?_) (fun s => ?_) (fun s i i0 i1 s0 s1 => ?_)) (fun v τ' e => by rw [ip_P, e.1, e.2, eS]; exact hQ)
  · (try dsimp only)
    split <;> omega
  · rw [ip_B, ip_Gt, hx.2.2.1, ip_ifT (by show ns R ≤ ns R - 1 + 1; omega), ip_P]
    exact ⟨rfl, rfl⟩
  · have hk := (hP.2.2 (i + 1) (by omega) (by omega)).1
    rw [show i + 1 - 1 = i by omega] at hk
    generalize (if i + 1 ≤ aSp (pou R) then aPg (pou R) i else -1) = y at hk
    have hh : 0 ≤ (if y = p then (1 : Int) else 0) ∧ (if y = p then (1 : Int) else 0) ≤ 1 := by split <;> omega
    dsimp only
    rw [ip_B, ip_Gt, hx.2.2.1, ip_ifF (by show ¬ ns R ≤ i + 1; omega), ip_B, ip_Ld, m_38, l_397, hk]
    refine ⟨⟨by omega, by omega⟩, ?_⟩
    rw [ip_B]
    have tail : ip (iA (s + (if y = p then (1 : Int) else 0)) fun y1 => iB (iP y1) fun x6 => iA (i + 1 + 1) fun y2 => iB (iP y2) fun x7 => iP (Sum.inl (x6, x7) : (Int × Int) ⊕ Int)) (fun r τ' => τ' = τ ∧ r = Sum.inl (s + (if y = p then (1 : Int) else 0), i + 1 + 1)) τ := by
      rw [ip_A]
      refine ⟨⟨by omega, by omega⟩, ?_⟩
      rw [ip_B, ip_P, ip_A]
      refine ⟨⟨by omega, by omega⟩, ?_⟩
      rw [ip_B, ip_P, ip_P]
      exact ⟨rfl, rfl⟩
    by_cases c : y = p
    · rw [if_pos c] at tail ⊢
      rw [ip_ifF (by omega), ip_P]; exact tail
    · rw [if_neg c] at tail ⊢
      rw [ip_ifT c, ip_P]; exact tail
theorem ip_MsectionsOn {p : Int} {Q : Int → iMem → Prop} (hw : WF R) (hx : Mx R τ) (hP : PoM R τ (pou R)) (hQ : Q (on R p (fun i => if cf R i 1 = 0 then 1 else 0)) τ) : ip (iz_Model_sectionsOn 367 p) Q τ := by
  have h240 := pou_240 hw
  have hns := ns_in hw
  have hn16 := hw.1.2
  have hg := pou_m (R := R)
  unfold iz_Model_sectionsOn
  rw [ip_B]
  refine ip_mono (Q := fun v τ' => τ' = τ ∧ (0 ≤ v ∧ v < ((2 ^ 18 : Nat) : Int)) ∧ bn v 18 = on R p (fun i => if cf R i 1 = 0 then 1 else 0)) ?_ (fun v τ' e => ?_)
  · refine ip_W (fun (q : Int × Int) τ' => τ' = τ ∧ (0 ≤ q.2 ∧ q.2 ≤ pcn (pou R).1) ∧ (0 ≤ q.1 ∧ q.1 < ((2 ^ 18 : Nat) : Int)) ∧ (∀ j, 0 ≤ j → (bt q.1 j = true ↔ ∃ i, 0 ≤ i ∧ i < q.2 ∧ cf R i 0 = p ∧ cf R i 2 = j)) ∧ bn q.1 18 = sI (fun i => if cf R i 0 = p then (if cf R i 1 = 0 then 1 else 0) else 0) q.2) (fun (q : Int × Int) _ => (pcn (pou R).1 - q.2).toNat) ?_ ⟨rfl, ⟨Int.le_refl _, h240.1⟩, ⟨Int.le_refl _, by decide⟩, fun j _ => ⟨fun z => by rw [bt_0] at z; exact absurd z (by decide), fun ⟨i, i0, i1, _⟩ => by have i1 : i < 0 := i1; omega⟩, ?_⟩
    · intro q τ' ⟨et, b1, b2, b3, b4⟩
      obtain ⟨v, i⟩ := q
      subst et
      dsimp only at b1 b2 b3 b4 ⊢
      rw [ip_B, ip_Gt, hP.1.1]
      by_cases c : pcn (pou R).1 ≤ i
      · rw [ip_ifT c, ip_P]
        refine ⟨rfl, b2, ?_⟩
        rw [b4, show i = pcn (pou R).1 by omega]
        rfl
      · obtain ⟨m0, m1, m2, m3, m4, m5, m6, m7, m8⟩ := hP.2.1 i b1.1 (by omega)
        have e0 : cf R i 0 = pC (pou R).1 i 0 := rfl
        have e1 : cf R i 1 = pC (pou R).1 i 1 := rfl
        have e2 : cf R i 2 = pC (pou R).1 i 2 := rfl
        have ok := (okC_at hw b1.1 (show i < pcn (pou R).1 by omega)).2.2.1
        have hi := hg i b1.1 (by omega)
        have hs : sI (fun i => if cf R i 0 = p then (if cf R i 1 = 0 then (1 : Int) else 0) else 0) (i + 1) = _ := sI_s b1.1
        rw [ip_ifF c, ip_B, ip_Ld, m_23, l_388, m0]
        refine ⟨⟨by omega, by omega⟩, ?_⟩
        rw [ip_B]
        have hp18 : ((2 ^ 18 : Nat) : Int) = 262144 := rfl
        by_cases d : pC (pou R).1 i 0 = p
        · have st := ib_set (x := v) (i := pC (pou R).1 i 2) (n := 18) (by omega) b2.1 b2.2 ok.1 (by omega)
          have sb := bn_set st.2 18
          have key : (bt v (pC (pou R).1 i 2) = false ↔ pC (pou R).1 i 1 = 0) := by
            by_cases z : pC (pou R).1 i 1 = 0
            · refine ⟨fun _ => z, fun _ => ?_⟩
              cases hb : bt v (pC (pou R).1 i 2)
              · rfl
              · obtain ⟨j, j0, j1, j2, j3⟩ := (b3 _ ok.1).mp hb
                exact absurd ⟨Eq.trans (b := p) j2 d.symm, j3⟩ (hi.1 z j j0 j1)
            · obtain ⟨z0, z1, z2⟩ := hi.2 z
              have hb : bt v (pC (pou R).1 i 2) = true := (b3 _ ok.1).mpr ⟨i - 1, by omega, by omega, Eq.trans (b := pC (pou R).1 i 0) z1 d, z2⟩
              exact ⟨fun q => by rw [hb] at q; exact absurd q (by decide), fun q => absurd q z⟩
          rw [ip_ifF (by omega), ip_B, ip_Ld, m_25, l_390, m2]
          refine ⟨⟨by omega, by omega⟩, ?_⟩
          rw [ip_P, ip_B, ip_P, ip_A]
          refine ⟨⟨by omega, by omega⟩, ?_⟩
          rw [ip_B, ip_P, ip_P]
          simp only [Sum.elim_inl]
          refine ⟨⟨trivial, ⟨by omega, by omega⟩, st.1, fun j j0 => ?_, ?_⟩, by omega⟩
          · rw [st.2 j j0, Bool.or_eq_true, b3 j j0]
            refine ⟨fun h => ?_, fun ⟨k, k0, k1, k2, k3⟩ => ?_⟩
            · rcases h with ⟨k, k0, k1, k2, k3⟩ | h
              · exact ⟨k, k0, by omega, k2, k3⟩
              · have h := of_decide_eq_true h
                exact ⟨i, b1.1, by omega, d, h.symm⟩
            · by_cases y : k = i
              · subst y
                exact Or.inr (decide_eq_true k3.symm)
              · exact Or.inl ⟨k, k0, by omega, k2, k3⟩
          · rw [hs, ← b4]
            show bn _ ((18 : Nat) : Int) = _
            rw [sb]
            show bn v 18 + _ = bn v 18 + (if pC (pou R).1 i 0 = p then (if pC (pou R).1 i 1 = 0 then (1 : Int) else 0) else 0)
            rw [if_pos d]
            by_cases z : pC (pou R).1 i 1 = 0
            · rw [if_pos z, if_pos ⟨⟨ok.1, by show pC (pou R).1 i 2 < 18; omega⟩, key.mpr z⟩]
            · rw [if_neg z, if_neg (fun q => z (key.mp q.2))]
        · have ev : ibOr v 0 = v := by
            rw [ib_or b2.1 (by omega) (by omega) (by omega)]
            show ((v.toNat ||| 0 : Nat) : Int) = v
            rw [Nat.or_zero]; omega
          rw [ip_ifT d, ip_P, ip_B, ip_P, ip_A, ev]
          refine ⟨⟨by omega, by omega⟩, ?_⟩
          rw [ip_B, ip_P, ip_P]
          simp only [Sum.elim_inl]
          refine ⟨⟨trivial, ⟨by omega, by omega⟩, b2, fun j j0 => ?_, ?_⟩, by omega⟩
          · rw [b3 j j0]
            refine ⟨fun ⟨k, k0, k1, k2, k3⟩ => ⟨k, k0, by omega, k2, k3⟩, fun ⟨k, k0, k1, k2, k3⟩ => ?_⟩
            by_cases y : k = i
            · subst y; exact absurd k2 d
            · exact ⟨k, k0, by omega, k2, k3⟩
          · rw [hs, ← b4]
            show bn v 18 = bn v 18 + (if pC (pou R).1 i 0 = p then (if pC (pou R).1 i 1 = 0 then (1 : Int) else 0) else 0)
            rw [if_neg d]; omega
    · rw [sI_0]
      exact sI_zero (fun j j0 _ => by (try dsimp only); rw [bt_0, if_neg (by decide)])
  · obtain ⟨e1, e2, e3⟩ := e
    subst e1
    have hp18 : ((2 ^ 18 : Nat) : Int) = 262144 := rfl
    rw [ip_B]
    refine ip_Mbits e2.1 (by omega) ?_
    rw [ip_P, e3]; exact hQ
end
