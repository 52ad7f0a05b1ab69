/-! ===== all SECTIONS, as numbers ===== -/
abbrev aA : Type := aP × Int × Int × (Int → Int) × (Int → Int)
def aSt (A : aA) : Int := A.2.1
def aSp (A : aA) : Int := A.2.2.1
def aPg (A : aA) : Int → Int := A.2.2.2.1
def aAb (A : aA) : Int → Int := A.2.2.2.2
def up (f : Int → Int) (k x : Int) : Int → Int := fun j => if j = k then x else f j
/-- what is free behind a span, on the page where it stands -/
def spP (R : aRun) (s : Int) (P : aP) : aP := if pfr P < sh R s + rs R 7 ∧ pfr P ≠ rs R 1 then pgP R P else P
def spanA (R : aRun) (s : Int) (A : aA) : aA :=
  if (pfr A.1 < sh R s + rs R 7 ∧ pfr A.1 ≠ rs R 1) ∧ 39 ≤ ppg A.1 then (A.1, pat A.1, aSp A, aPg A, aAb A)
  else (frP (if 0 < pfr (spP R s A.1) - sh R s then pfr (spP R s A.1) - sh R s else 0) (spP R s A.1), -1, s, up (aPg A) (s - 1) (ppg (spP R s A.1)), up (aAb A) (s - 1) (rs R 1 - pfr (spP R s A.1)))
def begA (R : aRun) (s : Int) (A : aA) : aA := (atP (bg R s) 0 A.1, aSt A, aSp A, aPg A, aAb A)
noncomputable def secA (R : aRun) (s : Int) (A : aA) : aA := if aSt A ≠ -1 ∨ bg R (s + 1) ≤ pat A.1 then A else ((secN R s 41 A.1).1, (secN R s 41 A.1).2, aSp A, aPg A, aAb A)
noncomputable def allN (R : aRun) (A : aA) : Nat → aA
  | 0 => A
  | n + 1 => if aSt (allN R A n) ≠ -1 then allN R A n else secA R n (if n = 0 then begA R n (allN R A n) else spanA R n (begA R n (allN R A n)))
def ini (R : aRun) : aA := ((0, 0, rs R 1, 0, 0, fun _ _ => 0), -1, 0, fun _ => 0, fun _ => 0)
noncomputable def pou (R : aRun) : aA := allN R (ini R) (ns R).toNat
noncomputable def ans (R : aRun) : Int := if aSt (pou R) = -1 then (if ns R = 0 then 0 else ppg (pou R).1 + 1) else -2 - aSt (pou R)
theorem allN_s {R : aRun} {A : aA} {n : Nat} : allN R A (n + 1) = if aSt (allN R A n) ≠ -1 then allN R A n else secA R n (if n = 0 then begA R n (allN R A n) else spanA R n (begA R n (allN R A n))) := rfl
theorem allN_stay {R : aRun} {A : aA} {n : Nat} (h : aSt (allN R A n) ≠ -1) : ∀ k, allN R A (n + k) = allN R A n := by
  intro k
  induction k with
  | zero => rfl
  | succ k ih => rw [show n + (k + 1) = (n + k) + 1 from rfl, allN_s, ih, if_pos h]
/-- columns that have been put -/
def okD (R : aRun) (P : aP) : Prop := 0 ≤ pcn P ∧ (0 ≤ ppg P ∧ ppg P ≤ 39) ∧ (0 ≤ pfr P ∧ pfr P ≤ 400) ∧ ∀ i, 0 ≤ i → i < pcn P → okC R (pC P) i
theorem okP_D {R : aRun} {s : Int} {P : aP} (h : okP R s P) : okD R P := ⟨h.1, h.2.1, h.2.2.1, h.2.2.2.2.2.2⟩
theorem okP_at {R : aRun} (hw : WF R) {s : Int} {P : aP} (h0 : 0 ≤ s) (hs : s < ns R) (h : okD R P) : okP R s (atP (bg R s) 0 P) := by
  have hb := bg_step hw s
  exact ⟨h.1, h.2.1, h.2.2.1, ⟨Int.le_refl _, hb.2.1⟩, en_begin h0 hs, ⟨Int.le_refl _, by show (0 : Int) < 20; omega⟩, h.2.2.2⟩
theorem secN_ok {R : aRun} (hw : WF R) {s : Int} (h0 : 0 ≤ s) (hs : s < ns R) : ∀ (n : Nat) (P : aP), okP R s P → okP R s (secN R s n P).1 ∧ ppg P ≤ ppg (secN R s n P).1 ∧ pcn P ≤ pcn (secN R s n P).1 ∧ pcn (secN R s n P).1 ≤ pcn P + 5 * (ppg (secN R s n P).1 - ppg P) + 5 ∧ ((secN R s n P).2 = -1 ∨ (0 ≤ (secN R s n P).2 ∧ (secN R s n P).2 ≤ np R)) := by
  have hb := bg_step hw s
  have hS := hw.2.1.1
  have hH := hw.2.1.2.1
  intro n
  induction n with
  | zero => intro P hP; exact ⟨hP, Int.le_refl _, Int.le_refl _, by show pcn P ≤ pcn P + 5 * (ppg P - ppg P) + 5; omega, Or.inl rfl⟩
  | succ n ih =>
    intro P hP
    rw [secN_s]
    have fo := fil_ok hw h0 hs hP
    have fc : pcn P ≤ pcn (fil R s P).1 := by
      unfold fil
      split
      · exact Int.le_refl _
      · exact (filN_ok hw h0 hs hP (rs R 0).toNat (Nat.le_refl _)).2.1
    by_cases c1 : lst R s (pat P) (pca P) (pfr P) ≠ -2
    · rw [if_pos c1]
      obtain ⟨k1, k2, k3, k4, k5, k6, k7⟩ := id hP
      rcases lst_or hw (s := s) (p := pat P) (c := pca P) (top := pfr P) (by omega) k3.1 (by omega) with ⟨z, -⟩ | ⟨z1, z2⟩
      · exact absurd z c1
      · have lo' := lvlN_ok hw h0 hs hP z1.1.1 z1.1.2 z1.2.1 (rs R 0).toNat (Nat.le_refl _)
        obtain ⟨l1, l2, l3, l4, l5⟩ := lo'
        obtain ⟨m1, m2, m3, m4, m5, m6, m7⟩ := l1
        have z11 := z1.1.1
        refine ⟨⟨m1, m2, ⟨?_, ?_⟩, m4, m5, m6, m7⟩, ?_, ?_, ?_, Or.inl rfl⟩
        · show 0 ≤ pfr P - _; omega
        · show pfr P - _ ≤ 400; omega
        · show ppg P ≤ ppg (lvlN R s _ (rs R 0).toNat P); omega
        · show pcn P ≤ pcn (lvlN R s _ (rs R 0).toNat P); omega
        · show pcn (lvlN R s _ (rs R 0).toNat P) ≤ pcn P + 5 * (ppg (lvlN R s _ (rs R 0).toNat P) - ppg P) + 5; omega
    · rw [if_neg c1]
      by_cases c2 : (fil R s P).2 = 0 ∧ pfr P = rs R 1
      · rw [if_pos c2]
        have := hP.2.2.2.1
        exact ⟨hP, Int.le_refl _, Int.le_refl _, by show pcn P ≤ pcn P + 5 * (ppg P - ppg P) + 5; omega, Or.inr ⟨by show 0 ≤ pat P; omega, by show pat P ≤ np R; omega⟩⟩
      · rw [if_neg c2]
        obtain ⟨m1, m2, m3, m4, m5, m6, m7⟩ := fo.1
        by_cases c3 : 39 ≤ ppg P
        · rw [if_pos c3]
          refine ⟨fo.1, by show ppg P ≤ ppg (fil R s P).1; omega, fc, ?_, Or.inr ⟨by show 0 ≤ pat (fil R s P).1; omega, by show pat (fil R s P).1 ≤ np R; omega⟩⟩
          show pcn (fil R s P).1 ≤ pcn P + 5 * (ppg (fil R s P).1 - ppg P) + 5
          omega
        · rw [if_neg c3]
          have hk : okP R s (pgP R (fil R s P).1) := ⟨m1, ⟨by show 0 ≤ ppg (fil R s P).1 + 1; omega, by show ppg (fil R s P).1 + 1 ≤ 39; omega⟩, ⟨by show 0 ≤ rs R 1; omega, by show rs R 1 ≤ 400; omega⟩, m4, m5, m6, m7⟩
          obtain ⟨i1, i2, i3, i4, i5⟩ := ih _ hk
          have e1 : ppg (pgP R (fil R s P).1) = ppg P + 1 := by show ppg (fil R s P).1 + 1 = _; omega
          have e2 : pcn (pgP R (fil R s P).1) = pcn (fil R s P).1 := rfl
          exact ⟨i1, by omega, by omega, by omega, i5⟩
/-- SECTIONS that have PIECES -/
def tS (R : aRun) (s : Int) : Int := sI (fun s => if bg R s < bg R (s + 1) then 1 else 0) s
theorem tS_in {R : aRun} {s : Int} (h : 0 ≤ s) : 0 ≤ tS R s ∧ tS R s ≤ s := by
  have := sI_bound (f := fun s => if bg R s < bg R (s + 1) then 1 else 0) (n := s) (lo := 0) (hi := 1) (fun i _ _ => by (try dsimp only); split <;> omega) h
  unfold tS
  omega
def okA (R : aRun) (n : Int) (A : aA) : Prop := okD R A.1 ∧ (aSt A = -1 ∨ (0 ≤ aSt A ∧ aSt A ≤ np R)) ∧ (0 ≤ aSp A ∧ aSp A ≤ n ∧ aSp A ≤ 16) ∧ pcn A.1 ≤ 5 * ppg A.1 + 5 * tS R n ∧ (aSt A = -1 → 0 < n → aSp A = n - 1) ∧ (0 < n → aSp A < n) ∧ ∀ k, 0 ≤ k → k < aSp A → (0 ≤ aPg A k ∧ aPg A k ≤ ppg A.1) ∧ (-400 ≤ aAb A k ∧ aAb A k ≤ 400)
theorem allN_ok {R : aRun} (hw : WF R) : ∀ n : Nat, (n : Int) ≤ ns R → okA R n (allN R (ini R) n) := by
  have hS := hw.2.1.1
  have hH := hw.2.1.2.1
  have hns := ns_in hw
  have hn16 := hw.1.2
  intro n
  induction n with
  | zero => intro _; exact ⟨⟨Int.le_refl _, ⟨Int.le_refl _, by show (0 : Int) ≤ 39; omega⟩, ⟨by show 0 ≤ rs R 1; omega, by show rs R 1 ≤ 400; omega⟩, fun i h1 h2 => by have h2 : i < 0 := h2; omega⟩, Or.inl rfl, ⟨Int.le_refl _, Int.le_refl _, by show (0 : Int) ≤ 16; omega⟩, Int.le_refl _, fun _ h => by omega, fun h => by omega, fun k h1 h2 => by have h2 : k < 0 := h2; omega⟩
  | succ n ih =>
    intro hn
    have hA := ih (by omega)
    have hb := bg_step hw (n : Int)
    have h0 : (0 : Int) ≤ n := by omega
    have hs : (n : Int) < ns R := by omega
    have ht : tS R ((n : Int) + 1) = tS R n + (if bg R n < bg R (n + 1) then 1 else 0) := sI_s h0
    have htn := tS_in (R := R) h0
    rw [allN_s, show ((n + 1 : Nat) : Int) = (n : Int) + 1 by omega]
    generalize allN R (ini R) n = A at hA
    obtain ⟨a1, a2, a3, a4, a5, a6, a7⟩ := hA
    by_cases c0 : aSt A ≠ -1
    · rw [if_pos c0]
      exact ⟨a1, a2, ⟨a3.1, by omega, a3.2.2⟩, by rw [ht]; split <;> omega, fun z => absurd z c0, fun _ => by omega, a7⟩
    · rw [if_neg c0]
      -- behind the span
      have hB : ∀ B : aA, okP R n B.1 → (aSt B = -1 ∨ (0 ≤ aSt B ∧ aSt B ≤ np R)) → (0 ≤ aSp B ∧ aSp B ≤ n ∧ aSp B ≤ 16) → pcn B.1 ≤ 5 * ppg B.1 + 5 * tS R n → (aSt B = -1 → aSp B = n ∧ pat B.1 = bg R n) → (∀ k, 0 ≤ k → k < aSp B → (0 ≤ aPg B k ∧ aPg B k ≤ ppg B.1) ∧ (-400 ≤ aAb B k ∧ aAb B k ≤ 400)) → okA R ((n : Int) + 1) (secA R n B) := by
        intro B b1 b2 b3 b4 b5 b7
        unfold secA
        by_cases c1 : aSt B ≠ -1 ∨ bg R ((n : Int) + 1) ≤ pat B.1
        · rw [if_pos c1]
          exact ⟨okP_D b1, b2, ⟨b3.1, by omega, b3.2.2⟩, by rw [ht]; split <;> omega, fun z _ => by have := (b5 z).1; omega, fun _ => by omega, b7⟩
        · rw [if_neg c1]
          have hst : aSt B = -1 := by omega
          obtain ⟨e1, e2⟩ := b5 hst
          obtain ⟨i1, i2, i3, i4, i5⟩ := secN_ok hw h0 hs 41 B.1 b1
          refine ⟨okP_D i1, i5, ⟨b3.1, by show aSp B ≤ _; omega, b3.2.2⟩, ?_, fun z _ => by show aSp B = _; omega, fun _ => by show aSp B < _; omega, fun k k0 k1 => ?_⟩
          · show pcn (secN R n 41 B.1).1 ≤ 5 * ppg (secN R n 41 B.1).1 + 5 * tS R ((n : Int) + 1)
            rw [ht, if_pos (by omega)]
            omega
          · have := b7 k k0 k1
            exact ⟨⟨this.1.1, by show aPg B k ≤ ppg (secN R n 41 B.1).1; omega⟩, this.2⟩
      have hbeg : okP R n (atP (bg R n) 0 A.1) := okP_at hw h0 hs a1
      by_cases c1 : n = 0
      · rw [if_pos c1]
        subst c1
        refine hB (begA R 0 A) hbeg a2 ⟨a3.1, a3.2.1, a3.2.2⟩ a4 (fun _ => ⟨by show aSp A = _; omega, rfl⟩) a7
      · rw [if_neg c1]
        have hsp : aSp A = n - 1 := a5 (by omega) (by omega)
        have hsh : 0 ≤ sh R n := by
          unfold sh
          rw [if_neg (by omega)]
          have hsb := sbk_in hw.1.1 (n : Int)
          by_cases z : sbk R n < rn R
          · exact (hw.2.2.1 _ hsb.1 z).2.2.2.2.2.1.1
          · -- no such block: not for a SECTION that is there
            exfalso
            have : sbk R n = rn R := by omega
            have hpos := rn_pos h0 hs
            unfold ns at hs
            rw [if_neg (by omega)] at hs
            have h1 : sI (fun b => if sc R (b + 1) < (n : Int) then (1 : Int) else 0) (rn R) ≤ rn R - 1 := by
              have e := sI_s (f := fun b => if sc R (b + 1) < (n : Int) then (1 : Int) else 0) (n := rn R - 1) (by omega)
              rw [show rn R - 1 + 1 = rn R by omega, if_neg (by omega)] at e
              have := sI_bound (f := fun b => if sc R (b + 1) < (n : Int) then (1 : Int) else 0) (n := rn R - 1) (lo := 0) (hi := 1) (fun i _ _ => by (try dsimp only); split <;> omega) (by omega)
              omega
            unfold sbk at this
            omega
        unfold spanA
        have eb : (begA R n A).1 = atP (bg R n) 0 A.1 := rfl
        rw [eb]
        by_cases c2 : (pfr (atP (bg R n) 0 A.1) < sh R n + rs R 7 ∧ pfr (atP (bg R n) 0 A.1) ≠ rs R 1) ∧ 39 ≤ ppg (atP (bg R n) 0 A.1)
        · rw [if_pos c2]
          refine hB _ hbeg (Or.inr ⟨?_, ?_⟩) ⟨a3.1, a3.2.1, a3.2.2⟩ a4 (fun z => ?_) a7
          · show 0 ≤ bg R n; omega
          · show bg R n ≤ np R; omega
          · have z : bg R n = -1 := z
            omega
        · rw [if_neg c2]
          have hsP : okP R n (spP R n (atP (bg R n) 0 A.1)) ∧ ppg A.1 ≤ ppg (spP R n (atP (bg R n) 0 A.1)) ∧ pcn (spP R n (atP (bg R n) 0 A.1)) = pcn A.1 ∧ pat (spP R n (atP (bg R n) 0 A.1)) = bg R n := by
            unfold spP
            by_cases c3 : pfr (atP (bg R n) 0 A.1) < sh R n + rs R 7 ∧ pfr (atP (bg R n) 0 A.1) ≠ rs R 1
            · rw [if_pos c3]
              obtain ⟨m1, m2, m3, m4, m5, m6, m7⟩ := hbeg
              exact ⟨⟨m1, ⟨by show 0 ≤ ppg A.1 + 1; have : 0 ≤ ppg A.1 := m2.1; omega, by show ppg A.1 + 1 ≤ 39; have : ¬ 39 ≤ ppg A.1 := fun q => c2 ⟨c3, q⟩; omega⟩, ⟨by show 0 ≤ rs R 1; omega, by show rs R 1 ≤ 400; omega⟩, m4, m5, m6, m7⟩, by show ppg A.1 ≤ ppg A.1 + 1; omega, rfl, rfl⟩
            · rw [if_neg c3]
              exact ⟨hbeg, Int.le_refl _, rfl, rfl⟩
          generalize spP R n (atP (bg R n) 0 A.1) = P1 at hsP
          obtain ⟨⟨m1, m2, m3, m4, m5, m6, m7⟩, q1, q2, q3⟩ := hsP
          refine hB _ ⟨m1, m2, ⟨?_, ?_⟩, m4, m5, m6, m7⟩ (Or.inl rfl) ⟨h0, Int.le_refl _, by show (n : Int) ≤ 16; omega⟩ ?_ (fun _ => ⟨rfl, q3⟩) (fun k k0 k1 => ?_)
          · show 0 ≤ (if 0 < pfr P1 - sh R n then pfr P1 - sh R n else 0)
            split <;> omega
          · show (if 0 < pfr P1 - sh R n then pfr P1 - sh R n else 0) ≤ 400
            split <;> omega
          · show pcn P1 ≤ 5 * ppg P1 + 5 * tS R n
            omega
          · show (0 ≤ (if k = (n : Int) - 1 then ppg P1 else aPg A k) ∧ (if k = (n : Int) - 1 then ppg P1 else aPg A k) ≤ ppg P1) ∧ (-400 ≤ (if k = (n : Int) - 1 then rs R 1 - pfr P1 else aAb A k) ∧ (if k = (n : Int) - 1 then rs R 1 - pfr P1 else aAb A k) ≤ 400)
            by_cases z : k = (n : Int) - 1
            · rw [if_pos z, if_pos z]; omega
            · rw [if_neg z, if_neg z]
              have k1 : k < (n : Int) := k1
              have := a7 k k0 (by omega)
              omega
theorem pou_ok {R : aRun} (hw : WF R) : okA R (ns R) (pou R) := by
  have hns := ns_in hw
  have := allN_ok hw (ns R).toNat (by omega)
  rwa [show (((ns R).toNat : Nat) : Int) = ns R by omega] at this
