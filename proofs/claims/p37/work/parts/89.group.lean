/-! ===== the columns of a SECTION stand together ===== -/
def gP (P : aP) : Prop := ∀ i, 0 ≤ i → i < pcn P → (pC P i 1 = 0 → ∀ j, 0 ≤ j → j < i → ¬ (pC P j 0 = pC P i 0 ∧ pC P j 2 = pC P i 2)) ∧ (pC P i 1 ≠ 0 → 0 < i ∧ pC P (i - 1) 0 = pC P i 0 ∧ pC P (i - 1) 2 = pC P i 2)
def wS (s : Int) (P : aP) : Prop := 0 ≤ pcn P ∧ ∀ j, 0 ≤ j → j < pcn P → pC P j 2 ≤ s ∧ pC P j 0 ≤ ppg P
def mS (s i : Int) (P : aP) : Prop := gP P ∧ wS s P ∧ (i = 0 → ∀ j, 0 ≤ j → j < pcn P → ¬ (pC P j 0 = ppg P ∧ pC P j 2 = s)) ∧ (i ≠ 0 → 0 < pcn P ∧ pC P (pcn P - 1) 0 = ppg P ∧ pC P (pcn P - 1) 2 = s)
theorem putP_m {R : aRun} {s i to h lv : Int} {P : aP} (hm : mS s i P) (h0 : 0 ≤ i) : mS s (i + 1) (putP R s i to h lv P) := by
  obtain ⟨g, w, a, b⟩ := hm
  have en : pcn (putP R s i to h lv P) = pcn P + 1 := rfl
  have ep : ppg (putP R s i to h lv P) = ppg P := rfl
  have old : ∀ j f, j ≠ pcn P → pC (putP R s i to h lv P) j f = pC P j f := fun j f h => if_neg h
  have n0 : pC (putP R s i to h lv P) (pcn P) 0 = ppg P := if_pos rfl
  have n1 : pC (putP R s i to h lv P) (pcn P) 1 = i := if_pos rfl
  have n2 : pC (putP R s i to h lv P) (pcn P) 2 = s := if_pos rfl
  refine ⟨fun j j0 j1 => ?_, ⟨by have := w.1; omega, fun j j0 j1 => ?_⟩, fun z => by omega, fun _ => ?_⟩
  · rw [en] at j1
    by_cases c : j = pcn P
    · subst c
      rw [n0, n1, n2]
      refine ⟨fun z k k0 k1 => ?_, fun z => ?_⟩
      · rw [old _ _ (by omega), old _ _ (by omega)]
        exact a z k k0 k1
      · have hb := b z
        rw [old _ _ (by omega), old _ _ (by omega)]
        exact hb
    · have hg := g j j0 (by omega)
      rw [old j _ c, old j _ c, old j _ c]
      refine ⟨fun z k k0 k1 => ?_, fun z => ?_⟩
      · rw [old _ _ (by omega), old _ _ (by omega)]
        exact hg.1 z k k0 k1
      · rw [old _ _ (by omega), old _ _ (by omega)]
        exact hg.2 z
  · rw [en] at j1
    rw [ep]
    by_cases c : j = pcn P
    · subst c
      rw [n0, n2]
      exact ⟨Int.le_refl _, Int.le_refl _⟩
    · rw [old j _ c, old j _ c]
      exact w.2 j j0 (by omega)
  · rw [en, ep, show pcn P + 1 - 1 = pcn P by omega, n0, n2]
    exact ⟨by have := w.1; omega, rfl, rfl⟩
theorem lvlN_m {R : aRun} {s h : Int} {P : aP} (hm : mS s 0 P) : ∀ i : Nat, mS s i (lvlN R s h i P) := by
  intro i
  induction i with
  | zero => exact hm
  | succ i ih =>
    rw [lvlN_s, show ((i + 1 : Nat) : Int) = (i : Int) + 1 by omega]
    exact putP_m ih (by omega)
theorem filN_m {R : aRun} {s : Int} {P : aP} (hm : mS s 0 P) : ∀ i : Nat, (gP (filN R s i P).1 ∧ wS s (filN R s i P).1) ∧ ((filN R s i P).2.2 ≠ 0 → mS s i (filN R s i P).1) := by
  intro i
  induction i with
  | zero => exact ⟨⟨hm.1, hm.2.1⟩, fun _ => hm⟩
  | succ i ih =>
    rw [filN_s]
    by_cases c1 : (filN R s i P).2.2 = 0
    · rw [if_pos c1]
      exact ⟨ih.1, fun z => absurd c1 z⟩
    · rw [if_neg c1]
      by_cases c2 : lateF R s (pat (filN R s i P).1) (pca (filN R s i P).1) (pfr (filN R s i P).1) = -1
      · rw [if_pos c2]
        exact ⟨ih.1, fun z => absurd rfl z⟩
      · rw [if_neg c2]
        have := putP_m (R := R) (to := lateF R s (pat (filN R s i P).1) (pca (filN R s i P).1) (pfr (filN R s i P).1)) (h := pfr (filN R s i P).1) (lv := 0) (ih.2 c1) (by omega)
        rw [show ((i + 1 : Nat) : Int) = (i : Int) + 1 by omega]
        exact ⟨⟨this.1, this.2.1⟩, fun _ => this⟩
theorem fil_m {R : aRun} {s : Int} {P : aP} (hm : mS s 0 P) : gP (fil R s P).1 ∧ wS s (fil R s P).1 := by
  unfold fil
  by_cases c : (filN R s (rs R 0).toNat P).2.1 = 0
  · rw [if_pos c]; exact ⟨hm.1, hm.2.1⟩
  · rw [if_neg c]; exact (filN_m hm _).1
theorem pgP_m {R : aRun} {s : Int} {P : aP} (h1 : gP P) (h2 : wS s P) : mS s 0 (pgP R P) :=
  ⟨h1, ⟨h2.1, fun j j0 j1 => ⟨(h2.2 j j0 j1).1, by have := (h2.2 j j0 j1).2; show pC P j 0 ≤ ppg P + 1; omega⟩⟩, fun _ j j0 j1 z => by have := (h2.2 j j0 j1).2; have z : pC P j 0 = ppg P + 1 := z.1; omega, fun z => absurd rfl z⟩
theorem secN_m {R : aRun} {s : Int} : ∀ (n : Nat) (P : aP), mS s 0 P → gP (secN R s n P).1 ∧ wS s (secN R s n P).1 := by
  intro n
  induction n with
  | zero => intro P hm; exact ⟨hm.1, hm.2.1⟩
  | succ n ih =>
    intro P hm
    rw [secN_s]
    by_cases c1 : lst R s (pat P) (pca P) (pfr P) ≠ -2
    · rw [if_pos c1]
      have := lvlN_m (R := R) (h := lst R s (pat P) (pca P) (pfr P)) hm (rs R 0).toNat
      exact ⟨this.1, this.2.1⟩
    · rw [if_neg c1]
      by_cases c2 : (fil R s P).2 = 0 ∧ pfr P = rs R 1
      · rw [if_pos c2]; exact ⟨hm.1, hm.2.1⟩
      · rw [if_neg c2]
        have hf := fil_m (R := R) hm
        by_cases c3 : 39 ≤ ppg P
        · rw [if_pos c3]; exact hf
        · rw [if_neg c3]
          exact ih _ (pgP_m hf.1 hf.2)
theorem allN_m {R : aRun} : ∀ n : Nat, gP (allN R (ini R) n).1 ∧ wS ((n : Int) - 1) (allN R (ini R) n).1 := by
  intro n
  induction n with
  | zero => exact ⟨fun i i0 i1 => by have i1 : i < 0 := i1; omega, ⟨Int.le_refl _, fun i i0 i1 => by have i1 : i < 0 := i1; omega⟩⟩
  | succ n ih =>
    rw [allN_s]
    generalize allN R (ini R) n = A at ih
    obtain ⟨g, w⟩ := ih
    have up : ∀ P : aP, wS ((n : Int) - 1) P → wS n P := fun P h => ⟨h.1, fun j j0 j1 => ⟨by have := (h.2 j j0 j1).1; omega, (h.2 j j0 j1).2⟩⟩
    have st : ∀ P : aP, gP P → wS ((n : Int) - 1) P → mS n 0 P := fun P h1 h2 => ⟨h1, up P h2, fun _ j j0 j1 z => by have := (h2.2 j j0 j1).1; omega, fun z => absurd rfl z⟩
    by_cases c0 : aSt A ≠ -1
    · rw [if_pos c0]
      rw [show ((n + 1 : Nat) : Int) - 1 = n by omega]
      exact ⟨g, up _ w⟩
    · rw [if_neg c0, show ((n + 1 : Nat) : Int) - 1 = n by omega]
      have hB : ∀ B : aA, mS n 0 B.1 → gP (secA R n B).1 ∧ wS n (secA R n B).1 := by
        intro B hm
        unfold secA
        by_cases c1 : aSt B ≠ -1 ∨ bg R ((n : Int) + 1) ≤ pat B.1
        · rw [if_pos c1]; exact ⟨hm.1, hm.2.1⟩
        · rw [if_neg c1]; exact secN_m 41 B.1 hm
      have hb : mS n 0 (begA R n A).1 := st _ g w
      by_cases c1 : n = 0
      · rw [if_pos c1]; exact hB _ hb
      · rw [if_neg c1]
        refine hB _ ?_
        unfold spanA
        split
        · exact hb
        · show mS n 0 (frP _ (spP R n (begA R n A).1))
          unfold spP
          split
          · exact pgP_m (R := R) hb.1 hb.2.1
          · exact hb
theorem pou_m {R : aRun} : gP (pou R).1 := (allN_m _).1
/-! ===== what stands on a page ===== -/
noncomputable def on (R : aRun) (p : Int) (g : Int → Int) : Int := sI (fun i => if cf R i 0 = p then g i else 0) (pcn (pou R).1)
noncomputable def spo (R : aRun) (p : Int) : Int := sI (fun k => if aPg (pou R) k = p then 1 else 0) (aSp (pou R))
theorem bn_set {x x' k : Int} (h : ∀ j, 0 ≤ j → bt x' j = (bt x j || decide (j = k))) : ∀ n : Nat, bn x' n = bn x n + (if (0 ≤ k ∧ k < n) ∧ bt x k = false then 1 else 0) := by
  intro n
  induction n with
  | zero => 
    rw [if_neg (by omega)]
    rfl
  | succ n ih =>
    have e1 : bn x' ((n : Int) + 1) = bn x' n + (if bt x' n = true then 1 else 0) := sI_s (by omega)
    have e2 : bn x ((n : Int) + 1) = bn x n + (if bt x n = true then 1 else 0) := sI_s (by omega)
    rw [show ((n + 1 : Nat) : Int) = (n : Int) + 1 by omega, e1, e2, ih, h _ (by omega)]
    by_cases c : (n : Int) = k
    · subst c
      rw [decide_eq_true rfl, Bool.or_true, if_neg (show ¬ ((0 ≤ (n : Int) ∧ (n : Int) < n) ∧ bt x (n : Int) = false) by omega)]
      by_cases hb : bt x (n : Int) = true
      · have q : ¬ ((0 ≤ (n : Int) ∧ (n : Int) < (n : Int) + 1) ∧ bt x (n : Int) = false) := fun z => by rw [hb] at z; exact absurd z.2 (by decide)
        rw [if_neg q, if_pos hb]
        show _ + (1 : Int) = _
        omega
      · have hf : bt x (n : Int) = false := by simpa using hb
        have q : (0 ≤ (n : Int) ∧ (n : Int) < (n : Int) + 1) ∧ bt x (n : Int) = false := ⟨⟨by omega, by omega⟩, hf⟩
        rw [if_pos q, if_neg hb]
        show _ + (1 : Int) = _
        omega
    · rw [decide_eq_false c, Bool.or_false]
      by_cases d : (0 ≤ k ∧ k < n) ∧ bt x k = false
      · have q : (0 ≤ k ∧ k < (n : Int) + 1) ∧ bt x k = false := ⟨⟨d.1.1, by omega⟩, d.2⟩
        rw [if_pos d, if_pos q]; omega
      · have q : ¬ ((0 ≤ k ∧ k < (n : Int) + 1) ∧ bt x k = false) := fun z => d ⟨⟨z.1.1, by omega⟩, z.2⟩
        rw [if_neg d, if_neg q]; omega
theorem sI_ext {f g : Int → Int} {m n : Int} (hm : 0 ≤ m) (h : m ≤ n) (h1 : ∀ i, 0 ≤ i → i < m → f i = g i) (h2 : ∀ i, m ≤ i → i < n → f i = 0) : sI f n = sI g m := by
  have key : ∀ k : Nat, m + k ≤ n → sI f (m + k) = sI g m := by
    intro k
    induction k with
    | zero => intro _; rw [show m + ((0 : Nat) : Int) = m by omega]; exact sI_congr h1
    | succ k ih =>
      intro hk
      rw [show m + ((k + 1 : Nat) : Int) = (m + k) + 1 by omega, sI_s (by omega), ih (by omega), h2 _ (by omega) (by omega)]
      omega
  have := key (n - m).toNat (by omega)
  rwa [show m + (((n - m).toNat : Nat) : Int) = n by omega] at this
