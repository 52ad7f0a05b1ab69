/-! ===== pouring, as numbers ===== -/
noncomputable def lastN (P : Int → Prop) (a : Int) : Nat → Int
  | 0 => -1
  | n + 1 => @ite Int (P (a + n)) (Classical.propDecidable _) (a + n) (lastN P a n)
/-- the last one from a to b, -1 without -/
noncomputable def last (P : Int → Prop) (a b : Int) : Int := lastN P a (b + 1 - a).toNat
theorem last_no {P : Int → Prop} {a b : Int} (h : ∀ e, a ≤ e → e ≤ b → ¬ P e) : last P a b = -1 := by
  have key : ∀ n : Nat, a + n ≤ b + 1 → lastN P a n = -1 := by
    intro n
    induction n with
    | zero => intro _; rfl
    | succ n ih =>
      intro hn
      show @ite Int (P (a + n)) (Classical.propDecidable _) (a + n) (lastN P a n) = -1
      rw [if_neg (h _ (by omega) (by omega))]
      exact ih (by omega)
  unfold last
  rcases Int.le_total a (b + 1) with c | c
  · exact key _ (by omega)
  · rw [show (b + 1 - a).toNat = 0 by omega]; rfl
theorem last_is {P : Int → Prop} {a b e : Int} (h1 : a ≤ e) (h2 : e ≤ b) (h3 : P e) (h4 : ∀ e', e < e' → e' ≤ b → ¬ P e') : last P a b = e := by
  have key : ∀ n : Nat, e < a + n → a + n ≤ b + 1 → lastN P a n = e := by
    intro n
    induction n with
    | zero => intro h _; omega
    | succ n ih =>
      intro hn hn2
      show @ite Int (P (a + n)) (Classical.propDecidable _) (a + n) (lastN P a n) = e
      by_cases c : e = a + n
      · rw [if_pos (by rw [← c]; exact h3)]; exact c.symm
      · rw [if_neg (h4 _ (by omega) (by omega))]
        exact ih (by omega) (by omega)
  exact key _ (by omega) (by omega)
theorem last_or (P : Int → Prop) (a b : Int) : (last P a b = -1 ∧ ∀ e, a ≤ e → e ≤ b → ¬ P e) ∨ (a ≤ last P a b ∧ last P a b ≤ b ∧ P (last P a b) ∧ ∀ e, last P a b < e → e ≤ b → ¬ P e) := by
  have key : ∀ n : Nat, a + n ≤ b + 1 → (lastN P a n = -1 ∧ ∀ e, a ≤ e → e < a + n → ¬ P e) ∨ (a ≤ lastN P a n ∧ lastN P a n < a + n ∧ P (lastN P a n) ∧ ∀ e, lastN P a n < e → e < a + n → ¬ P e) := by
    intro n
    induction n with
    | zero => intro _; exact Or.inl ⟨rfl, fun e h1 h2 => by omega⟩
    | succ n ih =>
      intro hn
      have ih := ih (by omega)
      by_cases c : P (a + n)
      · have e : lastN P a (n + 1) = a + n := if_pos c
        rw [e]
        exact Or.inr ⟨by omega, by omega, c, fun e h1 h2 => by omega⟩
      · have e : lastN P a (n + 1) = lastN P a n := if_neg c
        rw [e]
        rcases ih with ⟨q1, q2⟩ | ⟨q1, q2, q3, q4⟩
        · refine Or.inl ⟨q1, fun e h1 h2 => ?_⟩
          by_cases d : e = a + n
          · rw [d]; exact c
          · exact q2 e h1 (by omega)
        · refine Or.inr ⟨q1, by omega, q3, fun e h1 h2 => ?_⟩
          by_cases d : e = a + n
          · rw [d]; exact c
          · exact q4 e h1 (by omega)
  unfold last
  rcases Int.le_total a (b + 1) with c | c
  · rcases key (b + 1 - a).toNat (by omega) with ⟨q1, q2⟩ | ⟨q1, q2, q3, q4⟩
    · exact Or.inl ⟨q1, fun e h1 h2 => q2 e h1 (by omega)⟩
    · exact Or.inr ⟨q1, by omega, q3, fun e h1 h2 => q4 e h1 (by omega)⟩
  · rw [show (b + 1 - a).toNat = 0 by omega]
    exact Or.inl ⟨rfl, fun e h1 h2 => by omega⟩
noncomputable def lateF (R : aRun) (s p c h : Int) : Int := last (fun e => en R e ∧ lo R p e c h ≠ -1) p (bg R (s + 1))
noncomputable def lateL (R : aRun) (s p c h : Int) (K : Nat) : Int := last (fun e => en R e ∧ lo R p e c h ≠ -1 ∧ lo R p e c h ≤ be R s h K e) p (bg R (s + 1))
/-- how many columns, PAGE, free, place, CARRIED; the columns -/
abbrev aP : Type := Int × Int × Int × Int × Int × (Int → Int → Int)
def pcn (P : aP) : Int := P.1
def ppg (P : aP) : Int := P.2.1
def pfr (P : aP) : Int := P.2.2.1
def pat (P : aP) : Int := P.2.2.2.1
def pca (P : aP) : Int := P.2.2.2.2.1
def pC (P : aP) : Int → Int → Int := P.2.2.2.2.2
noncomputable def putP (R : aRun) (s i to h lv : Int) (P : aP) : aP := (pcn P + 1, ppg P, pfr P, to, lo R (pat P) to (pca P) h, fun j f => if j = pcn P then (if f = 0 then ppg P else if f = 1 then i else if f = 2 then s else if f = 3 then pat P else if f = 4 then to else if f = 5 then pca P else if f = 6 then rs R 1 - pfr P else if f = 7 then h else lv) else pC P j f)
noncomputable def lvlN (R : aRun) (s h : Int) : Nat → aP → aP
  | 0, P => P
  | i + 1, P => putP R s i (lateL R s (pat (lvlN R s h i P)) (pca (lvlN R s h i P)) h ((rs R 0).toNat - 1 - i)) h 1 (lvlN R s h i P)
noncomputable def lvl (R : aRun) (s h : Int) (P : aP) : aP := lvlN R s h (rs R 0).toNat P
/-- note lines that stand in a column -/
noncomputable def sta (R : aRun) (p e c h : Int) : Int := ol R p e + c - lo R p e c h
noncomputable def filN (R : aRun) (s : Int) : Nat → aP → aP × Int × Int
  | 0, P => (P, 0, 1)
  | i + 1, P =>
    if (filN R s i P).2.2 = 0 then filN R s i P
    else if lateF R s (pat (filN R s i P).1) (pca (filN R s i P).1) (pfr (filN R s i P).1) = -1 then ((filN R s i P).1, 0, 0)
    else (putP R s i (lateF R s (pat (filN R s i P).1) (pca (filN R s i P).1) (pfr (filN R s i P).1)) (pfr (filN R s i P).1) 0 (filN R s i P).1,
      if pat (filN R s i P).1 < lateF R s (pat (filN R s i P).1) (pca (filN R s i P).1) (pfr (filN R s i P).1) ∨ 0 < sta R (pat (filN R s i P).1) (lateF R s (pat (filN R s i P).1) (pca (filN R s i P).1) (pfr (filN R s i P).1)) (pca (filN R s i P).1) (pfr (filN R s i P).1) then 1 else (filN R s i P).2.1, 1)
/-- filled: whether something stands, and what it is then -/
noncomputable def fil (R : aRun) (s : Int) (P : aP) : aP × Int := if (filN R s (rs R 0).toNat P).2.1 = 0 then (P, 0) else ((filN R s (rs R 0).toNat P).1, 1)
def pgP (R : aRun) (P : aP) : aP := (pcn P, ppg P + 1, rs R 1, pat P, pca P, pC P)
def frP (f : Int) (P : aP) : aP := (pcn P, ppg P, f, pat P, pca P, pC P)
def atP (a c : Int) (P : aP) : aP := (pcn P, ppg P, pfr P, a, c, pC P)
/-- a SECTION: what it is then, and where it is STUCK (-1: not) -/
noncomputable def secN (R : aRun) (s : Int) : Nat → aP → aP × Int
  | 0, P => (P, -1)
  | n + 1, P =>
    if lst R s (pat P) (pca P) (pfr P) ≠ -2 then (frP (pfr P - lst R s (pat P) (pca P) (pfr P)) (lvl R s (lst R s (pat P) (pca P) (pfr P)) P), -1)
    else if (fil R s P).2 = 0 ∧ pfr P = rs R 1 then (P, pat P)
    else if 39 ≤ ppg P then ((fil R s P).1, pat (fil R s P).1)
    else secN R s n (pgP R (fil R s P).1)
/-- the columns of a SECTION that can be put so -/
def okC (R : aRun) (C : Int → Int → Int) (i : Int) : Prop :=
  (0 ≤ C i 0 ∧ C i 0 ≤ 39) ∧ (0 ≤ C i 1 ∧ C i 1 < rs R 0) ∧ (0 ≤ C i 2 ∧ C i 2 < ns R) ∧ (bg R (C i 2) ≤ C i 3 ∧ C i 3 ≤ C i 4 ∧ C i 4 ≤ bg R (C i 2 + 1)) ∧ (0 ≤ C i 5 ∧ C i 5 < 20) ∧ (0 ≤ C i 7 ∧ C i 7 ≤ 2000) ∧ lo R (C i 3) (C i 4) (C i 5) (C i 7) ≠ -1 ∧ (-2000 ≤ C i 6 ∧ C i 6 ≤ 2000) ∧ (C i 8 = 0 ∨ C i 8 = 1)
def okP (R : aRun) (s : Int) (P : aP) : Prop :=
  0 ≤ pcn P ∧ (0 ≤ ppg P ∧ ppg P ≤ 39) ∧ (0 ≤ pfr P ∧ pfr P ≤ 400) ∧ (bg R s ≤ pat P ∧ pat P ≤ bg R (s + 1)) ∧ en R (pat P) ∧ (0 ≤ pca P ∧ pca P < 20) ∧ ∀ i, 0 ≤ i → i < pcn P → okC R (pC P) i
theorem putP_ok {R : aRun} (hw : WF R) {s i to h lv : Int} {P : aP} (h0 : 0 ≤ s) (hs : s < ns R) (hP : okP R s P) (hi : 0 ≤ i) (hi2 : i < rs R 0) (ht : pat P ≤ to) (ht2 : to ≤ bg R (s + 1)) (hen : en R to) (hl : lo R (pat P) to (pca P) h ≠ -1) (hh : 0 ≤ h) (hh2 : h ≤ 2000) (hlv : lv = 0 ∨ lv = 1) : okP R s (putP R s i to h lv P) := by
  obtain ⟨h1, h2, h3, h4, h5, h6, h7⟩ := hP
  have hb := bg_step hw s
  have hH := hw.2.1.2.1
  have hlo := lo_in hw (p := pat P) (e := to) (c := pca P) (h := h) (by omega) (by omega) h6.1 h6.2 hh2
  refine ⟨by show 0 ≤ pcn P + 1; omega, h2, h3, ⟨by show bg R s ≤ to; omega, ht2⟩, hen, ⟨by show 0 ≤ lo R (pat P) to (pca P) h; omega, by show lo R (pat P) to (pca P) h < 20; omega⟩, fun j j0 j1 => ?_⟩
  have j1 : j < pcn P + 1 := j1
  by_cases c : j = pcn P
  · have e : ∀ f, pC (putP R s i to h lv P) j f = (if f = 0 then ppg P else if f = 1 then i else if f = 2 then s else if f = 3 then pat P else if f = 4 then to else if f = 5 then pca P else if f = 6 then rs R 1 - pfr P else if f = 7 then h else lv) := fun f => if_pos c
    unfold okC
    rw [e, e, e, e, e, e, e, e, e]
    exact ⟨h2, ⟨hi, hi2⟩, ⟨h0, hs⟩, ⟨h4.1, ht, ht2⟩, h6, ⟨hh, hh2⟩, hl, ⟨by show -2000 ≤ rs R 1 - pfr P; omega, by show rs R 1 - pfr P ≤ 2000; omega⟩, hlv⟩
  · have e : ∀ f, pC (putP R s i to h lv P) j f = pC P j f := fun f => if_neg c
    have := h7 j j0 (by omega)
    unfold okC at *
    rw [e, e, e, e, e, e, e, e, e]
    exact this
/-- LEVELLED: there is a place for each column -/
theorem lateL_ok {R : aRun} (hw : WF R) {s h p c : Int} {K : Nat} (h0 : 0 ≤ p) (hc : 0 ≤ c) (hh2 : h ≤ 2000) (hf : c ≤ be R s h (K + 1) p) : p ≤ lateL R s p c h K ∧ lateL R s p c h K ≤ bg R (s + 1) ∧ en R (lateL R s p c h K) ∧ lo R p (lateL R s p c h K) c h ≠ -1 ∧ lo R p (lateL R s p c h K) c h ≤ be R s h K (lateL R s p c h K) := by
  unfold lateL
  rcases last_or (fun e => en R e ∧ lo R p e c h ≠ -1 ∧ lo R p e c h ≤ be R s h K e) p (bg R (s + 1)) with ⟨-, q⟩ | ⟨q1, q2, q3, -⟩
  · obtain ⟨e, e1, e2, e3, e4, e5⟩ := (be_iff hw h0 hc hh2).mp hf
    exact absurd ⟨e3, e4, e5⟩ (q e e1 e2)
  · exact ⟨q1, q2, q3⟩
theorem lateF_ok {R : aRun} {s p c h : Int} (hne : lateF R s p c h ≠ -1) : p ≤ lateF R s p c h ∧ lateF R s p c h ≤ bg R (s + 1) ∧ en R (lateF R s p c h) ∧ lo R p (lateF R s p c h) c h ≠ -1 := by
  unfold lateF at *
  rcases last_or (fun e => en R e ∧ lo R p e c h ≠ -1) p (bg R (s + 1)) with ⟨q, -⟩ | ⟨q1, q2, q3, -⟩
  · exact absurd q hne
  · exact ⟨q1, q2, q3⟩
theorem lvlN_s {R : aRun} {s h : Int} {i : Nat} {P : aP} : lvlN R s h (i + 1) P = putP R s i (lateL R s (pat (lvlN R s h i P)) (pca (lvlN R s h i P)) h ((rs R 0).toNat - 1 - i)) h 1 (lvlN R s h i P) := rfl
theorem lvlN_ok {R : aRun} (hw : WF R) {s h : Int} {P : aP} (h0 : 0 ≤ s) (hs : s < ns R) (hP : okP R s P) (hh : 0 ≤ h) (hh2 : h ≤ 2000) (hf : pca P ≤ be R s h (rs R 0).toNat (pat P)) : ∀ i : Nat, i ≤ (rs R 0).toNat → okP R s (lvlN R s h i P) ∧ pca (lvlN R s h i P) ≤ be R s h ((rs R 0).toNat - i) (pat (lvlN R s h i P)) ∧ pcn (lvlN R s h i P) = pcn P + i ∧ ppg (lvlN R s h i P) = ppg P ∧ pfr (lvlN R s h i P) = pfr P := by
  have hb := bg_step hw s
  intro i
  induction i with
  | zero => intro _; exact ⟨hP, hf, by show pcn P = _; omega, rfl, rfl⟩
  | succ i ih =>
    intro hi
    obtain ⟨i1, i2, i3, i4, i5⟩ := ih (by omega)
    have ek : (rs R 0).toNat - i = ((rs R 0).toNat - 1 - i) + 1 := by omega
    rw [ek] at i2
    have a := lateL_ok hw (s := s) (h := h) (p := pat (lvlN R s h i P)) (c := pca (lvlN R s h i P)) (K := (rs R 0).toNat - 1 - i) (by have := i1.2.2.2.1; omega) i1.2.2.2.2.2.1.1 hh2 i2
    rw [lvlN_s]
    refine ⟨putP_ok hw h0 hs i1 (by omega) (by omega) a.1 a.2.1 a.2.2.1 a.2.2.2.1 hh hh2 (Or.inr rfl), ?_, ?_, i4, i5⟩
    · rw [show (rs R 0).toNat - (i + 1) = (rs R 0).toNat - 1 - i by omega]
      exact a.2.2.2.2
    · show pcn (lvlN R s h i P) + 1 = _
      omega
theorem filN_s {R : aRun} {s : Int} {i : Nat} {P : aP} : filN R s (i + 1) P = if (filN R s i P).2.2 = 0 then filN R s i P
    else if lateF R s (pat (filN R s i P).1) (pca (filN R s i P).1) (pfr (filN R s i P).1) = -1 then ((filN R s i P).1, 0, 0)
    else (putP R s i (lateF R s (pat (filN R s i P).1) (pca (filN R s i P).1) (pfr (filN R s i P).1)) (pfr (filN R s i P).1) 0 (filN R s i P).1,
      if pat (filN R s i P).1 < lateF R s (pat (filN R s i P).1) (pca (filN R s i P).1) (pfr (filN R s i P).1) ∨ 0 < sta R (pat (filN R s i P).1) (lateF R s (pat (filN R s i P).1) (pca (filN R s i P).1) (pfr (filN R s i P).1)) (pca (filN R s i P).1) (pfr (filN R s i P).1) then 1 else (filN R s i P).2.1, 1) := rfl
theorem filN_ok {R : aRun} (hw : WF R) {s : Int} {P : aP} (h0 : 0 ≤ s) (hs : s < ns R) (hP : okP R s P) : ∀ i : Nat, i ≤ (rs R 0).toNat → okP R s (filN R s i P).1 ∧ pcn P ≤ pcn (filN R s i P).1 ∧ pcn (filN R s i P).1 ≤ pcn P + i ∧ ppg (filN R s i P).1 = ppg P ∧ pfr (filN R s i P).1 = pfr P ∧ ((filN R s i P).2.1 = 0 ∨ (filN R s i P).2.1 = 1) ∧ ((filN R s i P).2.2 = 1 → pcn (filN R s i P).1 = pcn P + i) ∧ ((filN R s i P).2.2 = 0 ∧ (filN R s i P).2.1 = 0 ∨ (filN R s i P).2.2 = 1) ∧ (∀ j f, j < pcn P → pC (filN R s i P).1 j f = pC P j f) := by
  intro i
  induction i with
  | zero => intro _; exact ⟨hP, Int.le_refl _, by show pcn P ≤ _; omega, rfl, rfl, Or.inl rfl, fun _ => by show pcn P = _; omega, Or.inr rfl, fun _ _ _ => rfl⟩
  | succ i ih =>
    intro hi
    obtain ⟨i1, i2, i3, i4, i5, i6, i7, i8, i9⟩ := ih (by omega)
    rw [filN_s]
    by_cases c1 : (filN R s i P).2.2 = 0
    · rw [if_pos c1]
      exact ⟨i1, i2, by omega, i4, i5, i6, fun q => by omega, i8, i9⟩
    · rw [if_neg c1]
      by_cases c2 : lateF R s (pat (filN R s i P).1) (pca (filN R s i P).1) (pfr (filN R s i P).1) = -1
      · rw [if_pos c2]
        exact ⟨i1, i2, by show pcn (filN R s i P).1 ≤ _; omega, i4, i5, Or.inl rfl, fun q => by have q : (0 : Int) = 1 := q; omega, Or.inl ⟨rfl, rfl⟩, i9⟩
      · rw [if_neg c2]
        have a := lateF_ok c2
        have hH := hw.2.1.2.1
        have hfr := i1.2.2.1
        refine ⟨putP_ok hw h0 hs i1 (by omega) (by omega) a.1 a.2.1 a.2.2.1 a.2.2.2 (by omega) (by omega) (Or.inl rfl), ?_, ?_, i4, i5, ?_, fun _ => ?_, Or.inr rfl, fun j f hj => ?_⟩
        · show pcn P ≤ pcn (filN R s i P).1 + 1; omega
        · show pcn (filN R s i P).1 + 1 ≤ _; omega
        · show (if _ then (1 : Int) else (filN R s i P).2.1) = 0 ∨ (if _ then (1 : Int) else (filN R s i P).2.1) = 1
          split
          · exact Or.inr rfl
          · exact i6
        · show pcn (filN R s i P).1 + 1 = _
          have := i7 (by omega)
          omega
        · show (if j = pcn (filN R s i P).1 then _ else pC (filN R s i P).1 j f) = _
          rw [if_neg (by omega)]
          exact i9 j f hj
theorem fil_ok {R : aRun} (hw : WF R) {s : Int} {P : aP} (h0 : 0 ≤ s) (hs : s < ns R) (hP : okP R s P) : okP R s (fil R s P).1 ∧ pcn (fil R s P).1 ≤ pcn P + rs R 0 ∧ ppg (fil R s P).1 = ppg P ∧ pfr (fil R s P).1 = pfr P ∧ ((fil R s P).2 = 0 ∧ (fil R s P).1 = P ∨ (fil R s P).2 = 1) := by
  have hS := hw.2.1.1
  have a := filN_ok hw h0 hs hP (rs R 0).toNat (Nat.le_refl _)
  unfold fil
  by_cases c : (filN R s (rs R 0).toNat P).2.1 = 0
  · rw [if_pos c]
    exact ⟨hP, by show pcn P ≤ _; omega, rfl, rfl, Or.inl ⟨rfl, rfl⟩⟩
  · rw [if_neg c]
    exact ⟨a.1, by show pcn (filN R s (rs R 0).toNat P).1 ≤ _; have := a.2.2.1; omega, a.2.2.2.1, a.2.2.2.2.1, Or.inr rfl⟩
