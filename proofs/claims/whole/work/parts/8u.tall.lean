/-! ===== heights that have been put ===== -/
theorem hH_tx {R : aRun} (hw : WF R) {p e : Int} (h0 : 0 ≤ p) (h1 : p ≤ e) (h2 : e ≤ np R) : hH R e - hH R p ≤ tx R p e := by
  by_cases c : e ≤ p
  · have : e = p := by omega
    subst this
    rw [tx_self]; omega
  · have a1 := hT_split (R := R) (p := e)
    have a2 := hT_split (R := R) (p := p)
    have a3 : hG R (p + 1) = hG R p + pG R p := sI_s h0
    have a4 : hG R (p + 1) ≤ hG R e := sI_mono (by omega) (by omega) (fun i i0 i1 => (pG_in hw (by omega) (by omega)).1)
    have a5 : 0 ≤ pT R p := by
      unfold pT
      split
      · omega
      · have ho := ow_in hw h0 (by omega)
        exact (hw.2.2.1 _ ho.1 ho.2.1).2.2.2.2.2.2.1.1
    unfold tx
    rw [if_neg c]
    omega
theorem lo_tx {R : aRun} (hw : WF R) {p e c h : Int} (h0 : 0 ≤ p) (he : e ≤ np R) (hc : 0 ≤ c) (hl : lo R p e c h ≠ -1) : tx R p e ≤ h := by
  by_cases d : h < tx R p e
  · exact absurd (lo_no hw h0 he hc d) hl
  · omega
theorem lvlN_hH {R : aRun} (hw : WF R) {s h : Int} {P : aP} (h0 : 0 ≤ s) (hs : s < ns R) (hP : okP R s P) (hh : 0 ≤ h) (hh2 : h ≤ 2000) (hf : pca P ≤ be R s h (rs R 0).toNat (pat P)) : ∀ i : Nat, i ≤ (rs R 0).toNat → hH R (pat (lvlN R s h i P)) ≤ hH R (pat P) + i * h := by
  have hb := bg_step hw s
  intro i
  induction i with
  | zero => intro _; show hH R (pat P) ≤ hH R (pat P) + ((0 : Nat) : Int) * h; rw [show ((0 : Nat) : Int) = 0 from rfl, Int.zero_mul]; omega
  | succ i ih =>
    intro hi
    have ih := ih (by omega)
    obtain ⟨i1, i2, -⟩ := lvlN_ok hw h0 hs hP hh hh2 hf i (by omega)
    have ek : (rs R 0).toNat - i = ((rs R 0).toNat - 1 - i) + 1 := by omega
    rw [ek] at i2
    have hpat := i1.2.2.2.1
    have a := lateL_ok hw (s := s) (h := h) (p := pat (lvlN R s h i P)) (c := pca (lvlN R s h i P)) (K := (rs R 0).toNat - 1 - i) (by omega) i1.2.2.2.2.2.1.1 hh2 i2
    have t1 := lo_tx hw (by omega) (by omega) i1.2.2.2.2.2.1.1 a.2.2.2.1
    have t2 := hH_tx hw (p := pat (lvlN R s h i P)) (e := lateL R s (pat (lvlN R s h i P)) (pca (lvlN R s h i P)) h ((rs R 0).toNat - 1 - i)) (by omega) a.1 (by omega)
    rw [lvlN_s]
    show hH R (lateL R s (pat (lvlN R s h i P)) (pca (lvlN R s h i P)) h ((rs R 0).toNat - 1 - i)) ≤ hH R (pat P) + ((i + 1 : Nat) : Int) * h
    rw [show ((i + 1 : Nat) : Int) = (i : Int) + 1 by omega, Int.add_mul, Int.one_mul]
    omega
theorem filN_hH {R : aRun} (hw : WF R) {s : Int} {P : aP} (h0 : 0 ≤ s) (hs : s < ns R) (hP : okP R s P) : ∀ i : Nat, i ≤ (rs R 0).toNat → hH R (pat (filN R s i P).1) ≤ hH R (pat P) + i * pfr P := by
  have hb := bg_step hw s
  have hfr0 := hP.2.2.1
  intro i
  induction i with
  | zero => intro _; show hH R (pat P) ≤ hH R (pat P) + ((0 : Nat) : Int) * pfr P; rw [show ((0 : Nat) : Int) = 0 from rfl, Int.zero_mul]; omega
  | succ i ih =>
    intro hi
    have ih := ih (by omega)
    obtain ⟨i1, -, -, -, i5, -⟩ := filN_ok hw h0 hs hP i (by omega)
    rw [show ((i + 1 : Nat) : Int) = (i : Int) + 1 by omega, Int.add_mul, Int.one_mul, filN_s]
    by_cases c1 : (filN R s i P).2.2 = 0
    · rw [if_pos c1]; omega
    · rw [if_neg c1]
      by_cases c2 : lateF R s (pat (filN R s i P).1) (pca (filN R s i P).1) (pfr (filN R s i P).1) = -1
      · rw [if_pos c2]
        show hH R (pat (filN R s i P).1) ≤ _
        omega
      · rw [if_neg c2]
        have a := lateF_ok c2
        have hpat := i1.2.2.2.1
        have t1 := lo_tx hw (by omega) (by omega) i1.2.2.2.2.2.1.1 a.2.2.2
        have t2 := hH_tx hw (p := pat (filN R s i P).1) (e := lateF R s (pat (filN R s i P).1) (pca (filN R s i P).1) (pfr (filN R s i P).1)) (by omega) a.1 (by omega)
        show hH R (lateF R s (pat (filN R s i P).1) (pca (filN R s i P).1) (pfr (filN R s i P).1)) ≤ _
        omega
/-- heights against what has been used -/
def hI (R : aRun) (P : aP) : Prop := hH R (pat P) + rs R 0 * pfr P ≤ (ppg P + 1) * (rs R 0 * rs R 1)
theorem fil_hH {R : aRun} (hw : WF R) {s : Int} {P : aP} (h0 : 0 ≤ s) (hs : s < ns R) (hP : okP R s P) : hH R (pat (fil R s P).1) ≤ hH R (pat P) + rs R 0 * pfr P := by
  have hS := hw.2.1.1
  have a := filN_hH hw h0 hs hP (rs R 0).toNat (Nat.le_refl _)
  rw [show (((rs R 0).toNat : Nat) : Int) = rs R 0 by omega] at a
  have hn : 0 ≤ rs R 0 * pfr P := Int.mul_nonneg (by omega) hP.2.2.1.1
  unfold fil
  split
  · show hH R (pat P) ≤ _; omega
  · exact a
theorem secN_hI {R : aRun} (hw : WF R) {s : Int} (h0 : 0 ≤ s) (hs : s < ns R) : ∀ (n : Nat) (P : aP), okP R s P → hI R P → 40 ≤ n + ppg P → (secN R s n P).2 = -1 → hI R (secN R s n P).1 ∧ pat (secN R s n P).1 = bg R (s + 1) := by
  have hS := hw.2.1.1
  have hH' := hw.2.1.2.1
  have hb := bg_step hw s
  intro n
  induction n with
  | zero => intro P hP _ hn _; have := hP.2.1; omega
  | succ n ih =>
    intro P hP hi hn hst
    rw [secN_s] at hst ⊢
    have hpat := hP.2.2.2.1
    by_cases c1 : lst R s (pat P) (pca P) (pfr P) ≠ -2
    · rw [if_pos c1]
      rcases lst_or hw (s := s) (p := pat P) (c := pca P) (top := pfr P) (by omega) hP.2.2.1.1 (by have := hP.2.2.1; omega) with ⟨z, -⟩ | ⟨z1, z2⟩
      · exact absurd z c1
      · have l := lvlN_ok hw h0 hs hP z1.1.1 z1.1.2 z1.2.1 (rs R 0).toNat (Nat.le_refl _)
        have m := lvlN_hH hw h0 hs hP z1.1.1 z1.1.2 z1.2.1 (rs R 0).toNat (Nat.le_refl _)
        rw [show (((rs R 0).toNat : Nat) : Int) = rs R 0 by omega] at m
        refine ⟨?_, ?_⟩
        · show hH R (pat (lvlN R s (lst R s (pat P) (pca P) (pfr P)) (rs R 0).toNat P)) + rs R 0 * (pfr P - lst R s (pat P) (pca P) (pfr P)) ≤ (ppg (lvlN R s (lst R s (pat P) (pca P) (pfr P)) (rs R 0).toNat P) + 1) * (rs R 0 * rs R 1)
          rw [l.2.2.2.1, Int.mul_sub]
          unfold hI at hi
          omega
        · show pat (lvlN R s (lst R s (pat P) (pca P) (pfr P)) (rs R 0).toNat P) = bg R (s + 1)
          have e := l.2.1
          rw [Nat.sub_self, be_0] at e
          have hca := l.1.2.2.2.2.2.1.1
          by_cases y : pat (lvlN R s (lst R s (pat P) (pca P) (pfr P)) (rs R 0).toNat P) = bg R (s + 1)
          · exact y
          · rw [if_neg y] at e; omega
    · rw [if_neg c1] at hst ⊢
      by_cases c2 : (fil R s P).2 = 0 ∧ pfr P = rs R 1
      · rw [if_pos c2] at hst
        have hst : pat P = -1 := hst
        omega
      · rw [if_neg c2] at hst ⊢
        have fo := fil_ok hw h0 hs hP
        by_cases c3 : 39 ≤ ppg P
        · rw [if_pos c3] at hst
          have hst : pat (fil R s P).1 = -1 := hst
          have := fo.1.2.2.2.1
          omega
        · rw [if_neg c3] at hst ⊢
          obtain ⟨m1, m2, m3, m4, m5, m6, m7⟩ := fo.1
          have hk : okP R s (pgP R (fil R s P).1) := ⟨m1, ⟨by show 0 ≤ ppg (fil R s P).1 + 1; omega, by show ppg (fil R s P).1 + 1 ≤ 39; omega⟩, ⟨by show 0 ≤ rs R 1; omega, by show rs R 1 ≤ 400; omega⟩, m4, m5, m6, m7⟩
          refine ih _ hk ?_ (by show 40 ≤ (n : Int) + (ppg (fil R s P).1 + 1); omega) hst
          have f1 := fil_hH hw h0 hs hP
          show hH R (pat (fil R s P).1) + rs R 0 * rs R 1 ≤ (ppg (fil R s P).1 + 1 + 1) * (rs R 0 * rs R 1)
          unfold hI at hi
          rw [fo.2.2.1, Int.add_mul (ppg P + 1) 1, Int.one_mul]
          omega
