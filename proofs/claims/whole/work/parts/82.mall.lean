def PrN (τ : iMem) (P : aP) : Prop := (τ 367 32 = pcn P ∧ τ 367 33 = ppg P ∧ τ 367 34 = pfr P) ∧ ∀ i, 0 ≤ i → i < pcn P → colM τ i (pC P i)
theorem PrM.n {τ : iMem} {P : aP} (h : PrM τ P) : PrN τ P := ⟨⟨h.1.1, h.1.2.1, h.1.2.2.1⟩, h.2⟩
theorem PrN.m {τ : iMem} {P : aP} (h : PrN τ P) : PrM τ (atP (τ 367 36) (τ 367 37) P) := ⟨⟨h.1.1, h.1.2.1, h.1.2.2, rfl, rfl⟩, h.2⟩
def SpM (R : aRun) (τ : iMem) (A : aA) : Prop := ∀ s, 1 ≤ s → s < ns R → τ 397 s = (if s ≤ aSp A then aPg A (s - 1) else -1) ∧ (s ≤ aSp A → τ 398 s = aAb A (s - 1))
def PoM (R : aRun) (τ : iMem) (A : aA) : Prop := (τ 367 32 = pcn A.1 ∧ τ 367 33 = ppg A.1) ∧ (∀ i, 0 ≤ i → i < pcn A.1 → colM τ i (pC A.1 i)) ∧ SpM R τ A
/-! what is free is never more than there is -/
theorem lst_ge {R : aRun} {s p c top : Int} : lst R s p c top = -2 ∨ 0 ≤ lst R s p c top := by
  unfold lst
  by_cases d : c ≤ be R s top (rs R 0).toNat p
  · rw [if_pos d]
    refine Or.inr ?_
    rcases Int.le_total 0 top with z | z
    · have := sI_bound (f := fun h => @ite Int (c ≤ be R s h (rs R 0).toNat p) (Classical.propDecidable _) 0 1) (n := top) (lo := 0) (hi := 1) (fun i _ _ => by (try dsimp only); split <;> omega) z
      omega
    · rw [sI_le z]; omega
  · rw [if_neg d]; exact Or.inl rfl
theorem lvlN_fr {R : aRun} {s h : Int} {P : aP} : ∀ i : Nat, pfr (lvlN R s h i P) = pfr P := by
  intro i
  induction i with
  | zero => rfl
  | succ i ih => exact ih
theorem filN_fr {R : aRun} {s : Int} {P : aP} : ∀ i : Nat, pfr (filN R s i P).1 = pfr P := by
  intro i
  induction i with
  | zero => rfl
  | succ i ih =>
    rw [filN_s]
    split
    · exact ih
    · split
      · exact ih
      · exact ih
theorem fil_fr {R : aRun} {s : Int} {P : aP} : pfr (fil R s P).1 = pfr P := by
  unfold fil
  split
  · rfl
  · exact filN_fr _
theorem secN_fr {R : aRun} {s : Int} : ∀ (n : Nat) (P : aP), pfr P ≤ rs R 1 → pfr (secN R s n P).1 ≤ rs R 1 := by
  intro n
  induction n with
  | zero => intro P h; exact h
  | succ n ih =>
    intro P h
    rw [secN_s]
    by_cases c1 : lst R s (pat P) (pca P) (pfr P) ≠ -2
    · rw [if_pos c1]
      show pfr P - lst R s (pat P) (pca P) (pfr P) ≤ rs R 1
      have := lst_ge (R := R) (s := s) (p := pat P) (c := pca P) (top := pfr P)
      omega
    · rw [if_neg c1]
      split
      · exact h
      · split
        · rw [fil_fr]; exact h
        · exact ih _ (Int.le_refl _)
theorem allN_fr {R : aRun} (hw : WF R) : ∀ n : Nat, (n : Int) ≤ ns R → pfr (allN R (ini R) n).1 ≤ rs R 1 := by
  intro n
  induction n with
  | zero => intro _; exact Int.le_refl _
  | succ n ih =>
    intro hn
    have ih := ih (by omega)
    rw [allN_s]
    generalize allN R (ini R) n = A at ih
    split
    · exact ih
    · have hsh := sh_in hw (n := (n : Int)) (by omega) (by omega)
      have hH := hw.2.1.2.1
      have hB : ∀ B : aA, pfr B.1 ≤ rs R 1 → pfr (secA R n B).1 ≤ rs R 1 := by
        intro B hb
        unfold secA
        split
        · exact hb
        · exact secN_fr 41 B.1 hb
      split
      · exact hB _ ih
      · refine hB _ ?_
        unfold spanA
        split
        · exact ih
        · have hP : pfr (spP R n (begA R n A).1) ≤ rs R 1 := by
            unfold spP
            split
            · exact Int.le_refl _
            · exact ih
          show (if 0 < pfr (spP R n (begA R n A).1) - sh R n then pfr (spP R n (begA R n A).1) - sh R n else 0) ≤ rs R 1
          split <;> omega
section
variable {τ : iMem} {R : aRun} {s : Int}
set_option maxHeartbeats 1000000 in
theorem ip_poursSpan {A : aA} {Q : Int → iMem → Prop} (hw : WF R) (hx : Mx R τ) (hP : PrN τ A.1) (hd : okD R A.1) (hfr1 : pfr A.1 ≤ rs R 1) (h0 : 0 < s) (hs : s < ns R) (hsp : aSp A = s - 1) (hS : SpM R τ A)
    (hQ1 : ∀ τ', Mx R τ' → aSt (spanA R s (begA R s A)) = -1 → PrN τ' (spanA R s (begA R s A)).1 → SpM R τ' (spanA R s (begA R s A)) → (∀ a k, ¬ pmw a k → τ' a k = τ a k) → Q 1 τ')
    (hQ2 : ∀ τ', Mx R τ' → aSt (spanA R s (begA R s A)) ≠ -1 → PrM' τ' (spanA R s (begA R s A)).1 → SpM R τ' (spanA R s (begA R s A)) → τ' 367 35 = aSt (spanA R s (begA R s A)) → (∀ a k, ¬ pmw a k → τ' a k = τ a k) → Q 0 τ') : ip (iz_Model_poursSpan 367 s) Q τ := by
  have hH := hw.2.1.2.1
  have h7 := hw.2.1.2.2.2.2.2.2.2
  have hns := ns_in hw
  have hn := hw.1.2
  have h90 := hw.2.2.2
  have hb := bg_step hw s
  have hsh := sh_in hw (by omega : 0 ≤ s) hs
  obtain ⟨k1, k2, k3, k4⟩ := id hd
  unfold iz_Model_poursSpan
  have eb : (begA R s A).1 = atP (bg R s) 0 A.1 := rfl
  have epf : pfr (atP (bg R s) 0 A.1) = pfr A.1 := rfl
  have epg : ppg (atP (bg R s) 0 A.1) = ppg A.1 := rfl
  rw [ip_B]
  refine ip_mono (Q := fun (v : Unit ⊕ Int) τ' => Mx R τ' ∧ (∀ a k, ¬ pmw a k → τ' a k = τ a k) ∧ (∀ k, τ' 397 k = τ 397 k ∧ τ' 398 k = τ 398 k) ∧
      ((v = Sum.inl () ∧ ¬ ((pfr A.1 < sh R s + rs R 7 ∧ pfr A.1 ≠ rs R 1) ∧ 39 ≤ ppg A.1) ∧ PrN τ' (spP R s (atP (bg R s) 0 A.1))) ∨
       (v = Sum.inr 0 ∧ ((pfr A.1 < sh R s + rs R 7 ∧ pfr A.1 ≠ rs R 1) ∧ 39 ≤ ppg A.1) ∧ PrM' τ' A.1 ∧ τ' 367 35 = bg R s))) ?_ ?_
  · refine ip_W (fun (_ : Unit) τ' => Mx R τ' ∧ (∀ a k, ¬ pmw a k → τ' a k = τ a k) ∧ (∀ k, τ' 397 k = τ 397 k ∧ τ' 398 k = τ 398 k) ∧ (PrN τ' A.1 ∨ ((pfr A.1 < sh R s + rs R 7 ∧ pfr A.1 ≠ rs R 1) ∧ ppg A.1 < 39 ∧ PrN τ' (pgP R (atP (bg R s) 0 A.1))))) (fun _ τ' => (41 - τ' 367 33).toNat) ?_ ⟨hx, fun _ _ _ => rfl, fun _ => ⟨rfl, rfl⟩, Or.inl hP⟩
    intro _ τ' ⟨ix, if', ig, iv⟩
    obtain ⟨-, -, -, -, -, B, Bs, -⟩ := id ix.2
    have e7 : τ' 368 7 = rs R 7 := rm_s ix.1 (by omega) (by omega)
    have e1 : τ' 368 1 = rs R 1 := rm_s ix.1 (by omega) (by omega)
    rw [ip_B, ip_Ld, m_15, l_381]
    refine ⟨⟨by omega, by omega⟩, ?_⟩
    rw [Bs s (by omega) hs, ip_B, ip_Ld, m_0, l_368]
    refine ⟨⟨by omega, by omega⟩, ?_⟩
    rw [e7, ip_B, ip_Gt, ip_A]
    refine ⟨⟨by omega, by omega⟩, ?_⟩
    rcases iv with iv | ⟨iv1, iv2, iv3⟩
    · rw [iv.1.2.2]
      by_cases c1 : sh R s + rs R 7 ≤ pfr A.1
      · rw [ip_ifT c1, ip_P]
        refine ⟨ix, if', ig, Or.inl ⟨rfl, fun q => by omega, ?_⟩⟩
        unfold spP
        rw [if_neg (by omega)]
        exact iv
      · rw [ip_ifF c1, ip_B, ip_Gt, iv.1.2.2, ip_B, ip_Ld, l_368]
        refine ⟨⟨by omega, by omega⟩, ?_⟩
        rw [e1]
        by_cases c2 : rs R 1 ≤ pfr A.1
        · rw [ip_ifT c2, ip_P]
          refine ⟨ix, if', ig, Or.inl ⟨rfl, fun q => by omega, ?_⟩⟩
          unfold spP
          rw [if_neg (by omega)]
          exact iv
        · rw [ip_ifF c2, ip_B, ip_Ld, m_14, l_380]
          refine ⟨⟨by omega, by omega⟩, ?_⟩
          rw [B s (by omega) (by omega), ip_B]
          refine ip_MturnsPage (P := A.1) ix iv.1.2.1 k2 (fun hc => ?_) (fun hc τ5 u1 u2 u3 => ?_)
          · rw [ip_ifT (by omega), ip_P]
            simp only [Sum.elim_inl]
            refine ⟨⟨ix.frame (fun a k hk => by simp (disch := omega) only [iu_ne]), fun a k hk => ?_, fun k => by simp (disch := omega) only [iu_ne]; exact ig k, Or.inr ⟨⟨by omega, by omega⟩, hc, ⟨⟨?_, ?_, ?_⟩, fun j j0 j1 => ?_⟩⟩⟩, ?_⟩
            · have h2 := hk
              unfold pmw at hk
              simp (disch := omega) only [iu_ne]
              exact if' a k h2
            · simp (disch := omega) only [iu_ne]; exact iv.1.1
            · simp (disch := omega) only [iu_ne, iu_eq]; rfl
            · rw [iu_eq]; rfl
            · exact (iv.2 j j0 j1).frame (fun a _ _ => by simp (disch := omega) only [iu_ne])
            · simp (disch := omega) only [iu_ne, iu_eq]
              have := iv.1.2.1
              omega
          · rw [ip_ifF (by omega), ip_P]
            simp only [Sum.elim_inr]
            refine ⟨ix.frame (fun a k hk => u3 a k (by omega)), fun a k hk => ?_, fun k => by rw [u3 397 k (by omega), u3 398 k (by omega)]; exact ig k, Or.inr ⟨trivial, ⟨⟨by omega, by omega⟩, hc⟩, ⟨⟨?_, u2⟩, fun j j0 j1 => ?_⟩, u1⟩⟩
            · have h2 := hk
              unfold pmw at hk
              rw [u3 a k (by omega)]
              exact if' a k h2
            · rw [u3 _ _ (by omega)]; exact iv.1.1
            · exact (iv.2 j j0 j1).frame (fun a _ _ => u3 a j (by omega))
    · rw [iv3.1.2.2]
      have efr : pfr (pgP R (atP (bg R s) 0 A.1)) = rs R 1 := rfl
      have done : Mx R τ' ∧ (∀ a k, ¬ pmw a k → τ' a k = τ a k) ∧ (∀ k, τ' 397 k = τ 397 k ∧ τ' 398 k = τ 398 k) ∧
          (((Sum.inl () : Unit ⊕ Int) = Sum.inl () ∧ ¬ ((pfr A.1 < sh R s + rs R 7 ∧ pfr A.1 ≠ rs R 1) ∧ 39 ≤ ppg A.1) ∧ PrN τ' (spP R s (atP (bg R s) 0 A.1))) ∨
           ((Sum.inl () : Unit ⊕ Int) = Sum.inr 0 ∧ ((pfr A.1 < sh R s + rs R 7 ∧ pfr A.1 ≠ rs R 1) ∧ 39 ≤ ppg A.1) ∧ PrM' τ' A.1 ∧ τ' 367 35 = bg R s)) := by
        refine ⟨ix, if', ig, Or.inl ⟨rfl, fun q => by omega, ?_⟩⟩
        unfold spP
        rw [epf, if_pos iv1]
        exact iv3
      rw [efr]
      by_cases c1 : sh R s + rs R 7 ≤ rs R 1
      · rw [ip_ifT c1, ip_P]
        exact done
      · rw [ip_ifF c1, ip_B, ip_Gt, iv3.1.2.2, efr, ip_B, ip_Ld, l_368]
        refine ⟨⟨by omega, by omega⟩, ?_⟩
        rw [e1, ip_ifT (by omega), ip_P]
        exact done
  · intro v τ1 ⟨w1, w2, wg, w3⟩
    rcases w3 with ⟨q1, q2, q3⟩ | ⟨q1, q2, q3, q4⟩
    · subst q1
      simp only [Sum.elim_inl]
      have hsA : spanA R s (begA R s A) = (frP (if 0 < pfr (spP R s (atP (bg R s) 0 A.1)) - sh R s then pfr (spP R s (atP (bg R s) 0 A.1)) - sh R s else 0) (spP R s (atP (bg R s) 0 A.1)), -1, s, up (aPg A) (s - 1) (ppg (spP R s (atP (bg R s) 0 A.1))), up (aAb A) (s - 1) (rs R 1 - pfr (spP R s (atP (bg R s) 0 A.1)))) := by
        unfold spanA
        exact if_neg q2
      have hfr : 0 ≤ pfr (spP R s (atP (bg R s) 0 A.1)) ∧ pfr (spP R s (atP (bg R s) 0 A.1)) ≤ rs R 1 := by
        unfold spP
        split
        · exact ⟨by show 0 ≤ rs R 1; omega, Int.le_refl _⟩
        · exact ⟨k3.1, hfr1⟩
      rw [hsA] at hQ1
      generalize spP R s (atP (bg R s) 0 A.1) = P1 at *
      obtain ⟨-, -, -, -, -, B, Bs, -⟩ := id w1.2
      have e1 : τ1 368 1 = rs R 1 := rm_s w1.1 (by omega) (by omega)
      have es := Bs s (by omega) hs
      simp (disch := omega) only [ip_B, ip_Gt, ip_St, ip_Ld, ip_A, m_38, m_39, m_15, m_0, l_397, l_398, l_381, l_368, iu_ne, iu_eq, q3.1.2.1, q3.1.2.2, e1, es, iR]
      repeat refine And.intro (by omega) ?_
      have spans : ∀ τ2 : iMem, (∀ k, τ2 397 k = iu (iu τ1 397 s (ppg P1)) 398 s (rs R 1 - pfr P1) 397 k ∧ τ2 398 k = iu (iu τ1 397 s (ppg P1)) 398 s (rs R 1 - pfr P1) 398 k) → SpM R τ2 (frP (if 0 < pfr P1 - sh R s then pfr P1 - sh R s else 0) P1, -1, s, up (aPg A) (s - 1) (ppg P1), up (aAb A) (s - 1) (rs R 1 - pfr P1)) := by
        intro τ2 hq t t1 t2
        have h := hq t
        rw [h.1, h.2]
        show _ = (if t ≤ s then up (aPg A) (s - 1) (ppg P1) (t - 1) else -1) ∧ (t ≤ s → _ = up (aAb A) (s - 1) (rs R 1 - pfr P1) (t - 1))
        unfold up
        have hS1 := hS t t1 t2
        by_cases d : t = s
        · subst d
          rw [iu_ne (Or.inl (by omega)), iu_eq, iu_eq, if_pos (Int.le_refl _), if_pos rfl, if_pos rfl]
          exact ⟨rfl, fun _ => rfl⟩
        · simp (disch := omega) only [iu_ne]
          rw [(wg t).1, (wg t).2, if_neg (show ¬ t - 1 = s - 1 by omega), if_neg (show ¬ t - 1 = s - 1 by omega), hS1.1]
          refine ⟨?_, fun z => hS1.2 (by omega)⟩
          by_cases y : t ≤ s
          · rw [if_pos y, if_pos (by omega)]
          · rw [if_neg y, if_neg (by omega)]
      by_cases c : pfr P1 ≤ sh R s
      · rw [ip_ifT c, ip_B, ip_Pt, ip_P]
        refine hQ1 _ (w1.frame (fun a k hk => by simp (disch := omega) only [iu_ne])) rfl ⟨⟨?_, ?_, ?_⟩, fun j j0 j1 => ?_⟩ (spans _ (fun k => ⟨iu_ne (Or.inl (by omega)), iu_ne (Or.inl (by omega))⟩)) (fun a k hk => ?_)
        · simp (disch := omega) only [iu_ne]; exact q3.1.1
        · simp (disch := omega) only [iu_ne]; exact q3.1.2.1
        · rw [iu_eq]; show 0 = (if 0 < pfr P1 - sh R s then pfr P1 - sh R s else 0); rw [if_neg (by omega)]
        · exact (q3.2 j j0 j1).frame (fun a _ _ => by simp (disch := omega) only [iu_ne])
        · have h2 := hk
          unfold pmw at hk
          simp (disch := omega) only [iu_ne]
          exact w2 a k h2
      · rw [ip_ifF c]
        simp (disch := omega) only [ip_B, ip_Gt, ip_Pt, ip_Ld, ip_A, ip_P, l_381, iu_ne, q3.1.2.2, es, iR]
        repeat refine And.intro (by omega) ?_
        refine hQ1 _ (w1.frame (fun a k hk => by simp (disch := omega) only [iu_ne])) rfl ⟨⟨?_, ?_, ?_⟩, fun j j0 j1 => ?_⟩ (spans _ (fun k => ⟨iu_ne (Or.inl (by omega)), iu_ne (Or.inl (by omega))⟩)) (fun a k hk => ?_)
        · simp (disch := omega) only [iu_ne]; exact q3.1.1
        · simp (disch := omega) only [iu_ne]; exact q3.1.2.1
        · rw [iu_eq]; show _ = (if 0 < pfr P1 - sh R s then pfr P1 - sh R s else 0); rw [if_pos (by omega)]
        · exact (q3.2 j j0 j1).frame (fun a _ _ => by simp (disch := omega) only [iu_ne])
        · have h2 := hk
          unfold pmw at hk
          simp (disch := omega) only [iu_ne]
          exact w2 a k h2
    · subst q1
      simp only [Sum.elim_inr, ip_P]
      have hsA : spanA R s (begA R s A) = ((begA R s A).1, bg R s, aSp A, aPg A, aAb A) := by
        unfold spanA
        exact if_pos q2
      rw [hsA] at hQ2
      refine hQ2 τ1 w1 (by show bg R s ≠ -1; omega) q3 (fun t t1 t2 => ?_) q4 w2
      rw [(wg t).1, (wg t).2]
      exact hS t t1 t2
set_option maxHeartbeats 1000000 in
theorem ip_pours {Q : Int → iMem → Prop} (hw : WF R) (hR : RunM τ 368 0 R)
    (hQ : ∀ τ', Mx R τ' → PoM R τ' (pou R) → (∀ a k, ¬ (mlw a k ∨ pmw a k) → τ' a k = τ a k) → Q (ans R) τ') : ip (iz_Model_pours 367) Q τ := by
  have hH := hw.2.1.2.1
  have hns := ns_in hw
  have hn := hw.1.2
  have hn0 := hw.1.1
  have h90 := hw.2.2.2
  unfold iz_Model_pours
  rw [ip_B]
  refine ip_lays hw hR (fun τ0 hF hf => ?_)
  have x0 : Mx R τ0 := ⟨hR.frame (fun k => hf 368 k (by unfold mlw; omega)), hF⟩
  have e1 : τ0 368 1 = rs R 1 := rm_s x0.1 (by omega) (by omega)
  simp (disch := omega) only [ip_B, ip_Pt, ip_Ld, m_0, l_368, iu_ne, iu_eq, e1]
  refine ⟨by omega, ?_⟩
  refine ip_mono (Q := fun _ τ' => Mx R τ' ∧ τ' 367 32 = 0 ∧ τ' 367 33 = 0 ∧ τ' 367 34 = rs R 1 ∧ (∀ s, 0 ≤ s → s < ns R → τ' 397 s = -1) ∧ (∀ a k, ¬ (mlw a k ∨ pmw a k) → τ' a k = τ a k)) ?_ ?_
  · refine ip_W (fun n τ' => 0 ≤ n ∧ n ≤ ns R ∧ Mx R τ' ∧ τ' 367 32 = 0 ∧ τ' 367 33 = 0 ∧ τ' 367 34 = rs R 1 ∧ (∀ s, 0 ≤ s → s < n → τ' 397 s = -1) ∧ (∀ a k, ¬ (mlw a k ∨ pmw a k) → τ' a k = τ a k)) (fun n _ => (ns R - n).toNat) ?_ ⟨Int.le_refl _, hns.1, x0.frame (fun a k hk => by simp (disch := omega) only [iu_ne]), ?_, ?_, ?_, fun s h1 h2 => by omega, fun a k hk => ?_⟩
    · intro n τ' ⟨g0, g1, gx, g32, g33, g34, gs, gf⟩
      rw [ip_B, ip_Gt, gx.2.2.1]
      by_cases c1 : ns R ≤ n
      · have : n = ns R := by omega
        subst this
        rw [ip_ifT c1, ip_P]
        exact ⟨gx, g32, g33, g34, gs, gf⟩
      · rw [ip_ifF c1, ip_B, ip_St, m_38, l_397]
        refine ⟨⟨⟨by omega, by omega⟩, by omega⟩, ?_⟩
        rw [ip_A]
        refine ⟨⟨by omega, by omega⟩, ?_⟩
        rw [ip_B, ip_P, ip_P]
        simp only [Sum.elim_inl]
        refine ⟨⟨by omega, by omega, gx.frame (fun a k hk => by simp (disch := omega) only [iu_ne]), by rw [iu_ne (Or.inl (by omega))]; exact g32, by rw [iu_ne (Or.inl (by omega))]; exact g33, by rw [iu_ne (Or.inl (by omega))]; exact g34, fun s h1 h2 => ?_, fun a k hk => ?_⟩, by omega⟩
        · by_cases d : s = n
          · subst d; rw [iu_eq]
          · rw [iu_ne (Or.inr d)]; exact gs s h1 (by omega)
        · have h2 := hk
          unfold pmw at hk
          rw [iu_ne (Or.inl (fun z => hk (Or.inr (by omega))))]
          exact gf a k h2
    · simp (disch := omega) only [iu_ne, iu_eq]
    · simp (disch := omega) only [iu_ne, iu_eq]
    · rw [iu_eq]
    · have hnp : ¬ pmw a k := fun z => hk (Or.inr z)
      unfold pmw at hnp
      simp (disch := omega) only [iu_ne]
      exact hf a k (fun z => hk (Or.inl z))
  · intro _ τ1 ⟨v1, v2, v3, v4, v5, v6⟩
    have P0 : PrN τ1 (ini R).1 := ⟨⟨v2, v3, v4⟩, fun i h1 h2 => by have h2 : i < 0 := h2; omega⟩
    have S0 : SpM R τ1 (ini R) := fun t t1 t2 => ⟨by rw [v5 t (by omega) t2]; show -1 = (if t ≤ 0 then _ else -1); rw [if_neg (by omega)], fun z => by have z : t ≤ 0 := z; omega⟩
    have hA : ∀ τ', Mx R τ' → PoM R τ' (pou R) → (∀ a k, ¬ (mlw a k ∨ pmw a k) → τ' a k = τ a k) → Q (ans R) τ' := hQ
    have hok := pou_ok hw
    refine ip_mono (Q := fun (v : Unit ⊕ Int) τ' => Mx R τ' ∧ (∀ a k, ¬ (mlw a k ∨ pmw a k) → τ' a k = τ a k) ∧ PoM R τ' (pou R) ∧ ((v = Sum.inl () ∧ aSt (pou R) = -1) ∨ (v = Sum.inr (-2 - aSt (pou R)) ∧ aSt (pou R) ≠ -1))) ?_ ?_
    · refine ip_W (fun n τ' => 0 ≤ n ∧ n ≤ ns R ∧ Mx R τ' ∧ aSt (allN R (ini R) n.toNat) = -1 ∧ PrN τ' (allN R (ini R) n.toNat).1 ∧ SpM R τ' (allN R (ini R) n.toNat) ∧ (∀ a k, ¬ (mlw a k ∨ pmw a k) → τ' a k = τ a k)) (fun n _ => (ns R - n).toNat) ?_ ⟨Int.le_refl _, hns.1, v1, rfl, P0, S0, v6⟩
      intro n τ' ⟨g0, g1, gx, gst, gP, gS, gf⟩
      rw [ip_B, ip_Gt, gx.2.2.1]
      by_cases c1 : ns R ≤ n
      · have : n = ns R := by omega
        subst this
        rw [ip_ifT c1, ip_P]
        exact ⟨gx, gf, ⟨⟨gP.1.1, gP.1.2.1⟩, gP.2, gS⟩, Or.inl ⟨rfl, gst⟩⟩
      · have hokn := allN_ok hw n.toNat (by omega)
        have hfrn := allN_fr hw n.toNat (by omega)
        rw [show ((n.toNat : Nat) : Int) = n by omega] at hokn
        have est := allN_st (R := R) (A := ini R) (n := n.toNat) gst
        rw [show ((n.toNat : Nat) : Int) = n by omega] at est
        have htn := tS_in (R := R) g0
        have en : (n + 1).toNat = n.toNat + 1 := by omega
        have hstay : aSt (allN R (ini R) (n.toNat + 1)) ≠ -1 → pou R = allN R (ini R) (n.toNat + 1) := by
          intro h
          unfold pou
          have := allN_stay (R := R) (A := ini R) (n := n.toNat + 1) h ((ns R).toNat - (n.toNat + 1))
          rwa [show n.toNat + 1 + ((ns R).toNat - (n.toNat + 1)) = (ns R).toNat by omega] at this
        have hbB : okA R n (allN R (ini R) n.toNat) := hokn
        generalize allN R (ini R) n.toNat = A at *
        obtain ⟨a1, a2, a3, a4, a5, a6, a7⟩ := hokn
        -- a SECTION
        have sect : ∀ (B : aA) (τ2 : iMem), allN R (ini R) (n.toNat + 1) = secA R n B → (∃ x y, ∃ P, B.1 = atP (bg R n) 0 P ∧ PrN τ2 P ∧ okD R P ∧ pcn P ≤ 5 * ppg P + 85 ∧ x = pat P ∧ y = pca P) → aSt B = -1 → SpM R τ2 B → Mx R τ2 → (∀ a k, ¬ (mlw a k ∨ pmw a k) → τ2 a k = τ a k) → ip (iB (iz_Model_poursSection 367 n) fun x12 => if ¬ x12 = 0 then iA (n + 1) fun y3 => iB (iP y3) fun x13 => iP (Sum.inl x13 : Int ⊕ (Unit ⊕ Int)) else iB (iGt 367 35) fun x14 => iA ((-2) - x14) fun y4 => iP (Sum.inr (Sum.inr y4))) (fun r τ' => Sum.elim (fun s' => (0 ≤ s' ∧ s' ≤ ns R ∧ Mx R τ' ∧ aSt (allN R (ini R) s'.toNat) = -1 ∧ PrN τ' (allN R (ini R) s'.toNat).1 ∧ SpM R τ' (allN R (ini R) s'.toNat) ∧ ∀ (a : Nat) (k : Int), ¬ (mlw a k ∨ pmw a k) → τ' a k = τ a k) ∧ (ns R - s').toNat < (ns R - n).toNat) (fun v => Mx R τ' ∧ (∀ (a : Nat) (k : Int), ¬ (mlw a k ∨ pmw a k) → τ' a k = τ a k) ∧ PoM R τ' (pou R) ∧ ((v = Sum.inl () ∧ aSt (pou R) = -1) ∨ (v = Sum.inr (-2 - aSt (pou R)) ∧ aSt (pou R) ≠ -1))) r) τ2 := by
          intro B τ2 eB ⟨x, y, P, b1, b2, b3, b4, _, _⟩ bst bS bx bf
          have fr : ∀ τ3 : iMem, (∀ a k, ¬ pmw a k → τ3 a k = τ2 a k) → ∀ a k, ¬ (mlw a k ∨ pmw a k) → τ3 a k = τ a k := fun τ3 h a k hk => (h a k (fun z => hk (Or.inr z))).trans (bf a k hk)
          have sfr : ∀ (τ3 : iMem) (C : aA), (∀ k, τ3 397 k = τ2 397 k ∧ τ3 398 k = τ2 398 k) → aSp C = aSp B → aPg C = aPg B → aAb C = aAb B → SpM R τ3 C := fun τ3 C h h1 h2 h3 t t1 t2 => by
            rw [(h t).1, (h t).2, h1, h2, h3]
            exact bS t t1 t2
          have cont : ∀ τ3 : iMem, aSt (secA R n B) = -1 → PrN τ3 (secA R n B).1 → SpM R τ3 (secA R n B) → Mx R τ3 → (∀ a k, ¬ (mlw a k ∨ pmw a k) → τ3 a k = τ a k) → ip (if ¬ (1 : Int) = 0 then iA (n + 1) fun y3 => iB (iP y3) fun x13 => iP (Sum.inl x13 : Int ⊕ (Unit ⊕ Int)) else iB (iGt 367 35) fun x14 => iA ((-2) - x14) fun y4 => iP (Sum.inr (Sum.inr y4))) (fun r τ' => Sum.elim (fun s' => (0 ≤ s' ∧ s' ≤ ns R ∧ Mx R τ' ∧ aSt (allN R (ini R) s'.toNat) = -1 ∧ PrN τ' (allN R (ini R) s'.toNat).1 ∧ SpM R τ' (allN R (ini R) s'.toNat) ∧ ∀ (a : Nat) (k : Int), ¬ (mlw a k ∨ pmw a k) → τ' a k = τ a k) ∧ (ns R - s').toNat < (ns R - n).toNat) (fun v => Mx R τ' ∧ (∀ (a : Nat) (k : Int), ¬ (mlw a k ∨ pmw a k) → τ' a k = τ a k) ∧ PoM R τ' (pou R) ∧ ((v = Sum.inl () ∧ aSt (pou R) = -1) ∨ (v = Sum.inr (-2 - aSt (pou R)) ∧ aSt (pou R) ≠ -1))) r) τ3 := by
            intro τ3 c1 c2 c3 c4 c5
            rw [ip_ifT (by omega), ip_A]
            refine ⟨⟨by omega, by omega⟩, ?_⟩
            rw [ip_B, ip_P, ip_P]
            simp only [Sum.elim_inl]
            rw [en, eB]
            exact ⟨⟨by omega, by omega, c4, c1, c2, c3, c5⟩, by omega⟩
          rw [ip_B]
          refine ip_poursSection (P := atP (τ2 367 36) (τ2 367 37) P) hw bx b2.m b3 b4 g0 (by omega) (fun τ3 u1 u2 u3 u4 u5 => ?_) (fun τ3 u1 u2 u3 u4 u5 u6 => ?_) (fun τ3 u1 u2 u3 u4 u5 u6 u7 => ?_)
          · have es : secA R n B = B := by
              unfold secA
              rw [b1, if_pos (Or.inr (by show bg R (n + 1) ≤ bg R n; exact u2))]
            refine cont τ3 (by rw [es]; exact bst) (by rw [es, b1]; exact u3.n) (by rw [es]; exact sfr τ3 B u5 rfl rfl rfl) u1 (fr τ3 u4)
          · have es : secA R n B = ((secN R n 41 (atP (bg R n) 0 P)).1, (secN R n 41 (atP (bg R n) 0 P)).2, aSp B, aPg B, aAb B) := by
              unfold secA
              rw [b1, if_neg (by rw [bst]; show ¬ ((-1 : Int) ≠ -1 ∨ bg R (n + 1) ≤ bg R n); omega)]
            refine cont τ3 (by rw [es]; exact u3) (by rw [es]; exact u4.n) (by rw [es]; exact sfr τ3 _ u6 rfl rfl rfl) u1 (fr τ3 u5)
          · have es : secA R n B = ((secN R n 41 (atP (bg R n) 0 P)).1, (secN R n 41 (atP (bg R n) 0 P)).2, aSp B, aPg B, aAb B) := by
              unfold secA
              rw [b1, if_neg (by rw [bst]; show ¬ ((-1 : Int) ≠ -1 ∨ bg R (n + 1) ≤ bg R n); omega)]
            have hpo : pou R = secA R n B := by rw [← eB]; exact hstay (by rw [eB, es]; exact u3)
            have hst := hok.2.1
            have e35 : τ3 367 35 = aSt (pou R) := by rw [hpo, es]; exact u5
            rw [ip_ifF (by omega), ip_B, ip_Gt, e35, ip_A]
            refine ⟨⟨by omega, by omega⟩, ?_⟩
            rw [ip_P]
            simp only [Sum.elim_inr]
            refine ⟨u1, fr τ3 u6, ?_, Or.inr ⟨trivial, by rw [hpo, es]; exact u3⟩⟩
            rw [hpo, es]
            exact ⟨u4.1, u4.2, sfr τ3 _ u7 rfl rfl rfl⟩
        rw [ip_ifF c1, ip_B]
        by_cases c3 : n ≤ 0
        · rw [ip_ifT c3, ip_P]
          simp only [Sum.elim_inl]
          rw [if_pos (by omega)] at est
          exact sect (begA R n A) τ' est ⟨_, _, A.1, rfl, gP, a1, by omega, rfl, rfl⟩ gst gS gx gf
        · rw [if_neg (by omega)] at est
          rw [ip_ifF c3, ip_B]
          refine ip_poursSpan hw gx gP a1 hfrn (by omega) (by omega) (a5 gst (by omega)) gS (fun τ2 u1 u2 u3 u4 u5 => ?_) (fun τ2 u1 u2 u3 u4 u5 u6 => ?_)
          · rw [ip_ifT (by omega), ip_P]
            simp only [Sum.elim_inl]
            refine sect (spanA R n (begA R n A)) τ2 est ⟨_, _, (spanA R n (begA R n A)).1, ?_, u3, ?_, ?_, rfl, rfl⟩ u2 u4 u1 (fun a k hk => (u5 a k (fun z => hk (Or.inr z))).trans (gf a k hk))
            · unfold spanA spP
              split
              · rfl
              · split <;> rfl
            · have hsh := sh_in hw g0 (by omega : n < ns R)
              have eb : (begA R n A).1 = atP (bg R n) 0 A.1 := rfl
              unfold spanA spP
              rw [eb]
              obtain ⟨m1, m2, m3, m4⟩ := id a1
              split
              · exact ⟨m1, m2, m3, m4⟩
              · rename_i hno
                have hno : ¬ ((pfr A.1 < sh R n + rs R 7 ∧ pfr A.1 ≠ rs R 1) ∧ 39 ≤ ppg A.1) := hno
                split
                · rename_i hyes
                  have hyes : pfr A.1 < sh R n + rs R 7 ∧ pfr A.1 ≠ rs R 1 := hyes
                  refine ⟨m1, ⟨by show 0 ≤ ppg A.1 + 1; omega, by show ppg A.1 + 1 ≤ 39; have : ¬ 39 ≤ ppg A.1 := fun q => hno ⟨hyes, q⟩; omega⟩, ⟨?_, ?_⟩, m4⟩
                  · show 0 ≤ (if 0 < rs R 1 - sh R n then rs R 1 - sh R n else 0); split <;> omega
                  · show (if 0 < rs R 1 - sh R n then rs R 1 - sh R n else 0) ≤ 400; split <;> omega
                · refine ⟨m1, m2, ⟨?_, ?_⟩, m4⟩
                  · show 0 ≤ (if 0 < pfr A.1 - sh R n then pfr A.1 - sh R n else 0); split <;> omega
                  · show (if 0 < pfr A.1 - sh R n then pfr A.1 - sh R n else 0) ≤ 400; split <;> omega
            · have e1 : pcn (spanA R n (begA R n A)).1 = pcn A.1 := by
                unfold spanA spP
                split
                · rfl
                · split <;> rfl
              have e2 : ppg A.1 ≤ ppg (spanA R n (begA R n A)).1 := by
                unfold spanA spP
                split
                · exact Int.le_refl _
                · split
                  · show ppg A.1 ≤ ppg A.1 + 1; omega
                  · exact Int.le_refl _
              omega
          · have hse : secA R n (spanA R n (begA R n A)) = spanA R n (begA R n A) := by
              unfold secA
              rw [if_pos (Or.inl u2)]
            have hpo : pou R = spanA R n (begA R n A) := by rw [← hse, ← est]; exact hstay (by rw [est, hse]; exact u2)
            have hst := hok.2.1
            rw [ip_ifF (by omega), ip_B, ip_Gt, u5, ← hpo, ip_A]
            refine ⟨⟨by omega, by omega⟩, ?_⟩
            rw [ip_P]
            simp only [Sum.elim_inr, ip_P]
            refine ⟨u1, fun a k hk => (u6 a k (fun z => hk (Or.inr z))).trans (gf a k hk), ?_, Or.inr ⟨trivial, by rw [hpo]; exact u2⟩⟩
            rw [hpo]
            exact ⟨u3.1, u3.2, u4⟩
    · intro v τ2 ⟨w1, w2, w3, w4⟩
      have hA := hQ τ2 w1 w3 w2
      unfold ans at hA
      rcases w4 with ⟨q1, q2⟩ | ⟨q1, q2⟩
      · subst q1
        rw [if_pos q2] at hA
        simp only [Sum.elim_inl]
        rw [ip_B, ip_blocks, rm_n w1.1]
        by_cases z : rn R = 0
        · have : ns R = 0 := by unfold ns; rw [if_pos (by omega)]
          rw [if_pos this] at hA
          rw [ip_ifF (by omega), ip_P]
          exact hA
        · have hnz : ns R ≠ 0 := by
            have := sc_in (R := R) hn0
            unfold ns
            rw [if_neg (by omega)]
            omega
          rw [if_neg hnz] at hA
          have := hok.1.2.1
          rw [ip_ifT z, ip_B, ip_Gt, w3.1.2, ip_A]
          refine ⟨⟨by omega, by omega⟩, ?_⟩
          rw [ip_P]
          exact hA
      · subst q1
        rw [if_neg q2] at hA
        simp only [Sum.elim_inr, ip_P]
        exact hA
end
