/-! ===== the object reads all ===== -/
theorem l_405 : iLen 405 = 8 := by decide +kernel
section
variable {L : Int} {T : Int → Int} {τ : iMem}
theorem ip_clear {Q : Unit → iMem → Prop} (hS : StS τ) (hQ : ∀ τ', RunC τ' 7 R00 → (∀ a k, ¬ (7 ≤ a ∧ a ≤ 9) → τ' a k = τ a k) → Q () τ') : ip (iz_Run_clear 7) Q τ := by
  unfold iz_Run_clear
  rw [ip_B, ip_Pt, ip_B]
  refine ip_mono (Q := fun _ τ1 => (∀ k, 0 ≤ k → k < 8 → τ1 8 k = fiV k) ∧ (∀ a k, a ≠ 8 → τ1 a k = iu τ 7 0 0 a k)) ?_ (fun _ τ1 g => ?_)
  · refine ip_W (fun s τ1 => (0 ≤ s ∧ s ≤ 8) ∧ (∀ k, 0 ≤ k → k < s → τ1 8 k = fiV k) ∧ (∀ a k, a ≠ 8 → τ1 a k = iu τ 7 0 0 a k)) (fun s _ => (8 - s).toNat) ?_ ⟨⟨Int.le_refl _, by omega⟩, fun k k0 k1 => by omega, fun _ _ _ => rfl⟩
    intro s τ1 ⟨b1, b2, b3⟩
    by_cases c : 8 ≤ s
    · rw [ip_ifT c, ip_P]
      simp only [Sum.elim_inr]
      exact ⟨fun k k0 k1 => b2 k k0 (by omega), b3⟩
    · rw [ip_ifF c, ip_B, ip_Ld, l_405, b3 _ _ (by omega), iu_ne (Or.inl (by omega)), hS.2 s b1.1 (by omega)]
      refine ⟨⟨by omega, by omega⟩, ?_⟩
      rw [ip_B, ip_St, rr_1 isRun_7, rl_1 isRun_7]
      refine ⟨⟨⟨by omega, by omega⟩, by omega⟩, ?_⟩
      rw [ip_A]
      refine ⟨⟨by omega, by omega⟩, ?_⟩
      rw [ip_B, ip_P, ip_P]
      simp only [Sum.elim_inl]
      refine ⟨⟨⟨by omega, by omega⟩, fun k k0 k1 => ?_, fun a k z => ?_⟩, by omega⟩
      · by_cases z : k = s
        · rw [z, iu_eq]
        · rw [iu_ne (Or.inr z)]; exact b2 k k0 (by omega)
      · rw [iu_ne (Or.inl z)]; exact b3 a k z
  · rw [ip_P]
    refine hQ τ1 ⟨?_, fun k k0 k1 => g.1 k k0 k1, fun b w b0 b1 _ _ => ?_⟩ (fun a k z => ?_)
    · rw [g.2 _ _ (by omega), iu_eq]; rfl
    · have : rn R00 = 0 := rfl
      omega
    · rw [g.2 _ _ (by omega), iu_ne (by omega)]
theorem bt_b (j : Int) : bt 0 j = false := bt_0 j
theorem ip_read {Q : Int → iMem → Prop} (hW : TaW L T) (hT : TaC L T τ) (hS : StS τ)
    (hQ : ∀ v τ', ((∃ f, prA L T = Sum.inl f ∧ v = -2 - f ∧ 0 ≤ f ∧ f ≤ 3300) ∨ ∃ R', prA L T = Sum.inr R' ∧ v = np R' ∧ RunC τ' 7 R') → (∀ a k, ¬ (6 ≤ a ∧ a ≤ 12) → τ' a k = τ a k) → Q v τ') : ip (iz_Teller_read 6) Q τ := by
  have hL := hW.1
  have hs0 := sk_in (T := T) hL.1
  generalize hW0 : prA L T = W0 at hQ
  unfold iz_Teller_read
  rw [u_1, ip_B]
  refine ip_clear hS (fun τ1 w1 w2 => ?_)
  rw [ip_B]
  refine ip_split hW (hT.frame (w2 _ _ (by omega)) (fun k => w2 _ _ (by omega))) (fun N τ2 x1 x2 => ?_)
  rw [ip_B, ip_Pt, ip_B, ip_Pt, ip_B, ip_Pt, ip_B]
  generalize hτ : iu (iu (iu τ2 6 5 0) 6 6 (-1)) 6 7 0 = τ3
  have hK : TK L T N τ2 := x1
  have hInvS : InvS τ2 := (hS.frame (fun a k z => by rw [x2 a k (by omega), w2 a k (by omega)])).1
  have h3 : Lv L T N τ2 (sk L T 0) 0 R00 τ3 := by
    rw [← hτ]
    refine ⟨by rw [iu_ne (Or.inr (by omega)), iu_eq], ⟨0, by rw [iu_ne (Or.inr (by omega)), iu_ne (Or.inr (by omega)), iu_eq]; rfl, Nat.zero_le _, rfl⟩, iu_eq, ?_, fun a k z => by rw [iu_ne (by omega), iu_ne (by omega), iu_ne (by omega)]⟩
    exact w1.frame (fun a k _ _ => by rw [iu_ne (Or.inl (by omega)), iu_ne (Or.inl (by omega)), iu_ne (Or.inl (by omega)), x2 a k (by omega)])
  have fin : ∀ τ4, fr6 τ2 τ4 → ∀ a k, ¬ (6 ≤ a ∧ a ≤ 12) → τ4 a k = τ a k := fun τ4 h a k z => by rw [h a k (by omega), x2 a k (by omega), w2 a k (by omega)]
  rw [ip_sign hW hK h3, ip_B]
  refine ip_mono (Q := fun v τ4 => τ4 = τ3 ∧ ((v = 0 ∧ sn L T (sk L T 0) = 4) ∨ (v = 1 ∧ sn L T (sk L T 0) ≠ 4))) ?_ (fun v τ4 e => ?_)
  · by_cases c : sn L T (sk L T 0) = 4
    · rw [ip_ifT c, ip_P]; exact ⟨rfl, Or.inl ⟨rfl, c⟩⟩
    · rw [ip_ifF c, ip_P]; exact ⟨rfl, Or.inr ⟨rfl, c⟩⟩
  · obtain ⟨et, e⟩ := e
    subst et
    have start : (v = 0 ∧ ((∃ f, W0 = Sum.inl f ∧ Dd N τ2 f τ4) ∨ ∃ R' q told, W0 = Sum.inr R' ∧ WF R' ∧ Lv L T N τ2 q told R' τ4)) ∨ (v = 1 ∧ ∃ (m : Nat) (q : Int) (R : aRun) (ts told : Int), prs L T m q R ts = W0 ∧ L - q + 1 ≤ m ∧ (0 : Int) ≤ q ∧ WF R ∧ (0 ≤ ts ∧ ts < 256) ∧ tsB told ts ∧ Lv L T N τ2 q told R τ4) := by
      rcases e with ⟨e1, e2⟩ | ⟨e1, e2⟩
      · refine Or.inl ⟨e1, Or.inr ⟨R00, _, _, ?_, R00_wf, h3⟩⟩
        rw [← hW0]
        unfold prA
        rw [if_pos e2]
      · refine Or.inr ⟨e1, 401, sk L T 0, R00, 0, 0, ?_, by omega, hs0.1.1, R00_wf, ⟨by omega, by omega⟩, ⟨⟨by omega, by omega⟩, fun j _ _ => rfl⟩, h3⟩
        rw [← hW0]
        unfold prA
        rw [if_neg e2]
    rw [ip_B]
    refine ip_mono (Q := fun _ τ5 => (∃ f, W0 = Sum.inl f ∧ Dd N τ2 f τ5) ∨ ∃ R' q told, W0 = Sum.inr R' ∧ WF R' ∧ Lv L T N τ2 q told R' τ5) ?_ (fun _ τ5 g => ?_)
    · refine ip_W (fun (s : Int × Int) τ5 => (0 ≤ s.2 ∧ s.2 ≤ 401) ∧ ((s.1 = 0 ∧ ((∃ f, W0 = Sum.inl f ∧ Dd N τ2 f τ5) ∨ ∃ R' q told, W0 = Sum.inr R' ∧ WF R' ∧ Lv L T N τ2 q told R' τ5)) ∨ (s.1 = 1 ∧ ∃ (m : Nat) (q : Int) (R : aRun) (ts told : Int), prs L T m q R ts = W0 ∧ L - q + 1 ≤ m ∧ s.2 ≤ q ∧ WF R ∧ (0 ≤ ts ∧ ts < 256) ∧ tsB told ts ∧ Lv L T N τ2 q told R τ5))) (fun s _ => (401 - s.2).toNat) ?_ ⟨⟨Int.le_refl _, by show (0 : Int) ≤ 401; omega⟩, start⟩
      intro s τ5 ⟨b1, b2⟩
      obtain ⟨more, i⟩ := s
      dsimp only at b1 b2 ⊢
      rcases b2 with ⟨b2, b3⟩ | ⟨b2, m, q, R, ts, told, g1, g2, g3, g4, g5, g6, g7⟩
      · rw [ip_ifT b2, ip_P]
        exact b3
      · have hq := g7.at hW hK
        obtain ⟨m', rfl⟩ : ∃ m', m = m' + 1 := ⟨m - 1, by omega⟩
        have eS : prs L T (m' + 1) q R ts = Sum.elim Sum.inl (fun s => if sn L T s.1 = 4 then Sum.inr s.2.1 else if sn L T s.1 = 2 then prs L T m' (nx L T s.1) s.2.1 s.2.2 else Sum.inl (8 * s.1 + 1)) (prt L T q R ts) := rfl
        rw [eS] at g1
        have tail : ∀ (s9 : Int) (τ6 : iMem), ((s9 = 0 ∧ ((∃ f, W0 = Sum.inl f ∧ Dd N τ2 f τ6) ∨ ∃ R' q told, W0 = Sum.inr R' ∧ WF R' ∧ Lv L T N τ2 q told R' τ6)) ∨ (s9 = 1 ∧ ∃ (m : Nat) (q : Int) (R : aRun) (ts told : Int), prs L T m q R ts = W0 ∧ L - q + 1 ≤ m ∧ i + 1 ≤ q ∧ WF R ∧ (0 ≤ ts ∧ ts < 256) ∧ tsB told ts ∧ Lv L T N τ2 q told R τ6)) →
            ip (iA (i + 1) fun y2 => iB (iP y2) fun x14 => iP (Sum.inl (s9, x14) : (Int × Int) ⊕ Unit)) (fun r τ' => Sum.elim (fun (s' : Int × Int) => ((0 ≤ s'.2 ∧ s'.2 ≤ 401) ∧ ((s'.1 = 0 ∧ ((∃ f, W0 = Sum.inl f ∧ Dd N τ2 f τ') ∨ ∃ R' q told, W0 = Sum.inr R' ∧ WF R' ∧ Lv L T N τ2 q told R' τ')) ∨ (s'.1 = 1 ∧ ∃ (m : Nat) (q : Int) (R : aRun) (ts told : Int), prs L T m q R ts = W0 ∧ L - q + 1 ≤ m ∧ s'.2 ≤ q ∧ WF R ∧ (0 ≤ ts ∧ ts < 256) ∧ tsB told ts ∧ Lv L T N τ2 q told R τ'))) ∧ (401 - s'.2).toNat < (401 - i).toNat) (fun _ => (∃ f, W0 = Sum.inl f ∧ Dd N τ2 f τ') ∨ ∃ R' q told, W0 = Sum.inr R' ∧ WF R' ∧ Lv L T N τ2 q told R' τ') r) τ6 := by
          intro s9 τ6 z
          rw [ip_A]
          refine ⟨⟨by omega, by omega⟩, ?_⟩
          rw [ip_B, ip_P, ip_P]
          simp only [Sum.elim_inl]
          exact ⟨⟨⟨by omega, by omega⟩, z⟩, by omega⟩
        rw [ip_ifF (by omega), ip_ifF (by omega), ip_B]
        refine ip_readPart hW hK hInvS g4 g7 g6 g5.1 g5.2 (fun τ6 hp => ?_)
        rw [ip_B, ip_Gt]
        -- a FAULT
        have dead : ∀ f, W0 = Sum.inl f → Dd N τ2 f τ6 → _ := fun f e hd => tail 0 τ6 (Or.inl ⟨rfl, Or.inl ⟨f, e, hd⟩⟩)
        rcases hp with ⟨f, p1, p2⟩ | ⟨q', R', ts', told', p1, p2, p3⟩ | ⟨q', R', ts', p1, p2, p3⟩
        · rw [p2.1, ip_B, ip_B, ip_ifT (by have := p2.2.1; omega), ip_P]
          simp only [Sum.elim_inl, ip_P]
          rw [ip_B, ip_ifT trivial, ip_P, ip_B, ip_ifT rfl, ip_P]
          exact dead f (by rw [← g1, p1]; rfl) p2
        · have ok := prt_ok g4 g5.1 g5.2 hq.1 hL.2 p1
          rw [p1, Sum.elim_inr] at g1
          dsimp only at g1 ok
          rw [p3.1, ip_B, ip_B, ip_ifF (by omega), ip_B, ip_sign hW hK p3]
          by_cases c4 : sn L T q' = 4
          · rw [if_pos c4] at g1
            rw [ip_ifT c4, ip_P]
            simp only [Sum.elim_inl, ip_P]
            rw [ip_B, ip_ifT trivial, ip_P, ip_B, ip_ifT rfl, ip_P]
            exact tail 0 τ6 (Or.inl ⟨rfl, Or.inr ⟨R', q', told', g1.symm, ok.2.1, p3⟩⟩)
          · rw [if_neg c4] at g1
            rw [ip_ifF c4, ip_P]
            simp only [Sum.elim_inr, ip_P]
            rw [ip_B, ip_ifF (by omega), ip_B, ip_sign hW hK p3]
            by_cases c2 : sn L T q' = 2
            · rw [if_pos c2] at g1
              have hqL := (sn_lt (L := L) (T := T) (q := q') (by omega)).1
              have hnx := nx_in (T := T) hqL
              obtain ⟨j, j1, j2, j3, j4⟩ := p3.next hK hqL
              rw [ip_ifT c2, ip_P, ip_B, ip_ifF (by omega), ip_B, ip_Gt, j1, ip_A]
              have hN := tk_N hW hK
              refine ⟨⟨by omega, by omega⟩, ?_⟩
              rw [ip_B, ip_Pt, ip_P]
              exact tail 1 _ (Or.inr ⟨rfl, m', nx L T q', R', ts', told', g1, by omega, by omega, ok.2.1, ok.2.2, p2, j4⟩)
            · rw [if_neg c2] at g1
              have hq' := p3.at hW hK
              rw [ip_ifF c2, ip_B, ip_place hW hK p3, ip_B]
              refine ip_wrong p3 hq'.1 (by omega) (by omega) (by omega) (fun τ7 hd => ?_)
              rw [ip_P, ip_B, ip_ifT rfl, ip_P]
              exact tail 0 τ7 (Or.inl ⟨rfl, Or.inl ⟨_, g1.symm, hd⟩⟩)
        · rw [p1, Sum.elim_inr] at g1
          dsimp only at g1
          rw [if_neg (by omega), if_neg (by omega)] at g1
          rw [p3.1, ip_B, ip_B, ip_ifT (by have := p3.2.1; omega), ip_P]
          simp only [Sum.elim_inl, ip_P]
          rw [ip_B, ip_ifT trivial, ip_P, ip_B, ip_ifT rfl, ip_P]
          exact dead _ g1.symm p3
    · rcases g with ⟨f, g1, g2⟩ | ⟨R', q, told, g1, g2, g3⟩
      · have hb := g2.2.1
        rw [ip_B, ip_Gt, g2.1, ip_ifT (by omega), ip_B, ip_Gt, g2.1, ip_A]
        refine ⟨⟨by omega, by omega⟩, ?_⟩
        rw [ip_P]
        exact hQ _ τ5 (Or.inl ⟨f, g1, rfl, hb⟩) (fin τ5 g2.2.2.2)
      · rw [ip_B, ip_Gt, g3.1, ip_ifF (by omega), ip_B]
        refine ip_allPieces isRun_7 g2 g3.2.2.2.1 ?_
        rw [ip_P]
        exact hQ _ τ5 (Or.inr ⟨R', g1, rfl, g3.2.2.2.1⟩) (fin τ5 g3.2.2.2.2)
end
