section
variable {τ : iMem} {pr ft fl ru ra sp : Nat} {nr : Int} {R : aRun} {P : aP} {s : Int}
set_option maxHeartbeats 1000000 in
theorem ip_latest {p c h kk : Int} {Q : Int → iMem → Prop} (hf : isFit ft fl ru) (hw : WF R) (hx : Cx R ft fl ru τ) (h0 : 0 ≤ s) (hs : s < ns R) (hp : bg R s ≤ p) (hc : 0 ≤ c) (hc2 : c < 20) (hh : 0 ≤ h) (hh2 : h ≤ 2000) (hk : kk = -1 ∨ (0 ≤ kk ∧ kk ≤ 5 ∧ τ ft 5 = s ∧ τ ft 6 = h ∧ kk ≤ τ ft 7))
    (hQ : Q (last (fun e => en R e ∧ lo R p e c h ≠ -1 ∧ (kk = -1 ∨ lo R p e c h ≤ be R s h kk.toNat e)) p (bg R (s + 1))) τ) : ip (iz_Fitter_latest ft s p c h kk) Q τ := by
  have hff := ft_F hf
  have hb := bg_step hw s
  have h90 := hw.2.2.2
  have hns := ns_in hw
  have hn := hw.1.2
  have hn0 := rn_pos h0 hs
  obtain ⟨x1, x2, x3, x4⟩ := id hx
  obtain ⟨-, -, -, -, Bs⟩ := id x2
  unfold iz_Fitter_latest
  rw [ft_1 hf, fl_17 hff, ip_B, ip_at h0 (by rw [fl_l14 hff]; omega), (Bs s h0 hs).2.1, ip_B, ip_B]
  generalize hPe : (fun e => en R e ∧ lo R p e c h ≠ -1 ∧ (kk = -1 ∨ lo R p e c h ≤ be R s h kk.toNat e)) = Pe at hQ
  have hPe : ∀ e, Pe e ↔ (en R e ∧ lo R p e c h ≠ -1 ∧ (kk = -1 ∨ lo R p e c h ≤ be R s h kk.toNat e)) := fun e => by rw [← hPe]
  refine ip_W (fun e τ' => τ' = τ ∧ e ≤ bg R (s + 1) ∧ (p ≤ e + 1 ∨ bg R (s + 1) < p) ∧ ∀ e', e < e' → e' ≤ bg R (s + 1) → ¬ Pe e') (fun e _ => (e + 1 - p).toNat) ?_ ⟨rfl, Int.le_refl _, by omega, fun e' h1 h2 => by omega⟩
  intro e τ' ⟨et, g1, g2, g3⟩
  subst et
  by_cases c1 : e < p
  · rw [ip_ifT c1, ip_P]
    simp only [Sum.elim_inl, Sum.elim_inr, ip_P]
    have := last_no (P := Pe) (a := p) (b := bg R (s + 1)) (fun e' h1 h2 => g3 e' (by omega) h2)
    rw [this] at hQ
    exact hQ
  · rw [ip_ifF c1, ip_B]
    have next : ¬ Pe e → ip (iA (e + (-1)) fun y1 => iB (iP y1) fun x9 => iP (Sum.inl x9 : Int ⊕ (Unit ⊕ (Int ⊕ Int)))) (fun r τ'' => Sum.elim (fun s' => (τ'' = τ' ∧ s' ≤ bg R (s + 1) ∧ (p ≤ s' + 1 ∨ bg R (s + 1) < p) ∧ ∀ e', s' < e' → e' ≤ bg R (s + 1) → ¬ Pe e') ∧ (s' + 1 - p).toNat < (e + 1 - p).toNat) (fun a => ip (Sum.elim (fun s3 => iP (Sum.inr (-1))) iP a) (fun a τ' => ip (Sum.elim (fun s2 => iP s2) iP a) Q τ') τ'') r) τ' := by
      intro hn
      rw [ip_A]
      refine ⟨⟨by omega, by omega⟩, ?_⟩
      rw [ip_B, ip_P, ip_P]
      simp only [Sum.elim_inl]
      refine ⟨⟨trivial, by omega, by omega, fun e' h1 h2 => ?_⟩, by omega⟩
      by_cases d : e' = e
      · rw [d]; exact hn
      · exact g3 e' (by omega) h2
    have good : Pe e → Q e τ' := by
      intro hp
      have := last_is (P := Pe) (a := p) (b := bg R (s + 1)) (e := e) (by omega) g1 hp g3
      rw [this] at hQ
      exact hQ
    refine ip_mayEnd hff hw x3 hn0 (by omega) (by omega) (fun r hr => ?_)
    rw [ip_B]
    rcases hr with ⟨q1, q2⟩ | ⟨q1, q2⟩
    · rw [q1, ip_ifF (by omega), ip_B, ip_leftOver hf hw x2 x4.1 (by omega) (by omega) (by omega) hc (by omega) hh hh2]
      by_cases c2 : lo R p e c h = -1
      · rw [ip_ifT c2, ip_P]
        simp only [Sum.elim_inl]
        exact next (fun q => ((hPe e).mp q).2.1 c2)
      · rw [ip_ifF c2]
        by_cases c3 : kk = -1
        · rw [ip_ifT c3, ip_P]
          simp only [Sum.elim_inl, Sum.elim_inr, ip_P]
          exact good ((hPe e).mpr ⟨q2, c2, Or.inl c3⟩)
        · rcases hk with z | ⟨z0, z5, z1, z2, z3⟩
          · exact absurd z c3
          · have ebv : bv R s h kk e = be R s h kk.toNat e := by unfold bv; exact if_pos q2
            rw [ip_ifF c3, ip_B, ip_bearsAt hf z0 z5 (by omega) (by omega), FtM_at hw x4.2.1 z1 z2 h0 z0 z3 (by omega) g1, ebv]
            by_cases c4 : be R s h kk.toNat e < lo R p e c h
            · rw [ip_ifT c4, ip_P]
              simp only [Sum.elim_inl]
              exact next (fun q => by have := ((hPe e).mp q).2.2; omega)
            · rw [ip_ifF c4, ip_P]
              simp only [Sum.elim_inl, Sum.elim_inr, ip_P]
              exact good ((hPe e).mpr ⟨q2, c2, Or.inr (by omega)⟩)
    · rw [q1, ip_ifT rfl, ip_P]
      simp only [Sum.elim_inl]
      exact next (fun q => q2 ((hPe e).mp q).1)
theorem last_congr {P P' : Int → Prop} {a b : Int} (h : ∀ e, P e ↔ P' e) : last P a b = last P' a b := by
  have : P = P' := funext (fun e => propext (h e))
  rw [this]
theorem ip_latestF {p c h : Int} {Q : Int → iMem → Prop} (hf : isFit ft fl ru) (hw : WF R) (hx : Cx R ft fl ru τ) (h0 : 0 ≤ s) (hs : s < ns R) (hp : bg R s ≤ p) (hc : 0 ≤ c) (hc2 : c < 20) (hh : 0 ≤ h) (hh2 : h ≤ 2000) (hQ : Q (lateF R s p c h) τ) : ip (iz_Fitter_latest ft s p c h (-1)) Q τ := by
  refine ip_latest hf hw hx h0 hs hp hc hc2 hh hh2 (Or.inl rfl) ?_
  have e : lateF R s p c h = last (fun e => en R e ∧ lo R p e c h ≠ -1 ∧ ((-1 : Int) = -1 ∨ lo R p e c h ≤ be R s h (-1 : Int).toNat e)) p (bg R (s + 1)) := last_congr (fun e => ⟨fun q => ⟨q.1, q.2, Or.inl rfl⟩, fun q => ⟨q.1, q.2.1⟩⟩)
  rw [← e]
  exact hQ
theorem ip_latestL {p c h : Int} {K : Nat} {Q : Int → iMem → Prop} (hf : isFit ft fl ru) (hw : WF R) (hx : Cx R ft fl ru τ) (h0 : 0 ≤ s) (hs : s < ns R) (hp : bg R s ≤ p) (hc : 0 ≤ c) (hc2 : c < 20) (hh : 0 ≤ h) (hh2 : h ≤ 2000) (hK : K ≤ 5) (h5 : τ ft 5 = s) (h6 : τ ft 6 = h) (h7 : (K : Int) ≤ τ ft 7) (hQ : Q (lateL R s p c h K) τ) : ip (iz_Fitter_latest ft s p c h K) Q τ := by
  refine ip_latest hf hw hx h0 hs hp hc hc2 hh hh2 (Or.inr ⟨by omega, by omega, h5, h6, h7⟩) ?_
  have e : lateL R s p c h K = last (fun e => en R e ∧ lo R p e c h ≠ -1 ∧ ((K : Int) = -1 ∨ lo R p e c h ≤ be R s h (K : Int).toNat e)) p (bg R (s + 1)) := last_congr (fun e => ⟨fun q => ⟨q.1, q.2.1, Or.inr q.2.2⟩, fun q => ⟨q.1, q.2.1, by have := q.2.2; rcases this with z | z; omega; exact z⟩⟩)
  rw [← e]
  exact hQ
/-- what pouring writes -/
def pww (pr ft ra sp : Nat) (nr : Int) (a : Nat) (k : Int) : Prop := fw ft a k ∨ prw pr ra sp nr a k
set_option maxHeartbeats 1000000 in
theorem ip_level {h : Int} {Q : Unit → iMem → Prop} (hp : isPress pr ft fl ru ra sp nr) (hw : WF R) (hx : Cx R ft fl ru τ) (hP : PrC R pr ra nr τ P) (hk : okP R s P) (hcn : pcn P < 10000) (h0 : 0 ≤ s) (hs : s < ns R) (hh : 0 ≤ h) (hh2 : h ≤ 2000) (hfit : pca P ≤ be R s h (rs R 0).toNat (pat P))
    (hQ : ∀ τ', Cx R ft fl ru τ' → PrC R pr ra nr τ' (lvl R s h P) → (∀ k, k = 9 ∨ k = 10 → τ' pr k = τ pr k) → (∀ a k, ¬ (fw ft a k ∨ (a = pr ∧ 4 ≤ k ∧ k ≤ 8) ∨ (ra < a ∧ a ≤ ra + nr.toNat)) → τ' a k = τ a k) → Q () τ') : ip (iz_Press_level pr s h) Q τ := by
  have hf := pr_F hp
  have hff := ft_F hf
  have hfe := ft_e hf
  have hfa := fl_a hff
  have ho := pr_o hp
  have hr := fl_r hff
  have hS := hw.2.1.1
  have hb := bg_step hw s
  obtain ⟨x1, x2, x3, x4⟩ := id hx
  have hl := lvlN_ok hw h0 hs hk hh hh2 hfit
  unfold iz_Press_level
  rw [pr_0 hp, pr_2 hp, ip_B, ip_settingC hr x1 (by omega) (by omega), ip_B]
  refine ip_measure hf hw x2 x3 x4.1 x4.2.1 h0 hs hh hh2 hS.2 (fun τ1 g5 g6 g7 gM gf => ?_)
  have gI : FtI R ft τ1 := ⟨x4.1.frame (fun k hk => gf ft k (by unfold mw; omega)), gM, x4.2.2.frame (gf _ _ (by unfold mw; omega)) (fun k => gf _ _ (by unfold mw; omega))⟩
  have gx : Cx R ft fl ru τ1 := hx.fit hf gI (fun a k h => gf a k (by unfold fw at h; unfold mw; omega))
  have gP : PrC R pr ra nr τ1 P := hP.frame (fun k _ _ => gf _ _ (by unfold mw; omega)) (fun a k _ _ => gf _ _ (by unfold mw; omega))
  rw [ip_B]
  refine ip_mono (Q := fun _ τ' => Cx R ft fl ru τ' ∧ PrC R pr ra nr τ' (lvl R s h P) ∧ (∀ a k, ¬ ((a = pr ∧ (k = 4 ∨ k = 7 ∨ k = 8)) ∨ (ra < a ∧ a ≤ ra + nr.toNat)) → τ' a k = τ1 a k)) ?_ (fun _ τ' q => by
    rw [ip_P]
    refine hQ τ' q.1 q.2.1 (fun k hk => ?_) (fun a k hk => ?_)
    · rw [q.2.2 _ _ (by omega), gf _ _ (by unfold mw; omega)]
    · unfold fw at hk
      rw [q.2.2 _ _ (by omega), gf _ _ (by unfold mw; omega)])
  refine ip_W (fun i τ' => 0 ≤ i ∧ i ≤ rs R 0 ∧ Cx R ft fl ru τ' ∧ PrC R pr ra nr τ' (lvlN R s h i.toNat P) ∧ (∀ a k, ¬ ((a = pr ∧ (k = 4 ∨ k = 7 ∨ k = 8)) ∨ (ra < a ∧ a ≤ ra + nr.toNat)) → τ' a k = τ1 a k)) (fun i _ => (rs R 0 - i).toNat) ?_ ⟨Int.le_refl _, by omega, gx, gP, fun _ _ _ => rfl⟩
  intro i τ' ⟨i0, i1, ix, iP', if'⟩
  by_cases c1 : rs R 0 ≤ i
  · have : i = rs R 0 := by omega
    subst this
    rw [ip_ifT c1, ip_P]
    exact ⟨ix, iP', if'⟩
  · obtain ⟨l1, l2, l3, l4, l5⟩ := hl i.toNat (by omega)
    have ek : (rs R 0).toNat - i.toNat = ((rs R 0).toNat - 1 - i.toNat) + 1 := by omega
    rw [ek] at l2
    have a := lateL_ok hw (s := s) (h := h) (p := pat (lvlN R s h i.toNat P)) (c := pca (lvlN R s h i.toNat P)) (K := (rs R 0).toNat - 1 - i.toNat) (by have := l1.2.2.2.1; omega) l1.2.2.2.2.2.1.1 hh2 l2
    rw [ip_ifF c1, ip_B, ip_Gt, iP'.1.2.2.2.1, ip_B, ip_Gt, iP'.1.2.2.2.2, ip_A, ip_A]
    refine ⟨⟨by omega, by omega⟩, ⟨by omega, by omega⟩, ?_⟩
    rw [show rs R 0 - 1 - i = (((rs R 0).toNat - 1 - i.toNat : Nat) : Int) by omega, ip_B]
    refine ip_latestL hf hw ix h0 hs l1.2.2.2.1.1 l1.2.2.2.2.2.1.1 l1.2.2.2.2.2.1.2 hh hh2 (by omega) ((if' _ _ (by omega)).trans g5) ((if' _ _ (by omega)).trans g6) (by rw [if' _ _ (by omega)]; omega) ?_
    rw [ip_B, ip_ifF (by have := l1.2.2.2.1; omega), ip_B]
    refine ip_putColumn hp hw ix iP' l1 (by omega) a.1 a.2.1 a.2.2.2.1 hh hh2 (Or.inr rfl) (fun r τ2 _ w1 w2 => ?_)
    rw [ip_P, ip_A]
    refine ⟨⟨by omega, by omega⟩, ?_⟩
    rw [ip_B, ip_P, ip_P]
    simp only [Sum.elim_inl]
    refine ⟨⟨by omega, by omega, ix.frame hfe (fun a k hk => w2 a k (by omega)), ?_, fun a k hk => (w2 a k hk).trans (if' a k hk)⟩, by omega⟩
    rw [show (i + 1).toNat = i.toNat + 1 by omega, lvlN_s, show ((i.toNat : Nat) : Int) = i by omega]
    exact w1
end
