/-! ===== what an object keeps beside its RUN ===== -/
theorem t_5 : qm_rf 13 0 = 14 := by decide +kernel
theorem t_14 : iLen 14 = 10 := by decide +kernel
theorem t_45 : iLen 45 = 2 := by decide +kernel
theorem t_tp : qm_rf 4 0 = 5 := by decide +kernel
theorem t_l5 : iLen 5 = 400 := by decide +kernel
theorem rg_rf {j : Int} (h0 : 0 ≤ j) (h1 : j < 10) : qm_rf 14 j.toNat = 15 + 3 * j.toNat ∧ isRun (15 + 3 * j.toNat) := by
  have h : j.toNat = 0 ∨ j.toNat = 1 ∨ j.toNat = 2 ∨ j.toNat = 3 ∨ j.toNat = 4 ∨ j.toNat = 5 ∨ j.toNat = 6 ∨ j.toNat = 7 ∨ j.toNat = 8 ∨ j.toNat = 9 := by omega
  rcases h with h | h | h | h | h | h | h | h | h | h
  · rw [h]; exact ⟨by decide +kernel, isRun_15⟩
  · rw [h]; exact ⟨by decide +kernel, isRun_18⟩
  · rw [h]; exact ⟨by decide +kernel, isRun_21⟩
  · rw [h]; exact ⟨by decide +kernel, isRun_24⟩
  · rw [h]; exact ⟨by decide +kernel, isRun_27⟩
  · rw [h]; exact ⟨by decide +kernel, isRun_30⟩
  · rw [h]; exact ⟨by decide +kernel, isRun_33⟩
  · rw [h]; exact ⟨by decide +kernel, isRun_36⟩
  · rw [h]; exact ⟨by decide +kernel, isRun_39⟩
  · rw [h]; exact ⟨by decide +kernel, isRun_42⟩
theorem kp_rf {j : Int} (h0 : 0 ≤ j) (h1 : j < 2) : qm_rf 45 j.toNat = 46 + 3 * j.toNat ∧ isRun (46 + 3 * j.toNat) := by
  have h : j.toNat = 0 ∨ j.toNat = 1 := by omega
  rcases h with h | h
  · rw [h]; exact ⟨by decide +kernel, isRun_46⟩
  · rw [h]; exact ⟨by decide +kernel, isRun_49⟩
/-- where in the ring it stands -/
def rgI (x : Int) (n i : Nat) : Int := (x - (n : Int) + (i : Int)) % 10
def PaC (H : Nat → aRun) (n : Nat) (x : Int) (τ : iMem) : Prop := τ 13 2 = n ∧ τ 13 1 = x ∧ (0 ≤ x ∧ x < 10) ∧ ∀ i, i < n → RunC τ (15 + 3 * (rgI x n i).toNat) (H i)
def PaW (H : Nat → aRun) (n : Nat) : Prop := n ≤ 10 ∧ ∀ i, i < n → WF (H i)
def KeC (K : Int → aRun) (f : Int → Int) (τ : iMem) : Prop := τ 0 5 = f 0 + 2 * f 1 ∧ ∀ j, 0 ≤ j → j < 2 → f j = 1 → RunC τ (46 + 3 * j.toNat) (K j)
def KeW (K : Int → aRun) (f : Int → Int) : Prop := ∀ j, 0 ≤ j → j < 2 → (f j = 0 ∨ f j = 1) ∧ (f j = 1 → WF (K j))
def TaC (L : Int) (T : Int → Int) (τ : iMem) : Prop := τ 4 1 = L ∧ ∀ k, 0 ≤ k → k < L → τ 5 k = T k
def TaW (L : Int) (T : Int → Int) : Prop := (0 ≤ L ∧ L ≤ 400) ∧ ∀ k, 0 ≤ k → k < L → 0 ≤ T k ∧ T k ≤ 255
def CS (R : aRun) (H : Nat → aRun) (n : Nat) (x : Int) (K : Int → aRun) (f : Int → Int) (L : Int) (T : Int → Int) (τ : iMem) : Prop := InvA R τ ∧ InvB τ ∧ PaC H n x τ ∧ KeC K f τ ∧ TaC L T τ
def WS (R : aRun) (H : Nat → aRun) (n : Nat) (K : Int → aRun) (f : Int → Int) (L : Int) (T : Int → Int) : Prop := WF R ∧ PaW H n ∧ KeW K f ∧ TaW L T
/-- what the tables hold -/
def fiV (k : Int) : Int := if k = 1 then 60 else if k = 5 then 1 else if k = 6 then 1 else if k = 7 then 0 else 2
def StS (τ : iMem) : Prop := InvS τ ∧ ∀ k, 0 ≤ k → k < 8 → τ 405 k = fiV k
theorem StS.frame {τ τ' : iMem} (h : StS τ) (hf : ∀ a k, 405 ≤ a → τ' a k = τ a k) : StS τ' := ⟨h.1.frame (fun a k z => hf a k (by omega)), fun k k0 k1 => (hf _ _ (by omega)).trans (h.2 k k0 k1)⟩
section
variable {τ τ' : iMem} {R : aRun} {H : Nat → aRun} {n : Nat} {x : Int} {K : Int → aRun} {f : Int → Int} {L : Int} {T : Int → Int}
theorem rgI_in {i : Nat} : 0 ≤ rgI x n i ∧ rgI x n i < 10 := by unfold rgI; omega
theorem PaC.frame (h : PaC H n x τ) (hf : ∀ a k, 13 ≤ a → a ≤ 44 → τ' a k = τ a k) : PaC H n x τ' := by
  refine ⟨(hf _ _ (by omega) (by omega)).trans h.1, (hf _ _ (by omega) (by omega)).trans h.2.1, h.2.2.1, fun i hi => (h.2.2.2 i hi).frame (fun a k a0 a1 => ?_)⟩
  have := rgI_in (x := x) (n := n) (i := i)
  exact hf a k (by omega) (by omega)
theorem KeC.frame (h : KeC K f τ) (h5 : τ' 0 5 = τ 0 5) (hf : ∀ a k, 46 ≤ a → a ≤ 51 → τ' a k = τ a k) : KeC K f τ' := ⟨h5.trans h.1, fun j j0 j1 hj => (h.2 j j0 j1 hj).frame (fun a k a0 a1 => hf a k (by omega) (by omega))⟩
theorem TaC.frame (h : TaC L T τ) (h1 : τ' 4 1 = τ 4 1) (hf : ∀ k, τ' 5 k = τ 5 k) : TaC L T τ' := ⟨h1.trans h.1, fun k k0 k1 => (hf k).trans (h.2 k k0 k1)⟩
theorem CS.frame (h : CS R H n x K f L T τ) (hf : ∀ a k, a ≤ 366 → τ' a k = τ a k) : CS R H n x K f L T τ' :=
  ⟨h.1.frame (fun a k z => hf a k (by omega)), h.2.1.frame (fun a k z => hf a k (by omega)), h.2.2.1.frame (fun a k _ _ => hf a k (by omega)), h.2.2.2.1.frame (hf _ _ (by omega)) (fun a k _ _ => hf a k (by omega)), h.2.2.2.2.frame (hf _ _ (by omega)) (fun k => hf _ _ (by omega))⟩
theorem InvX_of (hW : WS R H n K f L T) (hC : CS R H n x K f L T τ) : InvX R τ := ⟨hW.1, hC.1, hC.2.1⟩
/-- what holds of the object between calls -/
def cI (R : aRun) (H : Nat → aRun) (n : Nat) (x : Int) (K : Int → aRun) (f : Int → Int) (L : Int) (T : Int → Int) (τ : iMem) : Prop := StS τ ∧ WS R H n K f L T ∧ CS R H n x K f L T τ
theorem cI_z (hI : cI R H n x K f L T τ) (hX : InvX R τ') (hf : ∀ a k, ¬ zw a k → τ' a k = τ a k) : cI R H n x K f L T τ' := by
  obtain ⟨hS, hW, hC⟩ := hI
  have hz : ∀ a k, (a = 0 ∧ k = 5) ∨ (4 ≤ a ∧ a ≤ 51) ∨ (a = 367 ∧ (k = 2 ∨ k = 45)) ∨ (368 ≤ a ∧ a ≤ 371) ∨ 403 ≤ a → τ' a k = τ a k := fun a k z => hf a k (by unfold zw qw mz; omega)
  exact ⟨hS.frame (fun a k z => hz a k (by omega)), hW, ⟨hX.2.1, hX.2.2, hC.2.2.1.frame (fun a k _ _ => hz a k (by omega)), hC.2.2.2.1.frame (hz _ _ (by omega)) (fun a k _ _ => hz a k (by omega)), hC.2.2.2.2.frame (hz _ _ (by omega)) (fun k => hz _ _ (by omega))⟩⟩
/-- a question's answer, and it goes on -/
theorem cI_q {m : iM Int} {v : Int} (hI : cI R H n x K f L T τ) (h : InvX R τ → couX τ n L (f 0 + 2 * f 1) → gv R m v τ) : ip m (fun r τ1 => r = v ∧ cI R H n x K f L T τ1) τ :=
  ip_mono (h (InvX_of hI.2.1 hI.2.2) ⟨hI.2.2.2.2.1.1, hI.2.2.2.2.2.2.1, hI.2.2.2.2.2.1.1⟩) (fun r τ1 g => ⟨g.1, cI_z hI g.2.1 g.2.2⟩)
/-- an act: what it answers and leaves -/
def aC (m : iM Int) (τ : iMem) (S : Int → aRun → (Nat → aRun) → Nat → (Int → aRun) → (Int → Int) → Int → (Int → Int) → Prop) : Prop := ip m (fun r τ1 => ∃ R' H' n' x' K' f' L' T', S r R' H' n' K' f' L' T' ∧ cI R' H' n' x' K' f' L' T' τ1) τ
theorem ac_same {m : iM Int} {v : Int} {S : Int → aRun → (Nat → aRun) → Nat → (Int → aRun) → (Int → Int) → Int → (Int → Int) → Prop} (hI : cI R H n x K f L T τ) (hm : ip m (fun r τ1 => r = v ∧ τ1 = τ) τ) (hQ : S v R H n K f L T) : aC m τ S :=
  ip_mono hm (fun r τ1 g => ⟨R, H, n, x, K, f, L, T, g.1 ▸ hQ, by rw [g.2]; exact hI⟩)
theorem ac_of {m : iM Int} {v : Int} {S : Int → aRun → (Nat → aRun) → Nat → (Int → aRun) → (Int → Int) → Int → (Int → Int) → Prop} {R' : aRun} {H' : Nat → aRun} {n' : Nat} {x' : Int} {K' : Int → aRun} {f' : Int → Int} {L' : Int} {T' : Int → Int} (hS : StS τ) (hW' : WS R' H' n' K' f' L' T')
    (hm : ip m (fun r τ1 => r = v ∧ CS R' H' n' x' K' f' L' T' τ1 ∧ ∀ a k, 367 ≤ a → τ1 a k = τ a k) τ) (hQ : S v R' H' n' K' f' L' T') : aC m τ S :=
  ip_mono hm (fun r τ1 g => ⟨R', H', n', x', K', f', L', T', g.1 ▸ hQ, hS.frame (fun a k z => g.2.2 a k (by omega)), hW', g.2.1⟩)
/-! one more ahead -/
def puH (H : Nat → aRun) (n : Nat) (R : aRun) (i : Nat) : aRun := if n = 10 then (if i = 9 then R else H (i + 1)) else (if i = n then R else H i)
def puN (n : Nat) : Nat := if n = 10 then 10 else n + 1
theorem pu_W (h : PaW H n) (hw : WF R) : PaW (puH H n R) (puN n) := by
  obtain ⟨h1, h2⟩ := h
  unfold puN
  by_cases c : n = 10
  · rw [if_pos c]
    refine ⟨Nat.le_refl _, fun i hi => ?_⟩
    unfold puH
    rw [if_pos c]
    by_cases d : i = 9
    · rw [if_pos d]; exact hw
    · rw [if_neg d]; exact h2 _ (by omega)
  · rw [if_neg c]
    refine ⟨by omega, fun i hi => ?_⟩
    unfold puH
    rw [if_neg c]
    by_cases d : i = n
    · rw [if_pos d]; exact hw
    · rw [if_neg d]; exact h2 _ (by omega)
theorem ip_push {Q : Unit → iMem → Prop} (hC : RunC τ 1 R) (hn : rn R ≤ 16) (hP : PaC H n x τ) (n10 : n ≤ 10) (hQ : ∀ τ', PaC (puH H n R) (puN n) ((x + 1) % 10) τ' → (∀ a k, ¬ (13 ≤ a ∧ a ≤ 44) → τ' a k = τ a k) → Q () τ') : ip (iz_Past_push 13 1) Q τ := by
  obtain ⟨p1, p2, p3, p4⟩ := hP
  have hr := rg_rf p3.1 p3.2
  unfold iz_Past_push
  rw [ip_B, ip_Gt, p2, ip_B, ip_ifF (by omega), ip_B, ip_Gt, p2, t_5, t_14, ip_ifF (by omega), ip_B, ip_Gt, p2, ip_B, ip_Lr, t_14]
  refine ⟨⟨by omega, by omega⟩, ?_⟩
  rw [hr.1, ip_B]
  refine ip_copyFrom hr.2 isRun_1 (by omega) (by omega) hC hn (fun τ1 w1 w2 => ?_)
  rw [ip_P, ip_B, ip_Gt, w2 13 1 (by omega), p2, ip_B]
  refine ip_mono (Q := fun v τ2 => v = (x + 1) % 10 ∧ τ2 = τ1) ?_ (fun v τ2 e => ?_)
  · rw [ip_A]
    refine ⟨⟨by omega, by omega⟩, ?_⟩
    by_cases c : 10 ≤ x + 1
    · rw [ip_ifT c, ip_P]; exact ⟨by omega, rfl⟩
    · rw [ip_ifF c, ip_B, ip_Gt, w2 13 1 (by omega), p2, ip_A]
      refine ⟨⟨by omega, by omega⟩, ?_⟩
      rw [ip_P]; exact ⟨by omega, rfl⟩
  · obtain ⟨e1, e2⟩ := e
    subst e1 e2
    rw [ip_B, ip_Pt, ip_B, ip_Gt, iu_ne (Or.inr (by omega)), w2 13 2 (by omega), p1, ip_A]
    refine ⟨⟨by omega, by omega⟩, ?_⟩
    rw [ip_B, ip_min, ip_B, ip_Pt, ip_P]
    have hcell : ∀ a k, ¬ (a = 13 ∧ (k = 1 ∨ k = 2)) → iu (iu τ2 13 1 ((x + 1) % 10)) 13 2 (if 10 < (n : Int) + 1 then 10 else (n : Int) + 1) a k = τ2 a k := fun a k z => by rw [iu_ne (by omega), iu_ne (by omega)]
    have old : ∀ i, i < n → rgI x n i ≠ x → RunC τ2 (15 + 3 * (rgI x n i).toNat) (H i) := fun i hi hx => (p4 i hi).frame (fun a k a0 a1 => by
      have := rgI_in (x := x) (n := n) (i := i)
      exact w2 a k (by omega))
    refine hQ _ ⟨?_, ?_, ⟨by omega, by omega⟩, fun i hi => ?_⟩ (fun a k z => ?_)
    · rw [iu_eq]
      unfold puN
      by_cases c : n = 10
      · rw [if_pos c, if_pos (by omega)]; rfl
      · rw [if_neg c, if_neg (by omega)]; omega
    · rw [iu_ne (Or.inr (by omega)), iu_eq]
    · have go : ∀ {j : Nat} {R' : aRun}, RunC τ2 (15 + 3 * j) R' → RunC (iu (iu τ2 13 1 ((x + 1) % 10)) 13 2 (if 10 < (n : Int) + 1 then 10 else (n : Int) + 1)) (15 + 3 * j) R' := fun h => h.frame (fun a k a0 a1 => hcell a k (by omega))
      refine go ?_
      unfold puN puH at *
      by_cases c : n = 10
      · rw [if_pos c] at hi ⊢
        rw [if_pos c]
        by_cases d : i = 9
        · rw [if_pos d, show rgI ((x + 1) % 10) 10 i = x by unfold rgI; omega]; exact w1
        · rw [if_neg d, show rgI ((x + 1) % 10) 10 i = rgI x n (i + 1) by unfold rgI; omega]
          exact old (i + 1) (by omega) (by unfold rgI; omega)
      · rw [if_neg c] at hi ⊢
        rw [if_neg c]
        by_cases d : i = n
        · rw [if_pos d, show rgI ((x + 1) % 10) (n + 1) i = x by unfold rgI; omega]; exact w1
        · rw [if_neg d, show rgI ((x + 1) % 10) (n + 1) i = rgI x n i by unfold rgI; omega]
          exact old i (by omega) (by unfold rgI; omega)
    · rw [hcell a k (by omega), w2 a k (by omega)]
theorem ip_pop {Q : Unit → iMem → Prop} (h1 : 1 ≤ n) (n10 : n ≤ 10) (hP : PaC H n x τ) (hn : rn (H (n - 1)) ≤ 16) (hQ : ∀ τ', PaC H (n - 1) ((x - 1) % 10) τ' → RunC τ' 1 (H (n - 1)) → (∀ a k, ¬ ((1 ≤ a ∧ a ≤ 3) ∨ a = 13) → τ' a k = τ a k) → Q () τ') : ip (iz_Past_pop 13 1) Q τ := by
  obtain ⟨p1, p2, p3, p4⟩ := hP
  have hr := rg_rf (j := (x - 1) % 10) (by omega) (by omega)
  unfold iz_Past_pop
  rw [ip_B, ip_Gt, p2, ip_B]
  refine ip_mono (Q := fun v τ2 => v = (x - 1) % 10 ∧ τ2 = τ) ?_ (fun v τ2 e => ?_)
  · by_cases c : x ≤ 0
    · rw [ip_ifT c, ip_P]; exact ⟨by omega, rfl⟩
    · rw [ip_ifF c, ip_B, ip_Gt, p2, ip_A]
      refine ⟨⟨by omega, by omega⟩, ?_⟩
      rw [ip_P]; exact ⟨by omega, rfl⟩
  · obtain ⟨e1, e2⟩ := e
    subst e1 e2
    rw [ip_B, ip_Pt, ip_B, ip_Gt, iu_ne (Or.inr (by omega)), p1, ip_A]
    refine ⟨⟨by omega, by omega⟩, ?_⟩
    rw [ip_B, ip_max, ip_B, ip_Pt, ip_B, ip_Gt, iu_ne (Or.inr (by omega)), iu_eq, t_5, t_14, ip_ifF (by omega), ip_B, ip_Gt, iu_ne (Or.inr (by omega)), iu_eq, ip_B, ip_Lr, t_14]
    refine ⟨⟨by omega, by omega⟩, ?_⟩
    rw [hr.1, ip_B]
    have hcell : ∀ a k, ¬ (a = 13 ∧ (k = 1 ∨ k = 2)) → iu (iu τ2 13 1 ((x - 1) % 10)) 13 2 (if (n : Int) - 1 < 0 then 0 else (n : Int) - 1) a k = τ2 a k := fun a k z => by rw [iu_ne (by omega), iu_ne (by omega)]
    have hsrc : RunC (iu (iu τ2 13 1 ((x - 1) % 10)) 13 2 (if (n : Int) - 1 < 0 then 0 else (n : Int) - 1)) (15 + 3 * ((x - 1) % 10).toNat) (H (n - 1)) := by
      have := p4 (n - 1) (by omega)
      rw [show rgI x n (n - 1) = (x - 1) % 10 by unfold rgI; omega] at this
      exact this.frame (fun a k a0 a1 => hcell a k (by omega))
    refine ip_copyFrom isRun_1 hr.2 (by omega) (by omega) hsrc hn (fun τ1 w1 w2 => ?_)
    rw [ip_P]
    refine hQ τ1 ⟨?_, ?_, ⟨by omega, by omega⟩, fun i hi => ?_⟩ w1 (fun a k z => ?_)
    · rw [w2 13 2 (by omega), iu_eq, if_neg (by omega)]; omega
    · rw [w2 13 1 (by omega), iu_ne (Or.inr (by omega)), iu_eq]
    · have := rgI_in (x := x) (n := n) (i := i)
      rw [show rgI ((x - 1) % 10) (n - 1) i = rgI x n i by unfold rgI; omega]
      exact (p4 i (by omega)).frame (fun a k a0 a1 => by rw [w2 a k (by omega), hcell a k (by omega)])
    · rw [w2 a k (by omega), hcell a k (by omega)]
end
