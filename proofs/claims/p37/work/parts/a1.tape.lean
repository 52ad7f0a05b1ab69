/-! ===== the tape ===== -/
theorem ib_255 (y : Int) : ibAnd y 255 = y % 256 := by
  have e : ((Int32.ofInt y).toBitVec &&& (Int32.ofInt 255).toBitVec).toNat = (y % 256).toNat := by
    rw [BitVec.toNat_and]
    have e1 : (Int32.ofInt y).toBitVec.toNat = (y % ((2 ^ 32 : Nat) : Int)).toNat := BitVec.toNat_ofInt _
    have e2 : (Int32.ofInt 255).toBitVec.toNat = 2 ^ 8 - 1 := by decide
    rw [e1, e2, Nat.and_two_pow_sub_one_eq_mod, show (((2 ^ 32 : Nat)) : Int) = 4294967296 from rfl]
    omega
  show ((Int32.ofInt y).toBitVec &&& (Int32.ofInt 255).toBitVec).toInt = _
  rw [ibz (by rw [e]; omega), e]
  omega
theorem i8_256 (y : Int) : i8 y % 256 = y % 256 := by
  unfold i8
  exact Int.bmod_emod
section
variable {τ τ' : iMem} {L : Int} {T T' : Int → Int}
theorem TaC.congr (h : TaC L T τ) (e : ∀ k, 0 ≤ k → k < L → T k = T' k) : TaC L T' τ := ⟨h.1, fun k k0 k1 => (h.2 k k0 k1).trans (e k k0 k1)⟩
def byV (p s : Int) : Int := ibShr p (ibAnd s 31) % 256
def apT (L : Int) (T : Int → Int) (p k : Int) : Int := if k < L then T k else byV p (24 - 8 * (k - L))
theorem ip_append {p : Int} {Q : Unit → iMem → Prop} (hT : TaC L T τ) (l0 : 0 ≤ L) (l1 : L + 4 ≤ 400) (hQ : ∀ τ', TaC (L + 4) (apT L T p) τ' → (∀ a k, ¬ (a = 5 ∨ (a = 4 ∧ k = 1)) → τ' a k = τ a k) → Q () τ') : ip (iz_Tape_append 4 p) Q τ := by
  unfold iz_Tape_append
  rw [ip_B]
  refine ip_mono (Q := fun _ τ1 => TaC (L + 4) (apT L T p) τ1 ∧ (∀ a k, ¬ (a = 5 ∨ (a = 4 ∧ k = 1)) → τ1 a k = τ a k)) ?_ (fun _ τ1 e => by rw [ip_P]; exact hQ τ1 e.1 e.2)
  refine ip_W (fun s τ1 => ∃ i : Int, (0 ≤ i ∧ i ≤ 4) ∧ s = 24 - 8 * i ∧ TaC (L + i) (apT L T p) τ1 ∧ (∀ a k, ¬ (a = 5 ∨ (a = 4 ∧ k = 1)) → τ1 a k = τ a k)) (fun s _ => (s + 8).toNat) ?_ ⟨0, ⟨Int.le_refl _, by omega⟩, by omega, ⟨by rw [hT.1]; omega, fun k k0 k1 => ?_⟩, fun _ _ _ => rfl⟩
  · intro s τ1 ⟨i, b1, b2, b3, b4⟩
    subst b2
    by_cases c : 24 - 8 * i < 0
    · rw [ip_ifT c, ip_P]
      simp only [Sum.elim_inr]
      rw [show (4 : Int) = i by omega]
      rw [show i = 4 by omega] at b3 ⊢
      exact ⟨b3, b4⟩
    · rw [ip_ifF c, ip_B, ip_Gt, b3.1, ip_B, ip_ifF (by omega), ip_B, ip_Gt, b3.1, t_tp, t_l5, ip_ifF (by omega), ip_B, ip_Gt, b3.1, ip_B, ip_St, t_l5]
      refine ⟨⟨⟨by omega, by omega⟩, by omega⟩, ?_⟩
      rw [ip_B, ip_Gt, iu_ne (Or.inl (by omega)), b3.1, ip_A]
      refine ⟨⟨by omega, by omega⟩, ?_⟩
      rw [ip_B, ip_Pt, ip_P, ip_A]
      refine ⟨⟨by omega, by omega⟩, ?_⟩
      rw [ip_B, ip_P, ip_P]
      simp only [Sum.elim_inl]
      refine ⟨⟨i + 1, ⟨by omega, by omega⟩, by omega, ⟨?_, fun k k0 k1 => ?_⟩, fun a k z => ?_⟩, by omega⟩
      · rw [iu_eq]; omega
      · rw [iu_ne (Or.inl (by omega))]
        by_cases d : k = L + i
        · subst d
          rw [iu_eq, ib_255]
          unfold apT byV
          rw [if_neg (by omega), show 24 - 8 * (L + i - L) = 24 - 8 * i by omega]
        · rw [iu_ne (Or.inr d)]
          exact b3.2 k k0 (by omega)
      · rw [iu_ne (by omega), iu_ne (by omega)]
        exact b4 a k z
  · unfold apT
    rw [if_pos (by omega)]
    exact hT.2 k k0 (by omega)
def fdV (a b c d e j : Int) : Int := if j < 4 then a else if j < 8 then b else if j < 12 then c else if j < 16 then d else e
def feT (L : Int) (T : Int → Int) (a b c d e k : Int) : Int := if k < L then T k else byV (fdV a b c d e (k - L)) (24 - 8 * ((k - L) % 4))
theorem fe_ap {a b c d e k : Int} (h : k < L + 20) : apT (L + 4 + 4 + 4 + 4) (apT (L + 4 + 4 + 4) (apT (L + 4 + 4) (apT (L + 4) (apT L T a) b) c) d) e k = feT L T a b c d e k := by
  unfold feT fdV
  by_cases c0 : k < L
  · rw [if_pos c0]
    unfold apT
    rw [if_pos (by omega), if_pos (by omega), if_pos (by omega), if_pos (by omega), if_pos c0]
  · rw [if_neg c0]
    by_cases c1 : k < L + 4
    · unfold apT
      rw [if_pos (by omega), if_pos (by omega), if_pos (by omega), if_pos c1, if_neg c0, if_pos (by omega), show 24 - 8 * ((k - L) % 4) = 24 - 8 * (k - L) by omega]
    · by_cases c2 : k < L + 8
      · unfold apT
        rw [if_pos (by omega), if_pos (by omega), if_pos (by omega), if_neg c1, if_neg (by omega), if_pos (by omega), show 24 - 8 * ((k - L) % 4) = 24 - 8 * (k - (L + 4)) by omega]
      · by_cases c3 : k < L + 12
        · unfold apT
          rw [if_pos (by omega), if_pos (by omega), if_neg (by omega), if_neg (by omega), if_neg (by omega), if_pos (by omega), show 24 - 8 * ((k - L) % 4) = 24 - 8 * (k - (L + 4 + 4)) by omega]
        · by_cases c4 : k < L + 16
          · unfold apT
            rw [if_pos (by omega), if_neg (by omega), if_neg (by omega), if_neg (by omega), if_neg (by omega), if_pos (by omega), show 24 - 8 * ((k - L) % 4) = 24 - 8 * (k - (L + 4 + 4 + 4)) by omega]
          · unfold apT
            rw [if_neg (by omega), if_neg (by omega), if_neg (by omega), if_neg (by omega), if_neg (by omega), show 24 - 8 * ((k - L) % 4) = 24 - 8 * (k - (L + 4 + 4 + 4 + 4)) by omega]
theorem feT_W {a b c d e : Int} (h : TaW L T) (l1 : L ≤ 380) : TaW (L + 20) (feT L T a b c d e) := by
  refine ⟨⟨by have := h.1; omega, by omega⟩, fun k k0 k1 => ?_⟩
  unfold feT
  by_cases z : k < L
  · rw [if_pos z]; exact h.2 k k0 z
  · rw [if_neg z]; unfold byV; omega
theorem ca_feed {R : aRun} {H : Nat → aRun} {n : Nat} {x : Int} {K : Int → aRun} {f : Int → Int} (hI : cI R H n x K f L T τ) (a b c d e : Int) {S : Int → aRun → (Nat → aRun) → Nat → (Int → aRun) → (Int → Int) → Int → (Int → Int) → Prop} (h1 : L ≤ 380 → S (L + 20) R H n K f (L + 20) (feT L T a b c d e)) (h2 : ¬ L ≤ 380 → S (-1) R H n K f L T) : aC (iz_Top_feed 0 a b c d e) τ S := by
  have hI9 := hI
  obtain ⟨hS, hW, hC⟩ := hI
  have hL := hW.2.2.2.1
  have hT := hC.2.2.2.2
  by_cases c0 : L ≤ 380
  · refine ac_of (v := L + 20) hS (R' := R) (H' := H) (n' := n) (x' := x) (K' := K) (f' := f) (L' := L + 20) (T' := feT L T a b c d e) ⟨hW.1, hW.2.1, hW.2.2.1, feT_W hW.2.2.2 c0⟩ ?_ (h1 c0)
    · unfold iz_Top_feed
      rw [t_1, ip_B, ip_Gt, hT.1, ip_A]
      refine ⟨⟨by omega, by omega⟩, ?_⟩
      rw [ip_ifT (by omega), ip_B]
      refine ip_append hT (by omega) (by omega) (fun τ1 u1 v1 => ?_)
      rw [ip_B]
      refine ip_append u1 (by omega) (by omega) (fun τ2 u2 v2 => ?_)
      rw [ip_B]
      refine ip_append u2 (by omega) (by omega) (fun τ3 u3 v3 => ?_)
      rw [ip_B]
      refine ip_append u3 (by omega) (by omega) (fun τ4 u4 v4 => ?_)
      rw [ip_B]
      refine ip_append u4 (by omega) (by omega) (fun τ5 u5 v5 => ?_)
      rw [ip_B, ip_Gt, u5.1, ip_P]
      have hf : ∀ a k, ¬ (a = 5 ∨ (a = 4 ∧ k = 1)) → τ5 a k = τ a k := fun a k z => by rw [v5 a k z, v4 a k z, v3 a k z, v2 a k z, v1 a k z]
      refine ⟨by omega, ⟨hC.1.frame (fun a k z => hf a k (by omega)), hC.2.1.frame (fun a k z => hf a k (by omega)), hC.2.2.1.frame (fun a k _ _ => hf a k (by omega)), hC.2.2.2.1.frame (hf _ _ (by omega)) (fun a k _ _ => hf a k (by omega)), ?_⟩, fun a k z => hf a k (by omega)⟩
      have u6 := u5.congr (fun k k0 k1 => fe_ap (L := L) (T := T) (a := a) (b := b) (c := c) (d := d) (e := e) (k := k) (by omega))
      rw [show L + 4 + 4 + 4 + 4 + 4 = L + 20 by omega] at u6
      exact u6
  · refine ac_same (v := -1) hI9 ?_ (h2 c0)
    · unfold iz_Top_feed
      rw [t_1, ip_B, ip_Gt, hT.1, ip_A]
      refine ⟨⟨by omega, by omega⟩, ?_⟩
      rw [ip_ifF (by omega), ip_P]
      exact ⟨rfl, rfl⟩
theorem ca_end {R : aRun} {H : Nat → aRun} {n : Nat} {x : Int} {K : Int → aRun} {f : Int → Int} (hI : cI R H n x K f L T τ) (p : Int) {S : Int → aRun → (Nat → aRun) → Nat → (Int → aRun) → (Int → Int) → Int → (Int → Int) → Prop} (h1 : 0 ≤ p ∧ p ≤ L → S p R H n K f p T) (h2 : ¬ (0 ≤ p ∧ p ≤ L) → S (-1) R H n K f L T) : aC (iz_Top_end 0 p) τ S := by
  have hI9 := hI
  obtain ⟨hS, hW, hC⟩ := hI
  have hL := hW.2.2.2.1
  have hT := hC.2.2.2.2
  by_cases c0 : 0 ≤ p ∧ p ≤ L
  · refine ac_of (v := p) hS (R' := R) (H' := H) (n' := n) (x' := x) (K' := K) (f' := f) (L' := p) (T' := T) ⟨hW.1, hW.2.1, hW.2.2.1, ⟨by omega, by omega⟩, fun k k0 k1 => hW.2.2.2.2 k k0 (by omega)⟩ ?_ (h1 c0)
    · unfold iz_Top_end
      rw [ip_ifF (by omega), t_1, ip_B, ip_Gt, hT.1, ip_ifT c0.2, ip_B, ip_Pt, ip_P]
      have hf : ∀ a k, ¬ (a = 4 ∧ k = 1) → iu τ 4 1 p a k = τ a k := fun a k z => iu_ne (by omega)
      exact ⟨rfl, ⟨hC.1.frame (fun a k z => hf a k (by omega)), hC.2.1.frame (fun a k z => hf a k (by omega)), hC.2.2.1.frame (fun a k _ _ => hf a k (by omega)), hC.2.2.2.1.frame (hf _ _ (by omega)) (fun a k _ _ => hf a k (by omega)), iu_eq, fun k k0 k1 => (hf _ _ (by omega)).trans (hT.2 k k0 (by omega))⟩, fun a k z => hf a k (by omega)⟩
  · refine ac_same (v := -1) hI9 ?_ (h2 c0)
    · unfold iz_Top_end
      by_cases c1 : p < 0
      · rw [ip_ifT c1, ip_P]; exact ⟨rfl, rfl⟩
      · rw [ip_ifF c1, t_1, ip_B, ip_Gt, hT.1, ip_ifF (by omega), ip_P]; exact ⟨rfl, rfl⟩
end
