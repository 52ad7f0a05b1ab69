/-! ===== the object's signs ===== -/
theorem u_0 : qm_rf 6 0 = 4 := by decide +kernel
theorem u_1 : qm_rf 6 1 = 7 := by decide +kernel
theorem u_2 : qm_rf 6 2 = 10 := by decide +kernel
theorem u_3 : qm_rf 6 3 = 11 := by decide +kernel
theorem u_4 : qm_rf 6 4 = 12 := by decide +kernel
theorem ul_10 : iLen 10 = 401 := by decide +kernel
theorem ul_11 : iLen 11 = 401 := by decide +kernel
theorem ul_12 : iLen 12 = 401 := by decide +kernel
def stW : Nat → Nat
  | 0 => 1
  | k + 1 => stW k + qs_ln (kwA k) + 1
def cwX : Nat → Int
  | 0 => -1
  | i + 1 => if qs_ch 408 i = 32 then cwX i + 1 else cwX i
theorem st_is : ∀ k : Nat, k < 17 → stW k + qs_ln (kwA k) < qs_ln 408 ∧ qs_ch 408 (stW k + qs_ln (kwA k)) = 32 ∧ ∀ i : Nat, i < qs_ln (kwA k) → qs_ch 408 (stW k + i) = qs_ch (kwA k) i := by decide +kernel
theorem cw_is : ∀ i : Nat, i < qs_ln 408 → (-1 ≤ cwX i ∧ cwX i < 17) ∧ (qs_ch 408 i = 32 → (i + 1 = qs_ln 408 ∧ cwX i + 1 = 17) ∨ (0 ≤ cwX i + 1 ∧ cwX i + 1 < 17 ∧ stW (cwX i + 1).toNat = i + 1)) := by decide +kernel
theorem cw_all : ∀ k : Nat, k < 17 → qs_ch 408 (stW k - 1) = 32 ∧ stW k - 1 < qs_ln 408 ∧ 1 ≤ stW k ∧ cwX (stW k - 1) + 1 = k := by decide +kernel
theorem w_ln : qs_ln 408 < 200 := iq_ln 408
section
variable {τ τ0 : iMem} {L : Int} {T : Int → Int}
theorem ip_ln {a : Nat} {Q : Int → iMem → Prop} : ip (iz_String_length a) Q τ ↔ Q (qs_ln a : Int) τ := ip_eq rfl
theorem ip_ch {a : Nat} {k : Int} {Q : Int → iMem → Prop} : ip (iz_String_charAt a k) Q τ ↔ (0 ≤ k ∧ k < (qs_ln a : Int)) ∧ Q (iCh a k) τ := ip_cond rfl
theorem ip_signOf {x : Int} {Q : Int → iMem → Prop} : ip (iz_Teller_signOf x) Q τ ↔ Q (sg x) τ := by
  unfold iz_Teller_signOf
  rw [ip_B]
  have rest : ¬ (97 ≤ x ∧ x ≤ 122) → (ip (iB (α := (Unit ⊕ Int)) (if x < 48 then iP (Sum.inl ()) else if 57 < x then iP (Sum.inl ()) else iP (Sum.inr 1)) (Sum.elim (fun s2 => if ¬ x = 59 then iP 3 else iP 2) iP)) Q τ ↔ Q (sg x) τ) := by
    intro h
    have last : ¬ (48 ≤ x ∧ x ≤ 57) → (ip (if ¬ x = 59 then iP 3 else iP 2) Q τ ↔ Q (sg x) τ) := by
      intro h2
      by_cases c : x = 59
      · rw [ip_ifF (by omega), ip_P, show sg x = 2 from sg_2.mpr c]
      · rw [ip_ifT c, ip_P, show sg x = 3 by unfold sg; omega]
    rw [ip_B]
    by_cases c1 : x < 48
    · rw [ip_ifT c1, ip_P]
      simp only [Sum.elim_inl]
      exact last (by omega)
    · by_cases c2 : 57 < x
      · rw [ip_ifF c1, ip_ifT c2, ip_P]
        simp only [Sum.elim_inl]
        exact last (by omega)
      · rw [ip_ifF c1, ip_ifF c2, ip_P]
        simp only [Sum.elim_inr, ip_P]
        rw [show sg x = 1 from sg_1.mpr (by omega)]
  by_cases c1 : x < 97
  · rw [ip_ifT c1, ip_P]
    simp only [Sum.elim_inl]
    exact rest (by omega)
  · by_cases c2 : 122 < x
    · rw [ip_ifF c1, ip_ifT c2, ip_P]
      simp only [Sum.elim_inl]
      exact rest (by omega)
    · rw [ip_ifF c1, ip_ifF c2, ip_P]
      simp only [Sum.elim_inr, ip_P]
      rw [show sg x = 0 from sg_0.mpr (by omega)]
theorem ip_byte {k : Int} {Q : Int → iMem → Prop} (hW : TaW L T) (hT : TaC L T τ) (k0 : 0 ≤ k) (k1 : k < L) : ip (iz_Top_at 5 k) Q τ ↔ Q (T k) τ := by
  rw [ip_at k0 (by rw [t_l5]; have := hW.1; omega), hT.2 k k0 k1]
theorem ip_numberOf {q e : Int} {Q : Int → iMem → Prop} (hW : TaW L T) (hT : TaC L T τ) (q0 : 0 ≤ q) (qe : q ≤ e) (eL : e ≤ L) (hd : e = q + 1 ∨ ∀ k, q ≤ k → k < e → 48 ≤ T k ∧ T k ≤ 57) (hQ : Q (cvN T (e - q).toNat 0 q) τ) : ip (iz_Teller_numberOf 6 q e) Q τ := by
  have hL := hW.1
  unfold iz_Teller_numberOf
  rw [u_0, t_tp, ip_B]
  refine ip_mono (Q := fun v τ1 => v = cvN T (e - q).toNat 0 q ∧ τ1 = τ) ?_ (fun v τ1 g => by rw [ip_P, g.1, g.2]; exact hQ)
  refine ip_W (fun (s : Int × Int) τ1 => τ1 = τ ∧ (q ≤ s.2 ∧ s.2 ≤ e) ∧ (-48 ≤ s.1 ∧ s.1 ≤ 100000) ∧ (0 ≤ s.1 ∨ e ≤ s.2) ∧ cvN T (e - s.2).toNat s.1 s.2 = cvN T (e - q).toNat 0 q) (fun s _ => (e - s.2).toNat) ?_ ⟨rfl, ⟨Int.le_refl _, qe⟩, ⟨by show (-48 : Int) ≤ 0; omega, by show (0 : Int) ≤ 100000; omega⟩, Or.inl (Int.le_refl _), rfl⟩
  intro s τ1 ⟨et, b1, b2, b3, b4⟩
  obtain ⟨v, i⟩ := s
  subst et
  dsimp only at b1 b2 b3 b4 ⊢
  by_cases c : e ≤ i
  · rw [ip_ifT c, ip_P]
    simp only [Sum.elim_inr]
    rw [show (e - i).toNat = 0 by omega] at b4
    exact ⟨b4, trivial⟩
  · have ht := hW.2 i (by omega) (by omega)
    have b3 : 0 ≤ v := by omega
    rw [ip_ifF c, ip_B, ip_byte hW hT (by omega) (by omega), ip_A]
    refine ⟨⟨by omega, by omega⟩, ?_⟩
    rw [ip_A]
    refine ⟨⟨by omega, by omega⟩, ?_⟩
    rw [ip_A]
    refine ⟨⟨by omega, by omega⟩, ?_⟩
    rw [ip_B, ip_min, ip_A]
    refine ⟨⟨by omega, by omega⟩, ?_⟩
    rw [ip_B, ip_P, ip_P]
    simp only [Sum.elim_inl]
    refine ⟨⟨trivial, ⟨by omega, by omega⟩, ⟨?_, ?_⟩, ?_, ?_⟩, by omega⟩
    · split <;> omega
    · split <;> omega
    · rcases hd with z | z
      · exact Or.inr (by omega)
      · have := z i b1.1 (by omega)
        refine Or.inl ?_
        split <;> omega
    · rw [show (e - i).toNat = (e - (i + 1)).toNat + 1 by omega] at b4
      exact b4
theorem mt_len {q k : Int} (k0 : 0 ≤ k) (k1 : k < 17) (h : mt L T q (kwA k)) : ee L T q = q + (qs_ln (kwA k) : Int) ∧ sg (T q) = 0 := by
  have hk := kw_at k0 k1
  have s : ∀ i, 0 ≤ i → i < (qs_ln (kwA k) : Int) → sg (T (q + i)) = 0 := fun i i0 i1 => by rw [h.2.1 i i0 i1]; exact hk.2 i i0 i1
  have s0 := s 0 (Int.le_refl _) hk.1.1
  rw [Int.add_zero] at s0
  refine ⟨?_, s0⟩
  have e : ee L T q = go (fun x => sg x = 0) L T q := by
    unfold ee
    rw [s0]
    exact if_pos (Or.inl rfl)
  rw [e]
  have g := go_in (P := fun x => sg x = 0) (L := L) (T := T) (p := q) (by have := h.1; omega)
  have h1 := h.1
  by_cases c : go (fun x => sg x = 0) L T q < q + (qs_ln (kwA k) : Int)
  · have := s (go (fun x => sg x = 0) L T q - q) (by omega) (by omega)
    rw [show q + (go (fun x => sg x = 0) L T q - q) = go (fun x => sg x = 0) L T q by omega] at this
    exact absurd ⟨by omega, this⟩ g.2.1
  · by_cases d : q + (qs_ln (kwA k) : Int) < go (fun x => sg x = 0) L T q
    · exact absurd ⟨by omega, g.2.2 (q + (qs_ln (kwA k) : Int)) (by omega) d⟩ h.2.2
    · omega
theorem ip_isWordC {q k : Int} {Q : Int → iMem → Prop} (hW : TaW L T) (hT : TaC L T τ) (q0 : 0 ≤ q) (qL : q < L) (hs : sg (T q) = 0) (k0 : 0 ≤ k) (k1 : k < 17) (hQ : ∀ r, (r = 1 ∧ mt L T q (kwA k)) ∨ (r = 0 ∧ ¬ mt L T q (kwA k)) → Q r τ) : ip (iz_Teller_isWord 6 (stW k.toNat) q (ee L T q)) Q τ := by
  have he := ee_in (T := T) qL
  have hL := hW.1
  have hst := st_is k.toNat (by omega)
  rw [show kwA ((k.toNat : Nat) : Int) = kwA k by rw [show ((k.toNat : Nat) : Int) = k by omega]] at hst
  have hk := kw_at k0 k1
  have hwl := w_ln
  have ml := fun h => (mt_len (L := L) (T := T) (q := q) k0 k1 h).1
  have g := go_in (P := fun x => sg x = 0) (L := L) (T := T) (p := q) (by omega)
  have eg : ee L T q = go (fun x => sg x = 0) L T q := by
    unfold ee
    rw [hs]
    exact if_pos (Or.inl rfl)
  rw [← eg] at g
  have c32 : (iCh 408 ((stW k.toNat : Int) + (qs_ln (kwA k) : Int))) = 32 := by
    unfold iCh
    rw [show ((stW k.toNat : Int) + (qs_ln (kwA k) : Int)).toNat = stW k.toNat + qs_ln (kwA k) by omega, hst.2.1]
    decide
  have cch : ∀ i, 0 ≤ i → i < (qs_ln (kwA k) : Int) → iCh 408 ((stW k.toNat : Int) + i) = iCh (kwA k) i := fun i i0 i1 => by
    unfold iCh
    rw [show ((stW k.toNat : Int) + i).toNat = stW k.toNat + i.toNat by omega, hst.2.2 i.toNat (by omega)]
  unfold iz_Teller_isWord
  rw [u_0, t_tp, ip_A]
  refine ⟨⟨by omega, by omega⟩, ?_⟩
  rw [ip_B, ip_P, ip_ifF (by omega), ip_ifF (by omega), ip_B, ip_ln, ip_A]
  refine ⟨⟨by omega, by omega⟩, ?_⟩
  by_cases c1 : (qs_ln 408 : Int) ≤ (stW k.toNat : Int) + (ee L T q - q)
  · rw [ip_ifT c1, ip_P]
    exact hQ 0 (Or.inr ⟨rfl, fun h => by have := ml h; omega⟩)
  · rw [ip_ifF c1, ip_A]
    refine ⟨⟨by omega, by omega⟩, ?_⟩
    rw [ip_B, ip_ch]
    refine ⟨⟨by omega, by omega⟩, ?_⟩
    by_cases c2 : iCh 408 ((stW k.toNat : Int) + (ee L T q - q)) = 32
    · rw [ip_ifT c2, ip_B]
      refine ip_mono (Q := fun v τ1 => τ1 = τ ∧ ((v = Sum.inl () ∧ ∀ i, 0 ≤ i → i < ee L T q - q → iCh 408 ((stW k.toNat : Int) + i) = T (q + i)) ∨ (v = Sum.inr 0 ∧ ∃ i, (0 ≤ i ∧ i < ee L T q - q) ∧ iCh 408 ((stW k.toNat : Int) + i) ≠ T (q + i)))) ?_ (fun v τ1 h => ?_)
      · refine ip_W (fun i τ1 => τ1 = τ ∧ (0 ≤ i ∧ i ≤ ee L T q - q) ∧ ∀ j, 0 ≤ j → j < i → iCh 408 ((stW k.toNat : Int) + j) = T (q + j)) (fun i _ => (ee L T q - q - i).toNat) ?_ ⟨rfl, ⟨Int.le_refl _, by omega⟩, fun j j0 j1 => by omega⟩
        intro i τ1 ⟨et, b1, b2⟩
        subst et
        by_cases d : ee L T q - q ≤ i
        · rw [ip_ifT d, ip_P]
          simp only [Sum.elim_inr]
          exact ⟨trivial, Or.inl ⟨trivial, fun j j0 j1 => b2 j j0 (by omega)⟩⟩
        · rw [ip_ifF d, ip_A]
          refine ⟨⟨by omega, by omega⟩, ?_⟩
          rw [ip_B, ip_ch]
          refine ⟨⟨by omega, by omega⟩, ?_⟩
          rw [ip_A]
          refine ⟨⟨by omega, by omega⟩, ?_⟩
          rw [ip_B, ip_byte hW hT (by omega) (by omega)]
          by_cases z : iCh 408 ((stW k.toNat : Int) + i) = T (q + i)
          · rw [ip_ifT z, ip_A]
            refine ⟨⟨by omega, by omega⟩, ?_⟩
            rw [ip_B, ip_P, ip_P]
            simp only [Sum.elim_inl]
            refine ⟨⟨trivial, ⟨by omega, by omega⟩, fun j j0 j1 => ?_⟩, by omega⟩
            by_cases y : j = i
            · rw [y]; exact z
            · exact b2 j j0 (by omega)
          · rw [ip_ifF z, ip_P]
            exact ⟨rfl, Or.inr ⟨rfl, i, ⟨b1.1, by omega⟩, z⟩⟩
      · obtain ⟨et, h⟩ := h
        subst et
        rcases h with ⟨v1, v2⟩ | ⟨v1, i, v2, v3⟩
        · rw [v1, Sum.elim_inl, ip_P]
          refine hQ 1 (Or.inl ⟨rfl, ?_⟩)
          have l1 : ¬ ee L T q - q < (qs_ln (kwA k) : Int) := fun z => by
            have e1 := cch (ee L T q - q) (by omega) z
            have e2 := hk.2 (ee L T q - q) (by omega) z
            rw [← e1, c2] at e2
            have := sg_0.mp e2
            omega
          have l2 : ¬ (qs_ln (kwA k) : Int) < ee L T q - q := fun z => by
            have e1 := v2 (qs_ln (kwA k)) (by omega) z
            have e2 := g.2.2 (q + (qs_ln (kwA k) : Int)) (by omega) (by omega)
            rw [← e1, c32] at e2
            have := sg_0.mp e2
            omega
          have e0 : q + (qs_ln (kwA k) : Int) = ee L T q := by omega
          refine ⟨by omega, fun i i0 i1 => ?_, ?_⟩
          · rw [← v2 i i0 (by omega), cch i i0 i1]
          · rw [e0]; exact g.2.1
        · rw [v1, Sum.elim_inr, ip_P]
          refine hQ 0 (Or.inr ⟨rfl, fun h => ?_⟩)
          have e0 := ml h
          exact v3 ((cch i v2.1 (by omega)).trans (h.2.1 i v2.1 (by omega)).symm)
    · rw [ip_ifF c2, ip_P]
      refine hQ 0 (Or.inr ⟨rfl, fun h => ?_⟩)
      have e0 := ml h
      rw [show (stW k.toNat : Int) + (ee L T q - q) = (stW k.toNat : Int) + (qs_ln (kwA k) : Int) by omega] at c2
      exact c2 c32
theorem ip_wordOf {q : Int} {Q : Int → iMem → Prop} (hW : TaW L T) (hT : TaC L T τ) (q0 : 0 ≤ q) (qL : q < L) (hs : sg (T q) = 0) (hQ : Q (wd L T q) τ) : ip (iz_Teller_wordOf 6 q (ee L T q)) Q τ := by
  have hwl := w_ln
  have he := ee_in (T := T) qL
  have hL := hW.1
  unfold iz_Teller_wordOf
  rw [ip_B]
  refine ip_mono (Q := fun v τ1 => τ1 = τ ∧ ((v = Sum.inl () ∧ wd L T q = -1) ∨ v = Sum.inr (wd L T q))) ?_ (fun v τ1 h => ?_)
  · refine ip_W (fun (s : Int × Int) τ1 => τ1 = τ ∧ ∃ i : Nat, i ≤ qs_ln 408 ∧ s.2 = i ∧ (s.1 = cwX i) ∧ ∀ k : Nat, k < 17 → stW k ≤ i → ¬ mt L T q (kwA k)) (fun s _ => ((qs_ln 408 : Int) - s.2).toNat) ?_ ⟨rfl, 0, Nat.zero_le _, rfl, rfl, fun k hk hz => by have := cw_all k hk; omega⟩
    intro s τ1 ⟨et, i, b1, b2, b3, b4⟩
    obtain ⟨w, j⟩ := s
    subst et
    dsimp only at b2 b3 ⊢
    subst b2 b3
    rw [ip_B, ip_ln]
    by_cases c : (qs_ln 408 : Int) ≤ (i : Int)
    · rw [ip_ifT c, ip_P]
      simp only [Sum.elim_inr]
      refine ⟨trivial, Or.inl ⟨trivial, isW_one wd_is (Or.inl ⟨rfl, fun k k0 k1 => ?_⟩)⟩⟩
      have hk := st_is k.toNat (by omega)
      have := b4 k.toNat (by omega) (by omega)
      rw [show ((k.toNat : Nat) : Int) = k by omega] at this
      exact this
    · have hc := cw_is i (by omega)
      rw [ip_ifF c, ip_B, ip_ch]
      refine ⟨⟨by omega, by omega⟩, ?_⟩
      have hch : iCh 408 (i : Int) = 32 ↔ qs_ch 408 i = 32 := by
        unfold iCh
        rw [Int.toNat_natCast]
        constructor
        · intro h; exact Int32.toInt_inj.mp (h.trans (by decide))
        · intro h; rw [h]; decide
      have tail : ∀ w' : Int, w' = cwX (i + 1) → (∀ k : Nat, k < 17 → stW k ≤ i + 1 → ¬ mt L T q (kwA k)) → ip (iA ((i : Int) + 1) fun y3 => iB (iP y3) fun x8 => iP (Sum.inl (w', x8) : (Int × Int) ⊕ (Unit ⊕ Int))) (fun r τ' => Sum.elim (fun (s' : Int × Int) => (τ' = τ1 ∧ ∃ i : Nat, i ≤ qs_ln 408 ∧ s'.2 = i ∧ (s'.1 = cwX i) ∧ ∀ k : Nat, k < 17 → stW k ≤ i → ¬ mt L T q (kwA k)) ∧ ((qs_ln 408 : Int) - s'.2).toNat < ((qs_ln 408 : Int) - (i : Int)).toNat) (fun v => τ' = τ1 ∧ ((v = Sum.inl () ∧ wd L T q = -1) ∨ v = Sum.inr (wd L T q))) r) τ1 := by
        intro w' hw' hn
        rw [ip_A]
        refine ⟨⟨by omega, by omega⟩, ?_⟩
        rw [ip_B, ip_P, ip_P]
        simp only [Sum.elim_inl]
        exact ⟨⟨trivial, i + 1, by omega, by omega, hw', hn⟩, by omega⟩
      rw [ip_B]
      by_cases d : qs_ch 408 i = 32
      · have e1 : cwX (i + 1) = cwX i + 1 := if_pos d
        have hcd := hc.2 d
        rw [ip_ifF (by rw [hch]; exact fun z => z d), ip_A]
        refine ⟨⟨by omega, by omega⟩, ?_⟩
        rw [ip_B, ip_P, ip_A]
        refine ⟨⟨by omega, by omega⟩, ?_⟩
        rw [ip_B]
        rcases hcd with ⟨z1, z2⟩ | ⟨z1, z2, z3⟩
        · -- behind the last
          unfold iz_Teller_isWord
          rw [ip_A]
          refine ⟨⟨by omega, by omega⟩, ?_⟩
          rw [ip_B, ip_P, ip_ifF (by omega), ip_ifF (by omega), ip_B, ip_ln, ip_A]
          refine ⟨⟨by omega, by omega⟩, ?_⟩
          rw [ip_ifT (by omega), ip_P, ip_ifT rfl, ip_P]
          simp only [Sum.elim_inl]
          refine tail _ e1.symm (fun k hk hz => ?_)
          have := cw_all k hk
          by_cases y : stW k ≤ i
          · exact b4 k hk y
          · rw [show stW k - 1 = i by omega] at this; omega
        · have key := ip_isWordC (τ := τ1) (q := q) (k := cwX i + 1) (Q := fun r τ' => ip (if r = 0 then iP (Sum.inl (cwX i + 1)) else iP (Sum.inr (Sum.inr (Sum.inr (cwX i + 1)) : (Int × Int) ⊕ (Unit ⊕ Int)) : Int ⊕ ((Int × Int) ⊕ (Unit ⊕ Int)))) (fun a τ' => ip (Sum.elim (fun s5 => iA ((i : Int) + 1) fun y3 => iB (iP y3) fun x8 => iP (Sum.inl (s5, x8) : (Int × Int) ⊕ (Unit ⊕ Int))) iP a) (fun r τ' => Sum.elim (fun (s' : Int × Int) => (τ' = τ1 ∧ ∃ i : Nat, i ≤ qs_ln 408 ∧ s'.2 = i ∧ (s'.1 = cwX i) ∧ ∀ k : Nat, k < 17 → stW k ≤ i → ¬ mt L T q (kwA k)) ∧ ((qs_ln 408 : Int) - s'.2).toNat < ((qs_ln 408 : Int) - (i : Int)).toNat) (fun v => τ' = τ1 ∧ ((v = Sum.inl () ∧ wd L T q = -1) ∨ v = Sum.inr (wd L T q))) r) τ') τ') hW hT q0 qL hs z1 z2 (fun r hr => ?_)
          · rw [z3] at key
            exact key
          · rcases hr with ⟨r1, r2⟩ | ⟨r1, r2⟩
            · rw [ip_ifF (by omega), ip_P]
              simp only [Sum.elim_inr, ip_P]
              refine ⟨trivial, Or.inr ?_⟩
              rw [(wd_mt z1 z2).mp r2]
            · rw [ip_ifT r1, ip_P]
              simp only [Sum.elim_inl]
              refine tail _ e1.symm (fun k hk hz => ?_)
              by_cases y : stW k ≤ i
              · exact b4 k hk y
              · have := cw_all k hk
                rw [show stW k - 1 = i by omega] at this
                rw [← this.2.2.2]
                exact r2
      · have e1 : cwX (i + 1) = cwX i := if_neg d
        rw [ip_ifT (by rw [hch]; exact d), ip_P]
        simp only [Sum.elim_inl]
        refine tail _ e1.symm (fun k hk hz => ?_)
        by_cases y : stW k ≤ i
        · exact b4 k hk y
        · have := cw_all k hk
          rw [show stW k - 1 = i by omega] at this
          exact absurd this.1 d
  · obtain ⟨et, h⟩ := h
    subst et
    rcases h with ⟨h1, h2⟩ | h1
    · rw [h1, Sum.elim_inl, ip_P, ← h2]; exact hQ
    · rw [h1, Sum.elim_inr, ip_P]; exact hQ
end
