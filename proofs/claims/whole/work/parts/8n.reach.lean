/-! ===== how far, and in how many ways ===== -/
theorem lo_no {R : aRun} (hw : WF R) {p e c h : Int} (h0 : 0 ≤ p) (he : e ≤ np R) (hc : 0 ≤ c) (hh : h < tx R p e) : lo R p e c h = -1 := by
  have h6 := hw.2.1.2.2.2.2.2.2.1
  have hl : li R (h - tx R p e) = 0 := by unfold li; rw [if_pos (by omega)]
  have ho := ol_in hw h0 he
  unfold lo
  rw [hl]
  by_cases c1 : ol R p e + c = 0
  · rw [if_pos c1, if_pos (by omega)]
  · rw [if_neg c1]
    by_cases c2 : ol R p e ≤ 0
    · rw [if_pos c2, if_neg (by omega)]
    · have := ll_ol hw h0 he (by omega)
      rw [if_neg c2, if_neg (by omega)]
theorem tx_mono {R : aRun} (hw : WF R) {p e e' : Int} (h0 : 0 ≤ p) (h1 : p < e) (h2 : e ≤ e') (h3 : e' ≤ np R) : tx R p e ≤ tx R p e' := by
  have := hT_mono hw (a := e) (b := e') (by omega) h2 h3
  unfold tx
  rw [if_neg (by omega), if_neg (by omega)]
  omega
theorem tx_self {R : aRun} {p : Int} : tx R p p = 0 := if_pos (Int.le_refl _)
/-- the less one, where -1 is none -/
def mer (t v : Int) : Int := if v = -1 then t else if t = -1 then v else if t ≤ v then t else v
noncomputable def frN (R : aRun) (h a : Int) (src : Int → Int) (e : Int) : Nat → Int
  | 0 => -1
  | n + 1 => if src (a + n) = -1 ∨ e < a + n ∨ enb R e = 0 then frN R h a src e n else mer (frN R h a src e n) (lo R (a + n) e (src (a + n)) h)
theorem frN_s {R : aRun} {h a e : Int} {src : Int → Int} (n : Nat) : frN R h a src e (n + 1) = if src (a + n) = -1 ∨ e < a + n ∨ enb R e = 0 then frN R h a src e n else mer (frN R h a src e n) (lo R (a + n) e (src (a + n)) h) := rfl
noncomputable def rch (R : aRun) (s h : Int) : Nat → Int → Int
  | 0, e => if e = bg R s then 0 else -1
  | k + 1, e => frN R h (bg R s) (rch R s h k) e (bg R (s + 1) + 1 - bg R s).toNat
theorem enb_1 {R : aRun} {e : Int} (h : en R e) : enb R e = 1 := if_pos h
theorem enb_en {R : aRun} {e : Int} (h : enb R e ≠ 0) : en R e := by
  by_cases c : en R e
  · exact c
  · exact absurd (show enb R e = 0 from if_neg c) h
def okRow (R : aRun) (a b : Int) (f : Int → Int) : Prop := ∀ e, a ≤ e → e ≤ b → f e = -1 ∨ ((0 ≤ f e ∧ f e < 20) ∧ en R e)
theorem frN_ok {R : aRun} (hw : WF R) {h a b : Int} {src : Int → Int} (hh : h ≤ 2000) (a0 : 0 ≤ a) (hb : b ≤ np R) (hs : okRow R a b src) {e : Int} (e0 : a ≤ e) (e1 : e ≤ b) : ∀ n : Nat, a + n ≤ b + 1 → frN R h a src e n = -1 ∨ ((0 ≤ frN R h a src e n ∧ frN R h a src e n < 20) ∧ en R e) := by
  intro n
  induction n with
  | zero => intro _; exact Or.inl rfl
  | succ n ih =>
    intro hn
    have ih := ih (by omega)
    rw [frN_s]
    by_cases c : src (a + n) = -1 ∨ e < a + n ∨ enb R e = 0
    · rw [if_pos c]; exact ih
    · rw [if_neg c]
      have hsn := hs (a + n) (by omega) (by omega)
      have hl := lo_in hw (p := a + n) (e := e) (c := src (a + n)) (h := h) (by omega) (by omega) (by omega) (by omega) hh
      have he : en R e := enb_en (by omega)
      unfold mer
      by_cases c1 : lo R (a + n) e (src (a + n)) h = -1
      · rw [if_pos c1]; exact ih
      · rw [if_neg c1]
        by_cases c2 : frN R h a src e n = -1
        · rw [if_pos c2]; exact Or.inr ⟨by omega, he⟩
        · rw [if_neg c2]
          refine Or.inr ⟨?_, he⟩
          split <;> omega
theorem rch_ok {R : aRun} (hw : WF R) {s h : Int} (h0 : 0 ≤ s) (h1 : s < ns R) (hh : h ≤ 2000) : ∀ k : Nat, okRow R (bg R s) (bg R (s + 1)) (rch R s h k) := by
  have hb := bg_step hw s
  intro k
  induction k with
  | zero =>
    intro e e0 e1
    show (if e = bg R s then (0 : Int) else -1) = -1 ∨ _
    by_cases c : e = bg R s
    · refine Or.inr ⟨?_, by rw [c]; exact en_begin h0 h1⟩
      show 0 ≤ (if e = bg R s then (0 : Int) else -1) ∧ (if e = bg R s then (0 : Int) else -1) < 20
      rw [if_pos c]; omega
    · exact Or.inl (if_neg c)
  | succ k ih =>
    intro e e0 e1
    exact frN_ok hw hh hb.1 hb.2.2 ih e0 e1 _ (by omega)
theorem ib_par {k : Int} (h0 : 0 ≤ k) (h1 : k < 8) : ibAnd k 1 = k % 2 := by
  have key : ∀ n : Nat, n < 8 → ibAnd (n : Int) 1 = (n : Int) % 2 := by decide +kernel
  have := key k.toNat (by omega)
  rwa [show ((k.toNat : Nat) : Int) = k by omega] at this
theorem w_0 : qm_rf 360 0 = 53 := by decide +kernel
theorem w_1 : qm_rf 360 1 = 70 := by decide +kernel
theorem w_2 : qm_rf 360 2 = 361 := by decide +kernel
theorem w_3 : qm_rf 360 3 = 364 := by decide +kernel
theorem wl_361 : iLen 361 = 2 := by decide +kernel
theorem wl_364 : iLen 364 = 2 := by decide +kernel
theorem w_361 {i : Nat} (h : i < 2) : qm_rf 361 i = 362 + i ∧ 91 ≤ iLen (362 + i) := by
  have key : ∀ i : Nat, i < 2 → qm_rf 361 i = 362 + i ∧ 91 ≤ iLen (362 + i) := by decide +kernel
  exact key i h
section
variable {τ : iMem} {R : aRun}
theorem ip_fillRow {r : Nat} {v : Int} {Q : Unit → iMem → Prop} (hr : r < 405) (hl : iLen r ≤ 5000) (hQ : ∀ τ', (∀ k, 0 ≤ k → k < iLen r → τ' r k = v) → (∀ a k, a ≠ r → τ' a k = τ a k) → Q () τ') : ip (iz_Walker_fillRow r v) Q τ := by
  have h0 : 0 ≤ iLen r := by unfold iLen; omega
  unfold iz_Walker_fillRow
  rw [ip_B]
  refine ip_mono (Q := fun _ τ' => (∀ k, 0 ≤ k → k < iLen r → τ' r k = v) ∧ (∀ a k, a ≠ r → τ' a k = τ a k)) ?_ (fun _ τ' e => by rw [ip_P]; exact hQ τ' e.1 e.2)
  refine ip_W (fun i τ' => (0 ≤ i ∧ i ≤ iLen r) ∧ (∀ k, 0 ≤ k → k < i → τ' r k = v) ∧ (∀ a k, a ≠ r → τ' a k = τ a k)) (fun i _ => (iLen r - i).toNat) ?_ ⟨⟨Int.le_refl _, h0⟩, fun k k0 k1 => by omega, fun _ _ _ => rfl⟩
  intro i τ' ⟨b1, b2, b3⟩
  by_cases c : iLen r ≤ i
  · rw [ip_ifT c, ip_P]
    exact ⟨fun k k0 k1 => b2 k k0 (by omega), b3⟩
  · rw [ip_ifF c, ip_B, ip_St]
    refine ⟨⟨⟨by omega, by omega⟩, hr⟩, ?_⟩
    rw [ip_A]
    refine ⟨⟨by omega, by omega⟩, ?_⟩
    rw [ip_B, ip_P, ip_P]
    simp only [Sum.elim_inl]
    refine ⟨⟨⟨by omega, by omega⟩, fun k k0 k1 => ?_, fun a k h => (iu_ne (Or.inl h)).trans (b3 a k h)⟩, by omega⟩
    by_cases d : k = i
    · subst d; exact iu_eq
    · rw [iu_ne (Or.inr d)]; exact b2 k k0 (by omega)
theorem mer_no {t : Int} : mer t (-1) = t := if_pos rfl
theorem ip_stepF {p b c h : Int} {r : Nat} {t : Int → Int} {Q : Unit → iMem → Prop} (hw : WF R) (hx : Cx R 70 53 1 τ) (hrn : 0 < rn R) (hr : 322 ≤ r) (hr2 : r < 367) (hl : 91 ≤ iLen r) (p0 : 0 ≤ p) (p1 : p ≤ b) (hb : b ≤ np R) (c0 : 0 ≤ c) (c1 : c < 20) (hh : 0 ≤ h) (hh2 : h ≤ 2000) (ht : ∀ e, p ≤ e → e ≤ b → τ r e = t e)
    (hQ : ∀ τ', (∀ e, p ≤ e → e ≤ b → τ' r e = if enb R e = 0 then t e else mer (t e) (lo R p e c h)) → (∀ a k, ¬ (a = r ∧ p ≤ k ∧ k ≤ b) → τ' a k = τ a k) → Q () τ') : ip (iz_Walker_stepFarther 360 p b c h r) Q τ := by
  have h90 := hw.2.2.2
  have hff := isFlow_53
  have hft := pr_F isPress_52
  unfold iz_Walker_stepFarther
  rw [ip_B]
  refine ip_mono (Q := fun _ τ' => (∀ e, p ≤ e → e ≤ b → τ' r e = if enb R e = 0 then t e else mer (t e) (lo R p e c h)) ∧ (∀ a k, ¬ (a = r ∧ p ≤ k ∧ k ≤ b) → τ' a k = τ a k)) ?_ (fun _ τ' e => by rw [ip_P]; exact hQ τ' e.1 e.2)
  refine ip_W (fun j τ' => (p ≤ j ∧ j ≤ b + 1) ∧ (∀ e, p ≤ e → e ≤ b → τ' r e = if e < j then (if enb R e = 0 then t e else mer (t e) (lo R p e c h)) else t e) ∧ (∀ a k, ¬ (a = r ∧ p ≤ k ∧ k ≤ b) → τ' a k = τ a k)) (fun j _ => (b + 1 - j).toNat) ?_ ⟨⟨Int.le_refl _, by omega⟩, fun e e0 e1 => by rw [if_neg (by omega)]; exact ht e e0 e1, fun _ _ _ => rfl⟩
  intro j τ' ⟨b1, b2, b3⟩
  have hx' : Cx R 70 53 1 τ' := hx.frame (by omega) (fun a k z => b3 a k (by omega))
  by_cases z : b < j
  · rw [ip_ifT z, ip_P]
    exact ⟨fun e e0 e1 => by rw [b2 e e0 e1, if_pos (by omega)], b3⟩
  · rw [ip_ifF z, ip_ifF (by omega), ip_B, w_0, ip_text hff hw hx'.2.1 p0 (by omega)]
    by_cases z1 : h < tx R p j
    · rw [ip_ifT z1, ip_P]
      refine ⟨fun e e0 e1 => ?_, b3⟩
      rw [b2 e e0 e1]
      by_cases d : e < j
      · rw [if_pos d]
      · have hpj : p < j := by
          by_cases y : p = j
          · subst y; rw [tx_self] at z1; omega
          · omega
        have := tx_mono hw p0 hpj (show j ≤ e by omega) (by omega)
        have hlo := lo_no hw (p := p) (e := e) (c := c) (h := h) p0 (by omega) c0 (by omega)
        rw [if_neg d, hlo, mer_no]
        split <;> rfl
    · rw [ip_ifF z1, ip_B]
      refine ip_mayEnd hff hw hx'.2.2.1 hrn (by omega) (by omega) (fun r1 hr1 => ?_)
      have er := enb_is hr1
      have hlo := lo_in hw (p := p) (e := j) (c := c) (h := h) p0 (by omega) c0 c1 hh2
      -- the tail
      have tail : ∀ τ3 : iMem, τ3 r j = (if enb R j = 0 then t j else mer (t j) (lo R p j c h)) → (∀ a k, ¬ (a = r ∧ k = j) → τ3 a k = τ' a k) → ip (iA (j + 1) fun y1 => iB (iP y1) fun x11 => iP (Sum.inl x11 : Int ⊕ Unit)) (fun r2 τ'' => Sum.elim (fun s' => ((p ≤ s' ∧ s' ≤ b + 1) ∧ (∀ e, p ≤ e → e ≤ b → τ'' r e = if e < s' then (if enb R e = 0 then t e else mer (t e) (lo R p e c h)) else t e) ∧ (∀ a k, ¬ (a = r ∧ p ≤ k ∧ k ≤ b) → τ'' a k = τ a k)) ∧ (b + 1 - s').toNat < (b + 1 - j).toNat) (fun _ => (∀ e, p ≤ e → e ≤ b → τ'' r e = if enb R e = 0 then t e else mer (t e) (lo R p e c h)) ∧ (∀ a k, ¬ (a = r ∧ p ≤ k ∧ k ≤ b) → τ'' a k = τ a k)) r2) τ3 := by
        intro τ3 q1 q2
        rw [ip_A]
        refine ⟨⟨by omega, by omega⟩, ?_⟩
        rw [ip_B, ip_P, ip_P]
        simp only [Sum.elim_inl]
        refine ⟨⟨⟨by omega, by omega⟩, fun e e0 e1 => ?_, fun a k y => by rw [q2 a k (by omega)]; exact b3 a k y⟩, by omega⟩
        by_cases d : e = j
        · subst d; rw [if_pos (by omega)]; exact q1
        · rw [q2 r e (by omega), b2 e e0 e1]
          by_cases d2 : e < j
          · rw [if_pos d2, if_pos (show e < j + 1 by omega)]
          · rw [if_neg d2, if_neg (show ¬ e < j + 1 by omega)]
      have tj := b2 j b1.1 (by omega)
      rw [if_neg (by omega)] at tj
      rw [ip_B]
      by_cases z2 : r1 = 0
      · rw [ip_ifT z2, ip_P, ip_B, ip_ifT rfl, ip_P]
        exact tail τ' (by rw [if_pos (by omega)]; exact tj) (fun _ _ _ => rfl)
      · rw [ip_ifF z2, ip_B, w_1, ip_leftOver hft hw hx'.2.1 hx'.2.2.2.1 p0 (by omega) (by omega) c0 (by omega) hh hh2, ip_P, ip_B]
        have en0 : enb R j ≠ 0 := by omega
        by_cases z3 : lo R p j c h = -1
        · rw [ip_ifT z3, ip_P]
          exact tail τ' (by rw [if_neg en0, z3, mer_no]; exact tj) (fun _ _ _ => rfl)
        · rw [ip_ifF z3, ip_B, ip_Ld, tj]
          refine ⟨⟨by omega, by omega⟩, ?_⟩
          rw [ip_B]
          have wr : mer (t j) (lo R p j c h) = lo R p j c h → ip (iB (iSt r j (lo R p j c h)) fun _ => iP ()) (fun (_ : Unit) τ'' => ip (iA (j + 1) fun y1 => iB (iP y1) fun x11 => iP (Sum.inl x11 : Int ⊕ Unit)) (fun r2 τ'' => Sum.elim (fun s' => ((p ≤ s' ∧ s' ≤ b + 1) ∧ (∀ e, p ≤ e → e ≤ b → τ'' r e = if e < s' then (if enb R e = 0 then t e else mer (t e) (lo R p e c h)) else t e) ∧ (∀ a k, ¬ (a = r ∧ p ≤ k ∧ k ≤ b) → τ'' a k = τ a k)) ∧ (b + 1 - s').toNat < (b + 1 - j).toNat) (fun _ => (∀ e, p ≤ e → e ≤ b → τ'' r e = if enb R e = 0 then t e else mer (t e) (lo R p e c h)) ∧ (∀ a k, ¬ (a = r ∧ p ≤ k ∧ k ≤ b) → τ'' a k = τ a k)) r2) τ'') τ' := by
            intro hm
            rw [ip_B, ip_St]
            refine ⟨⟨⟨by omega, by omega⟩, by omega⟩, ?_⟩
            rw [ip_P]
            exact tail _ (by rw [iu_eq, if_neg en0, hm]) (fun a k y => iu_ne (by omega))
          by_cases z4 : t j = -1
          · rw [ip_ifT z4, ip_P]
            simp only [Sum.elim_inl]
            exact wr (by unfold mer; rw [if_neg z3, if_pos z4])
          · rw [ip_ifF z4, ip_B, ip_Ld, tj]
            refine ⟨⟨by omega, by omega⟩, ?_⟩
            by_cases z5 : t j ≤ lo R p j c h
            · rw [ip_ifT z5, ip_P]
              simp only [Sum.elim_inr, ip_P]
              exact tail τ' (by rw [if_neg en0, tj]; unfold mer; rw [if_neg z3, if_neg z4, if_pos z5]) (fun _ _ _ => rfl)
            · rw [ip_ifF z5, ip_P]
              simp only [Sum.elim_inl]
              exact wr (by unfold mer; rw [if_neg z3, if_neg z4, if_neg z5])
end
