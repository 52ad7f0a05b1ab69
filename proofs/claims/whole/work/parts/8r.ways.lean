noncomputable def wayE (R : aRun) (h p c v : Int) (t : Int → Int) (e : Int) : Int → Int := if enb R e = 0 ∨ lo R p e c h = -1 then t else up t (20 * e + lo R p e c h) (ibAdd (t (20 * e + lo R p e c h)) v)
noncomputable def wayN (R : aRun) (h p c v : Int) (t : Int → Int) : Nat → Int → Int
  | 0 => t
  | n + 1 => wayE R h p c v (wayN R h p c v t n) (p + n)
noncomputable def wayO (R : aRun) (h a b : Int) (src : Int → Int) : Nat → Int → Int
  | 0 => fun _ => 0
  | n + 1 => if src n ≤ 0 ∨ (n : Int) < 20 * a ∨ 20 * (b + 1) ≤ n then wayO R h a b src n else wayN R h ((n : Int) / 20) ((n : Int) % 20) (src n) (wayO R h a b src n) (b + 1 - (n : Int) / 20).toNat
noncomputable def way (R : aRun) (s h : Int) : Nat → Int → Int
  | 0 => fun x => if x = 20 * bg R s then 1 else 0
  | k + 1 => wayO R h (bg R s) (bg R (s + 1)) (way R s h k) 1840
def okW (R : aRun) (a b : Int) (f : Int → Int) : Prop := ∀ x, f x ≠ 0 → (20 * a ≤ x ∧ x < 20 * (b + 1)) ∧ en R (x / 20)
theorem wayE_ok {R : aRun} (hw : WF R) {h p c v e a b : Int} {t : Int → Int} (ht : okW R a b t) (hh : h ≤ 2000) (a0 : 0 ≤ a) (hb : b ≤ np R) (c0 : 0 ≤ c) (c1 : c < 20) (p0 : a ≤ p) (e0 : p ≤ e) (e1 : e ≤ b) : okW R a b (wayE R h p c v t e) := by
  unfold wayE
  by_cases d : enb R e = 0 ∨ lo R p e c h = -1
  · rw [if_pos d]; exact ht
  · rw [if_neg d]
    have hl := lo_in hw (p := p) (e := e) (c := c) (h := h) (by omega) (by omega) c0 c1 hh
    intro x hx
    by_cases y : x = 20 * e + lo R p e c h
    · refine ⟨by omega, ?_⟩
      rw [show x / 20 = e by omega]
      exact enb_en (by omega)
    · refine ht x ?_
      have : up t (20 * e + lo R p e c h) (ibAdd (t (20 * e + lo R p e c h)) v) x = t x := if_neg y
      rwa [this] at hx
theorem wayN_ok {R : aRun} (hw : WF R) {h p c v a b : Int} {t : Int → Int} (ht : okW R a b t) (hh : h ≤ 2000) (a0 : 0 ≤ a) (hb : b ≤ np R) (c0 : 0 ≤ c) (c1 : c < 20) (p0 : a ≤ p) : ∀ n : Nat, p + n ≤ b + 1 → okW R a b (wayN R h p c v t n) := by
  intro n
  induction n with
  | zero => intro _; exact ht
  | succ n ih => intro hn; exact wayE_ok hw (ih (by omega)) hh a0 hb c0 c1 p0 (by omega) (by omega)
theorem wayO_ok {R : aRun} (hw : WF R) {h a b : Int} {src : Int → Int} (hh : h ≤ 2000) (a0 : 0 ≤ a) (hb : b ≤ np R) : ∀ n : Nat, okW R a b (wayO R h a b src n) := by
  intro n
  induction n with
  | zero => intro x hx; exact absurd rfl hx
  | succ n ih =>
    show okW R a b (if src n ≤ 0 ∨ (n : Int) < 20 * a ∨ 20 * (b + 1) ≤ n then wayO R h a b src n else wayN R h ((n : Int) / 20) ((n : Int) % 20) (src n) (wayO R h a b src n) (b + 1 - (n : Int) / 20).toNat)
    by_cases d : src n ≤ 0 ∨ (n : Int) < 20 * a ∨ 20 * (b + 1) ≤ n
    · rw [if_pos d]; exact ih
    · rw [if_neg d]
      exact wayN_ok hw ih hh a0 hb (by omega) (by omega) (by omega) _ (by omega)
theorem way_ok {R : aRun} (hw : WF R) {s h : Int} (h0 : 0 ≤ s) (h1 : s < ns R) (hh : h ≤ 2000) : ∀ k : Nat, okW R (bg R s) (bg R (s + 1)) (way R s h k) := by
  have hb := bg_step hw s
  intro k
  cases k with
  | zero =>
    intro x hx
    have e : x = 20 * bg R s := by
      by_cases d : x = 20 * bg R s
      · exact d
      · exact absurd (show way R s h 0 x = 0 from if_neg d) hx
    refine ⟨by omega, ?_⟩
    rw [show x / 20 = bg R s by omega]
    exact en_begin h0 h1
  | succ k => exact wayO_ok hw hh hb.1 hb.2.2 1840
theorem wayO_s {R : aRun} {h a b : Int} {src : Int → Int} (n : Nat) : wayO R h a b src (n + 1) = if src n ≤ 0 ∨ (n : Int) < 20 * a ∨ 20 * (b + 1) ≤ n then wayO R h a b src n else wayN R h ((n : Int) / 20) ((n : Int) % 20) (src n) (wayO R h a b src n) (b + 1 - (n : Int) / 20).toNat := rfl
theorem wayO_low {R : aRun} {h a b : Int} {src : Int → Int} : ∀ n : Nat, (n : Int) ≤ 20 * a → wayO R h a b src n = fun _ => 0 := by
  intro n
  induction n with
  | zero => intro _; rfl
  | succ n ih => intro hn; rw [wayO_s, if_pos (by omega)]; exact ih (by omega)
theorem wayO_top {R : aRun} {h a b : Int} {src : Int → Int} (m : Nat) (hm : 20 * (b + 1) ≤ m) : ∀ n : Nat, wayO R h a b src (m + n) = wayO R h a b src m := by
  intro n
  induction n with
  | zero => rfl
  | succ n ih => rw [show m + (n + 1) = (m + n) + 1 from rfl, wayO_s, if_pos (by omega)]; exact ih
theorem wayN_stop {R : aRun} {h p c v : Int} {t : Int → Int} (m : Nat) : ∀ n : Nat, (∀ i : Nat, m ≤ i → i < m + n → lo R p (p + i) c h = -1) → wayN R h p c v t (m + n) = wayN R h p c v t m := by
  intro n
  induction n with
  | zero => intro _; rfl
  | succ n ih =>
    intro hn
    show wayE R h p c v (wayN R h p c v t (m + n)) (p + ((m + n : Nat) : Int)) = _
    unfold wayE
    rw [if_pos (Or.inr (hn (m + n) (by omega) (by omega)))]
    exact ih (fun i i0 i1 => hn i i0 (by omega))
theorem wl_365 : qm_rf 364 0 = 365 ∧ qm_rf 364 1 = 366 ∧ 1820 ≤ iLen 365 ∧ 1820 ≤ iLen 366 ∧ iLen 365 ≤ 5000 ∧ iLen 366 ≤ 5000 := by decide +kernel
section
variable {τ : iMem} {R : aRun}
theorem ip_stepW {x b v h : Int} {r : Nat} {t : Int → Int} {Q : Unit → iMem → Prop} (hw : WF R) (hx : Cx R 70 53 1 τ) (hrn : 0 < rn R) (hr : 322 ≤ r) (hr2 : r < 367) (hl : 1820 ≤ iLen r) (x0 : 0 ≤ x) (p1 : x / 20 ≤ b) (hb : b ≤ np R) (hh : 0 ≤ h) (hh2 : h ≤ 2000) (ht : ∀ y, 0 ≤ y → y < 1820 → τ r y = t y)
    (hQ : ∀ τ', (∀ y, 0 ≤ y → y < 1820 → τ' r y = wayN R h (x / 20) (x % 20) v t (b + 1 - x / 20).toNat y) → (∀ a k, a ≠ r → τ' a k = τ a k) → Q () τ') : ip (iz_Walker_stepWays 360 x b v h r) Q τ := by
  have h90 := hw.2.2.2
  have hff := isFlow_53
  have hft := pr_F isPress_52
  unfold iz_Walker_stepWays
  rw [ip_B, ip_Dv]
  refine ⟨⟨x0, by omega⟩, ?_⟩
  rw [ip_B, ip_Rm]
  refine ⟨⟨x0, by omega⟩, ?_⟩
  have p0 : 0 ≤ x / 20 := by omega
  have c0 : 0 ≤ x % 20 := by omega
  have c1 : x % 20 < 20 := by omega
  generalize x / 20 = p at *
  generalize x % 20 = c at *
  rw [ip_B]
  refine ip_mono (Q := fun _ τ' => (∀ y, 0 ≤ y → y < 1820 → τ' r y = wayN R h p c v t (b + 1 - p).toNat y) ∧ (∀ a k, a ≠ r → τ' a k = τ a k)) ?_ (fun _ τ' e => by rw [ip_P]; exact hQ τ' e.1 e.2)
  refine ip_W (fun j τ' => (p ≤ j ∧ j ≤ b + 1) ∧ (∀ y, 0 ≤ y → y < 1820 → τ' r y = wayN R h p c v t (j - p).toNat y) ∧ (∀ a k, a ≠ r → τ' a k = τ a k)) (fun j _ => (b + 1 - j).toNat) ?_ ⟨⟨Int.le_refl _, by omega⟩, fun y y0 y1 => by rw [show (p - p).toNat = 0 by omega]; exact ht y y0 y1, fun _ _ _ => rfl⟩
  intro j τ' ⟨b1, b2, b3⟩
  have hx' : Cx R 70 53 1 τ' := hx.frame (by omega) (fun a k z => b3 a k (by omega))
  by_cases z : b < j
  · rw [ip_ifT z, ip_P]
    exact ⟨fun y y0 y1 => by rw [b2 y y0 y1, show j = b + 1 by omega], b3⟩
  · rw [ip_ifF z, ip_B, w_0, ip_text hff hw hx'.2.1 p0 (by omega)]
    by_cases z1 : h < tx R p j
    · rw [ip_ifT z1, ip_P]
      refine ⟨fun y y0 y1 => ?_, b3⟩
      have hpj : p < j := by
        by_cases y : p = j
        · subst y; rw [tx_self] at z1; omega
        · omega
      have st := wayN_stop (R := R) (h := h) (p := p) (c := c) (v := v) (t := t) (j - p).toNat (b + 1 - j).toNat (fun i i0 i1 => by
        have := tx_mono hw p0 hpj (show j ≤ p + i by omega) (by omega)
        exact lo_no hw p0 (by omega) c0 (by omega))
      rw [show (j - p).toNat + (b + 1 - j).toNat = (b + 1 - p).toNat by omega] at st
      rw [b2 y y0 y1, st]
    · rw [ip_ifF z1, ip_B]
      refine ip_mayEnd hff hw hx'.2.2.1 hrn (by omega) (by omega) (fun r1 hr1 => ?_)
      have er := enb_is hr1
      have hlo := lo_in hw (p := p) (e := j) (c := c) (h := h) p0 (by omega) c0 c1 hh2
      have en : (j + 1 - p).toNat = (j - p).toNat + 1 := by omega
      have ep : p + (((j - p).toNat : Nat) : Int) = j := by omega
      have eW : wayN R h p c v t ((j - p).toNat + 1) = wayE R h p c v (wayN R h p c v t (j - p).toNat) j := by
        show wayE R h p c v (wayN R h p c v t (j - p).toNat) (p + (((j - p).toNat : Nat) : Int)) = _
        rw [ep]
      have tail : ∀ τ3 : iMem, (∀ y, 0 ≤ y → y < 1820 → τ3 r y = wayE R h p c v (wayN R h p c v t (j - p).toNat) j y) → (∀ a k, a ≠ r → τ3 a k = τ' a k) → ip (iA (j + 1) fun y1 => iB (iP y1) fun x11 => iP (Sum.inl x11 : Int ⊕ Unit)) (fun r2 τ'' => Sum.elim (fun s' => ((p ≤ s' ∧ s' ≤ b + 1) ∧ (∀ y, 0 ≤ y → y < 1820 → τ'' r y = wayN R h p c v t (s' - p).toNat y) ∧ (∀ a k, a ≠ r → τ'' a k = τ a k)) ∧ (b + 1 - s').toNat < (b + 1 - j).toNat) (fun _ => (∀ y, 0 ≤ y → y < 1820 → τ'' r y = wayN R h p c v t (b + 1 - p).toNat y) ∧ (∀ a k, a ≠ r → τ'' a k = τ a k)) r2) τ3 := by
        intro τ3 q1 q2
        rw [ip_A]
        refine ⟨⟨by omega, by omega⟩, ?_⟩
        rw [ip_B, ip_P, ip_P]
        simp only [Sum.elim_inl]
        refine ⟨⟨⟨by omega, by omega⟩, fun y y0 y1 => ?_, fun a k y => by rw [q2 a k y]; exact b3 a k y⟩, by omega⟩
        rw [en, eW]; exact q1 y y0 y1
      have same : (enb R j = 0 ∨ lo R p j c h = -1) → ∀ y, 0 ≤ y → y < 1820 → τ' r y = wayE R h p c v (wayN R h p c v t (j - p).toNat) j y := fun hs y y0 y1 => by
        unfold wayE
        rw [if_pos hs]; exact b2 y y0 y1
      rw [ip_B]
      by_cases z2 : r1 = 0
      · rw [ip_ifT z2, ip_P, ip_A]
        refine ⟨⟨by omega, by omega⟩, ?_⟩
        rw [ip_A]
        refine ⟨⟨by omega, by omega⟩, ?_⟩
        rw [ip_B, ip_P, ip_B, ip_ifT rfl, ip_P]
        exact tail τ' (same (Or.inl (by omega))) (fun _ _ _ => rfl)
      · rw [ip_ifF z2, ip_B, w_1, ip_leftOver hft hw hx'.2.1 hx'.2.2.2.1 p0 (by omega) (by omega) c0 (by omega) hh hh2, ip_P, ip_A]
        refine ⟨⟨by omega, by omega⟩, ?_⟩
        rw [ip_A]
        refine ⟨⟨by omega, by omega⟩, ?_⟩
        rw [ip_B, ip_P, ip_B]
        by_cases z3 : lo R p j c h = -1
        · rw [ip_ifT z3, ip_P]
          exact tail τ' (same (Or.inr z3)) (fun _ _ _ => rfl)
        · have tj := b2 (20 * j + lo R p j c h) (by omega) (by omega)
          rw [ip_ifF z3, ip_ifF (by omega), ip_ifF (by omega), show j * 20 + lo R p j c h = 20 * j + lo R p j c h by omega, ip_B, ip_Ld, tj]
          refine ⟨⟨by omega, by omega⟩, ?_⟩
          rw [ip_B, ip_St]
          refine ⟨⟨⟨by omega, by omega⟩, by omega⟩, ?_⟩
          rw [ip_P]
          refine tail _ (fun y y0 y1 => ?_) (fun a k y => iu_ne (Or.inl y))
          unfold wayE
          rw [if_neg (show ¬ (enb R j = 0 ∨ lo R p j c h = -1) by omega)]
          unfold up
          by_cases d : y = 20 * j + lo R p j c h
          · rw [if_pos d, d, iu_eq]
          · rw [if_neg d, iu_ne (Or.inr d)]; exact b2 y y0 y1
end
