/-! ===== the other one reads: single steps ===== -/
def fr4 (τ0 τ : iMem) : Prop := ∀ a k, ¬ (a = 404 ∨ (a = 367 ∧ 46 ≤ k ∧ k ≤ 53)) → τ a k = τ0 a k
def fs4 (τ τ' : iMem) : Prop := ∀ a k, ¬ (a = 367 ∧ 46 ≤ k ∧ k ≤ 49) → τ' a k = τ a k
/-- where it stands -/
def Sp (L : Int) (T : Int → Int) (q : Int) (τ : iMem) : Prop := ∃ p, τ 367 46 = p ∧ (0 ≤ p ∧ p ≤ L) ∧ sk L T p = q
section
variable {L : Int} {T : Int → Int} {τ τ' : iMem} {q p : Int}
theorem TaM.fs (h : TaM L T τ) (hf : fs4 τ τ') : TaM L T τ' := h.frame (hf _ _ (by omega)) (fun k => hf _ _ (by omega))
theorem fs4.trans {τ1 τ2 τ3 : iMem} (h : fs4 τ1 τ2) (g : fs4 τ2 τ3) : fs4 τ1 τ3 := fun a k z => (g a k z).trans (h a k z)
theorem ip_byteAt {k : Int} {Q : Int → iMem → Prop} (hW : TaW L T) (hT : TaM L T τ) (k0 : 0 ≤ k) : ip (iz_Model_byteAt 367 k) Q τ ↔ Q (if k < L then T k else -1) τ := by
  have hL := hW.1
  unfold iz_Model_byteAt
  rw [ip_B, ip_Gt, hT.1]
  by_cases c : L ≤ k
  · rw [ip_ifT c, ip_P, if_neg (by omega)]
  · rw [ip_ifF c, ip_B, ip_Ld, m_44, l_403]
    refine (and_iff_right ⟨by omega, by omega⟩).trans ?_
    rw [ip_P, hT.2 k k0 (by omega), if_pos (by omega)]
theorem ip_nextByte {Q : Int → iMem → Prop} (hW : TaW L T) (hT : TaM L T τ) (hp : Sp L T q τ) (hQ : ∀ τ', τ' 367 46 = q → fs4 τ τ' → (∀ a k, ¬ (a = 367 ∧ k = 46) → τ' a k = τ a k) → Q (if q < L then T q else -1) τ') : ip (iz_Model_nextByte 367) Q τ := by
  have hL := hW.1
  obtain ⟨p, p1, p2, p3⟩ := hp
  unfold iz_Model_nextByte
  rw [ip_B]
  refine ip_mono (Q := fun _ τ1 => τ1 367 46 = q ∧ (∀ a k, ¬ (a = 367 ∧ k = 46) → τ1 a k = τ a k)) ?_ (fun _ τ1 g => ?_)
  · refine ip_W (fun _ τ1 => ∃ r, τ1 367 46 = r ∧ (0 ≤ r ∧ r ≤ L) ∧ sk L T r = q ∧ (∀ a k, ¬ (a = 367 ∧ k = 46) → τ1 a k = τ a k)) (fun _ τ1 => (L - τ1 367 46).toNat) ?_ ⟨p, p1, p2, p3, fun _ _ _ => rfl⟩
    intro s τ1 ⟨r, r1, r2, r3, r4⟩
    have hT1 : TaM L T τ1 := hT.frame (r4 _ _ (by omega)) (fun k => r4 _ _ (by omega))
    rw [ip_B, ip_Gt, r1, ip_B, ip_byteAt hW hT1 r2.1]
    by_cases c : r < L ∧ T r = 32
    · rw [if_pos c.1, ip_ifF (fun z => z c.2), ip_B, ip_Gt, r1, ip_A]
      refine ⟨⟨by omega, by omega⟩, ?_⟩
      rw [ip_B, ip_Pt, ip_P]
      simp only [Sum.elim_inl]
      refine ⟨⟨r + 1, iu_eq, ⟨by omega, by omega⟩, by rw [← sk_s c.1 c.2]; exact r3, fun a k z => (iu_ne (by omega)).trans (r4 a k z)⟩, ?_⟩
      rw [iu_eq]
      omega
    · have hb : ¬ (if r < L then T r else -1) = 32 := by
        by_cases z : r < L
        · rw [if_pos z]; exact fun y => c ⟨z, y⟩
        · rw [if_neg z]; omega
      rw [ip_ifT hb, ip_P]
      simp only [Sum.elim_inr]
      rw [sk_e c] at r3
      exact ⟨by omega, r4⟩
  · have hT1 : TaM L T τ1 := hT.frame (g.2 _ _ (by omega)) (fun k => g.2 _ _ (by omega))
    have hq : 0 ≤ q := by have := (sk_in (T := T) p2.2).1; omega
    rw [ip_B, ip_Gt, g.1, ip_B, ip_byteAt hW hT1 hq, ip_P]
    exact hQ τ1 g.1 (fun a k z => g.2 a k (by omega)) g.2
theorem Sp.at (hp : Sp L T q τ) : (0 ≤ q ∧ q ≤ L) ∧ sk L T q = q := by
  obtain ⟨p, p1, p2, p3⟩ := hp
  have := (sk_in (T := T) p2.2).1
  refine ⟨by omega, ?_⟩
  rw [← p3]
  exact sk_sk p2.2
theorem Sp_of (h : τ 367 46 = q) (q0 : 0 ≤ q) (q1 : q ≤ L) (hs : sk L T q = q) : Sp L T q τ := ⟨q, h, ⟨q0, q1⟩, hs⟩
theorem ip_fails {Q : Int → iMem → Prop} {k : Int} (k0 : 1 ≤ k) (k1 : k ≤ 3) (p0 : 0 ≤ p) (p1 : p ≤ 400) : ip (iz_Model_fails 367 k p) Q τ ↔ Q 0 (iu τ 367 47 (8 * p + k)) := by
  unfold iz_Model_fails
  rw [ip_A]
  refine (and_iff_right ⟨by omega, by omega⟩).trans ?_
  rw [ip_A]
  refine (and_iff_right ⟨by omega, by omega⟩).trans ?_
  rw [ip_B, ip_Pt, ip_P]
theorem iCh_in (a : Nat) (i : Int) : 0 ≤ iCh a i ∧ iCh a i ≤ 127 := iq_ch a i.toNat
/-- whether a WORD stands here -/
theorem ip_MisWord {Q : Int → iMem → Prop} {k : Int} (hW : TaW L T) (hT : TaM L T τ) (hp : Sp L T q τ) (k0 : 0 ≤ k) (k1 : k < 17) (hQ : ∀ τ', τ' 367 46 = q → (∀ a k, ¬ (a = 367 ∧ k = 46) → τ' a k = τ a k) → Q (if wd L T q = k then 1 else 0) τ') : ip (iz_Model_isWord 367 (kwA k)) Q τ := by
  have hL := hW.1
  have hq := hp.at
  have hk := kw_at k0 k1
  have hk2 := kw_let k.toNat (by omega)
  rw [show ((k.toNat : Nat) : Int) = k by omega] at hk2
  have hmt := wd_mt (L := L) (T := T) (q := q) k0 k1
  unfold iz_Model_isWord
  rw [ip_B]
  refine ip_nextByte hW hT hp (fun τ1 w1 w2 w3 => ?_)
  have hT1 := hT.fs w2
  have out : ∀ r : Int, (r = 1 ∧ mt L T q (kwA k)) ∨ (r = 0 ∧ ¬ mt L T q (kwA k)) → Q r τ1 := by
    intro r h
    have := hQ τ1 w1 w3
    rcases h with ⟨r1, r2⟩ | ⟨r1, r2⟩
    · rw [if_pos (hmt.mp r2)] at this; rw [r1]; exact this
    · rw [if_neg (fun z => r2 (hmt.mpr z))] at this; rw [r1]; exact this
  rw [ip_B]
  refine ip_mono (Q := fun v τ2 => v = q ∧ τ2 = τ1) ?_ (fun v τ2 e => ?_)
  · by_cases c : q < L
    · have := (hW.2 q hq.1.1 c).1
      rw [if_pos c, ip_ifT (by omega), ip_B, ip_Gt, w1, ip_P]; exact ⟨rfl, rfl⟩
    · rw [if_neg c, ip_ifF (by omega), ip_B, ip_Gt, hT1.1, ip_P]; exact ⟨by omega, rfl⟩
  · obtain ⟨e1, e2⟩ := e
    subst e1 e2
    rw [ip_B]
    refine ip_mono (Q := fun j τ3 => τ3 = τ2 ∧ (0 ≤ j ∧ j ≤ (qs_ln (kwA k) : Int)) ∧ (∀ i, 0 ≤ i → i < j → v + i < L ∧ T (v + i) = iCh (kwA k) i) ∧ (j < (qs_ln (kwA k) : Int) → ¬ (v + j < L ∧ T (v + j) = iCh (kwA k) j))) ?_ (fun j τ3 g => ?_)
    · refine ip_W (fun j τ3 => τ3 = τ2 ∧ (0 ≤ j ∧ j ≤ (qs_ln (kwA k) : Int)) ∧ (∀ i, 0 ≤ i → i < j → v + i < L ∧ T (v + i) = iCh (kwA k) i)) (fun j _ => ((qs_ln (kwA k) : Int) - j).toNat) ?_ ⟨rfl, ⟨Int.le_refl _, by omega⟩, fun i i0 i1 => by omega⟩
      intro j τ3 ⟨et, b1, b2⟩
      subst et
      rw [ip_B, ip_ln]
      by_cases c : (qs_ln (kwA k) : Int) ≤ j
      · rw [ip_ifT c, ip_P]
        simp only [Sum.elim_inr]
        exact ⟨trivial, b1, b2, fun z => by omega⟩
      · rw [ip_ifF c, ip_A]
        refine ⟨⟨by omega, by omega⟩, ?_⟩
        rw [ip_B, ip_byteAt hW hT1 (by omega), ip_B, ip_ch]
        refine ⟨⟨by omega, by omega⟩, ?_⟩
        have hc := iCh_in (kwA k) j
        by_cases d : v + j < L ∧ T (v + j) = iCh (kwA k) j
        · rw [if_pos d.1, ip_ifF (fun z => z d.2), ip_A]
          refine ⟨⟨by omega, by omega⟩, ?_⟩
          rw [ip_B, ip_P, ip_P]
          simp only [Sum.elim_inl]
          refine ⟨⟨trivial, ⟨by omega, by omega⟩, fun i i0 i1 => ?_⟩, by omega⟩
          by_cases z : i = j
          · rw [z]; exact d
          · exact b2 i i0 (by omega)
        · have hb : ¬ (if v + j < L then T (v + j) else -1) = iCh (kwA k) j := by
            by_cases z : v + j < L
            · rw [if_pos z]; exact fun y => d ⟨z, y⟩
            · rw [if_neg z]; omega
          rw [ip_ifT hb, ip_P]
          simp only [Sum.elim_inr]
          exact ⟨trivial, b1, b2, fun _ => d⟩
    · obtain ⟨et, g1, g2, g3⟩ := g
      subst et
      rw [ip_B, ip_ln]
      by_cases c : j = (qs_ln (kwA k) : Int)
      · have last := g2 (j - 1) (by omega) (by omega)
        rw [ip_ifF (fun z => z c), ip_A]
        refine ⟨⟨by omega, by omega⟩, ?_⟩
        rw [ip_B, ip_byteAt hW hT1 (by omega), ip_B, ip_in]
        have hnext : ((if v + j < L then T (v + j) else -1) < 97 ∨ 122 < (if v + j < L then T (v + j) else -1)) ↔ ¬ (v + j < L ∧ sg (T (v + j)) = 0) := by
          by_cases z : v + j < L
          · rw [if_pos z, sg_0]; omega
          · rw [if_neg z]
            exact ⟨fun _ y => z y.1, fun _ => Or.inl (by omega)⟩
        by_cases d : v + j < L ∧ sg (T (v + j)) = 0
        · rw [if_neg (fun z => hnext.mp z d), ip_ifT (by omega), ip_P]
          exact out 0 (Or.inr ⟨rfl, fun h => h.2.2 (by rw [← c]; exact d)⟩)
        · rw [if_pos (hnext.mpr d), ip_ifF (by omega), ip_P]
          refine out 1 (Or.inl ⟨rfl, by omega, fun i i0 i1 => (g2 i i0 (by omega)).2, by rw [← c]; exact d⟩)
      · rw [ip_ifT c, ip_P]
        refine out 0 (Or.inr ⟨rfl, fun h => g3 (by omega) ⟨?_, h.2.1 j g1.1 (by omega)⟩⟩)
        have := h.1
        omega
/-- behind a WORD -/
theorem wd_ee {k : Int} (k0 : 0 ≤ k) (k1 : k < 17) (h : wd L T q = k) : q + (qs_ln (kwA k) : Int) = ee L T q ∧ sg (T q) = 0 ∧ q < L := by
  have m := (wd_mt k0 k1).mpr h
  have e := mt_len k0 k1 m
  have hk := kw_at k0 k1
  exact ⟨e.1.symm, e.2, by have := m.1; omega⟩
theorem Sp_ee (q0 : 0 ≤ q) (hq : q < L) (h : τ 367 46 = ee L T q) : Sp L T (nx L T q) τ := by
  have := ee_in (T := T) hq
  exact ⟨ee L T q, h, ⟨by omega, this.2⟩, rfl⟩
/-- a NUMBER -/
theorem cv_two : ∀ (n : Nat) (a b p : Int), (a < 10000 ∨ b < 10000 → a = b) → 0 ≤ a → 0 ≤ b → (∀ k, p ≤ k → k < p + n → 48 ≤ T k ∧ T k ≤ 57) → True := fun _ _ _ _ _ _ _ _ => trivial
theorem ip_Mnum {Q : Int → iMem → Prop} {lo hi : Int} (hW : TaW L T) (hT : TaM L T τ) (hp : Sp L T q τ) (hhi : hi ≤ 400)
    (h1 : numF L T q lo hi = -1 → ∀ τ', Sp L T (nx L T q) τ' → τ' 367 48 = va L T q → τ' 367 49 = q → fs4 τ τ' → Q 1 τ')
    (h2 : numF L T q lo hi ≠ -1 → ∀ τ', τ' 367 47 = numF L T q lo hi → fs4 τ τ' → Q 0 τ') : ip (iz_Model_readsNumber 367 lo hi) Q τ := by
  have hL := hW.1
  have hq := hp.at
  unfold iz_Model_readsNumber
  rw [ip_B]
  refine ip_nextByte hW hT hp (fun τ1 w1 w2 w3 => ?_)
  have hT1 := hT.fs w2
  rw [ip_B, ip_in]
  have hdig : ¬ ((if q < L then T q else -1) < 48 ∨ 57 < (if q < L then T q else -1)) ↔ sn L T q = 1 := by
    unfold sn
    by_cases z : q < L
    · rw [if_pos z, if_pos z, sg_1]; omega
    · rw [if_neg z, if_neg z]; omega
  by_cases c : sn L T q = 1
  · have hs := sn_lt (L := L) (T := T) (q := q) (by omega)
    have hs1 : sg (T q) = 1 := by omega
    have he := ee_in (T := T) hs.1
    have hd := ee_num hs.1 hs1
    have ere : ee L T q = go (fun x => sg x = 1) L T q := by
      unfold ee
      rw [hs1]
      exact if_pos (Or.inr rfl)
    have gi := go_in (P := fun x => sg x = 1) (L := L) (T := T) (p := q) (by omega)
    rw [← ere] at gi
    have enum : numF L T q lo hi = if va L T q < lo ∨ hi < va L T q then 8 * q + 2 else -1 := by unfold numF; rw [if_pos c]
    have eva : va L T q = nv L T q := by unfold va; rw [if_neg (by omega)]
    rw [if_neg (hdig.mpr c), ip_ifT (by omega), ip_B, ip_Gt, w1, ip_B, ip_Pt, ip_B, ip_Pt, ip_B]
    generalize hτ : iu (iu τ1 367 49 q) 367 48 0 = τ2
    have f2 : ∀ a k, ¬ (a = 367 ∧ (k = 48 ∨ k = 49)) → τ2 a k = τ1 a k := fun a k z => by rw [← hτ, iu_ne (by omega), iu_ne (by omega)]
    refine ip_mono (Q := fun _ τ3 => τ3 367 46 = ee L T q ∧ (0 ≤ τ3 367 48 ∧ (τ3 367 48 < 10000 ∨ va L T q < 10000 → τ3 367 48 = va L T q)) ∧ (∀ a k, ¬ (a = 367 ∧ (k = 46 ∨ k = 48)) → τ3 a k = τ2 a k)) ?_ (fun _ τ3 g => ?_)
    · refine ip_W (fun _ τ3 => ∃ p a m : Int, τ3 367 46 = p ∧ τ3 367 48 = m ∧ (q ≤ p ∧ p ≤ ee L T q) ∧ cvN T (ee L T q - p).toNat a p = nv L T q ∧ (0 ≤ a ∧ a ≤ 100000) ∧ (0 ≤ m ∧ m < 100000) ∧ (m < 10000 ∨ a < 10000 → m = a) ∧ (∀ a k, ¬ (a = 367 ∧ (k = 46 ∨ k = 48)) → τ3 a k = τ2 a k)) (fun _ τ3 => (L - τ3 367 46).toNat) ?_ ⟨q, 0, 0, by rw [f2 _ _ (by omega)]; exact w1, by rw [← hτ, iu_eq], ⟨Int.le_refl _, by omega⟩, rfl, ⟨by omega, by omega⟩, ⟨by omega, by omega⟩, fun _ => rfl, fun _ _ _ => rfl⟩
      intro s τ3 ⟨p, a, m, p1, p2, p3, p4, p5, p6, p7, p8⟩
      have hT3 : TaM L T τ3 := hT1.frame (by rw [p8 _ _ (by omega), f2 _ _ (by omega)]) (fun k => by rw [p8 _ _ (by omega), f2 _ _ (by omega)])
      rw [ip_B, ip_Gt, p1, ip_B, ip_byteAt hW hT3 (by omega), ip_B, ip_in]
      by_cases d : p < ee L T q
      · have hd2 := sg_1.mp (hd p p3.1 d)
        have hpL : p < L := by omega
        have ep : (ee L T q - p).toNat = (ee L T q - (p + 1)).toNat + 1 := by omega
        rw [ep] at p4
        have p4 : cvN T (ee L T q - (p + 1)).toNat (if a * 10 + T p - 48 < 100000 then a * 10 + T p - 48 else 100000) (p + 1) = nv L T q := p4
        rw [if_pos hpL, if_neg (show ¬ (T p < 48 ∨ 57 < T p) by omega), ip_ifF (by omega), ip_B, ip_Gt, p2, ip_B]
        refine ip_mono (Q := fun _ τ4 => (∃ m' : Int, τ4 367 48 = m' ∧ (0 ≤ m' ∧ m' < 100000) ∧ (m' < 10000 ∨ (if a * 10 + T p - 48 < 100000 then a * 10 + T p - 48 else 100000) < 10000 → m' = (if a * 10 + T p - 48 < 100000 then a * 10 + T p - 48 else 100000))) ∧ (∀ a k, ¬ (a = 367 ∧ k = 48) → τ4 a k = τ3 a k)) ?_ (fun _ τ4 g => ?_)
        · by_cases y : 10000 ≤ m
          · rw [ip_ifT y, ip_P]
            refine ⟨⟨m, p2, p6, fun z => ?_⟩, fun _ _ _ => rfl⟩
            have ha : 10000 ≤ a := by omega
            by_cases x : a * 10 + T p - 48 < 100000
            · rw [if_pos x] at z ⊢; omega
            · rw [if_neg x] at z ⊢; omega
          · rw [ip_ifF y, ip_B, ip_Gt, p2, ip_B, ip_Gt, p1, ip_B, ip_byteAt hW hT3 (by omega), if_pos hpL, ip_A]
            refine ⟨⟨by omega, by omega⟩, ?_⟩
            rw [ip_A]
            refine ⟨⟨by omega, by omega⟩, ?_⟩
            rw [ip_A]
            refine ⟨⟨by omega, by omega⟩, ?_⟩
            rw [ip_B, ip_Pt, ip_P]
            have em : m = a := p7 (Or.inl (by omega))
            refine ⟨⟨_, iu_eq, ⟨by omega, by omega⟩, fun _ => ?_⟩, fun a k z => iu_ne (by omega)⟩
            rw [if_pos (by omega)]
            omega
        · obtain ⟨⟨m', g1, g2, g3⟩, g4⟩ := g
          rw [ip_B, ip_Gt, g4 _ _ (by omega), p1, ip_A]
          refine ⟨⟨by omega, by omega⟩, ?_⟩
          rw [ip_B, ip_Pt, ip_P]
          simp only [Sum.elim_inl]
          refine ⟨⟨p + 1, _, m', iu_eq, (iu_ne (Or.inr (by omega))).trans g1, ⟨by omega, by omega⟩, p4, ⟨?_, ?_⟩, g2, g3, fun a k z => ?_⟩, ?_⟩
          · split <;> omega
          · split <;> omega
          · rw [iu_ne (by omega), g4 a k (by omega)]; exact p8 a k z
          · rw [iu_eq]; omega
      · have ep : p = ee L T q := by omega
        have hb : (if p < L then T p else -1) < 48 ∨ 57 < (if p < L then T p else -1) := by
          by_cases z : p < L
          · rw [if_pos z]
            have : ¬ sg (T p) = 1 := fun y => gi.2.1 (by rw [← ep]; exact ⟨z, y⟩)
            rw [sg_1] at this
            omega
          · rw [if_neg z]; omega
        rw [if_pos hb, ip_ifT rfl, ip_P]
        simp only [Sum.elim_inr]
        rw [ep, show (ee L T q - ee L T q).toNat = 0 by omega] at p4
        have p4 : a = nv L T q := p4
        refine ⟨by rw [p1]; exact ep, ⟨by omega, fun z => ?_⟩, p8⟩
        rw [p2] at z ⊢
        rw [eva, ← p4] at z ⊢
        exact p7 z
    · obtain ⟨g1, g2, g3⟩ := g
      have f4 : fs4 τ τ3 := fun a k z => by rw [g3 a k (by omega), f2 a k (by omega), w3 a k (by omega)]
      have e49 : τ3 367 49 = q := by rw [g3 _ _ (by omega), ← hτ, iu_ne (Or.inr (by omega)), iu_eq]
      rw [ip_B, ip_Gt, ip_B, ip_in]
      by_cases d : va L T q < lo ∨ hi < va L T q
      · have en : numF L T q lo hi = 8 * q + 2 := by rw [enum, if_pos d]
        have dm : τ3 367 48 < lo ∨ hi < τ3 367 48 := by
          by_cases z : τ3 367 48 < 10000 ∨ va L T q < 10000
          · rw [g2.2 z]; exact d
          · right; omega
        rw [if_pos dm, ip_ifF (by omega), ip_B, ip_Gt, e49, ip_B, ip_fails (by omega) (by omega) hq.1.1 (by omega), ip_ifT rfl, ip_P]
        exact h2 (by omega) _ (by rw [iu_eq, en]) (fun a k z => (iu_ne (by omega)).trans (f4 a k z))
      · have en : numF L T q lo hi = -1 := by rw [enum, if_neg d]
        have em : τ3 367 48 = va L T q := g2.2 (Or.inr (by omega))
        rw [if_neg (show ¬ (τ3 367 48 < lo ∨ hi < τ3 367 48) by omega), ip_ifT (by omega), ip_P]
        exact h1 en τ3 (Sp_ee hq.1.1 hs.1 g1) em e49 f4
  · have en : numF L T q lo hi = 8 * q + 1 := by unfold numF; rw [if_neg c]
    have hc : (if q < L then T q else -1) < 48 ∨ 57 < (if q < L then T q else -1) := Classical.byContradiction (fun z => c (hdig.mp z))
    rw [if_pos hc, ip_ifF (by omega), ip_B, ip_Gt, w1, ip_B, ip_fails (by omega) (by omega) hq.1.1 (by omega), ip_B, ip_Z]
    refine ⟨Or.inl rfl, ?_⟩
    rw [ip_P]
    exact h2 (by omega) _ (by rw [iu_eq, en]) (fun a k z => (iu_ne (by omega)).trans (w2 a k z))
end
