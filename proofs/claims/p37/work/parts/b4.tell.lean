/-! ===== the object reads: single steps ===== -/
def fr6 (τ0 τ : iMem) : Prop := ∀ a k, ¬ ((a = 6 ∧ 5 ≤ k) ∨ (7 ≤ a ∧ a ≤ 9)) → τ a k = τ0 a k
def Lv (L : Int) (T : Int → Int) (N : Nat) (τ0 : iMem) (q told : Int) (R : aRun) (τ : iMem) : Prop := τ 6 6 = -1 ∧ (∃ i : Nat, τ 6 5 = i ∧ i ≤ N ∧ tq L T i = q) ∧ τ 6 7 = told ∧ RunC τ 7 R ∧ fr6 τ0 τ
def Dd (N : Nat) (τ0 : iMem) (f : Int) (τ : iMem) : Prop := τ 6 6 = f ∧ (0 ≤ f ∧ f ≤ 3300) ∧ (∃ i : Nat, τ 6 5 = i ∧ i ≤ N) ∧ fr6 τ0 τ
section
variable {L : Int} {T : Int → Int} {N : Nat} {τ0 τ : iMem} {q told f : Int} {R : aRun} {B : Int → Int}
theorem tk_N (hW : TaW L T) (hK : TK L T N τ0) : (N : Int) ≤ L ∧ L ≤ 400 := by
  have := (tq_in (L := L) (T := T) hW.1.1 N hK.2.2.1).1
  have e := hK.2.1
  exact ⟨by omega, hW.1.2⟩
theorem Lv.at (hW : TaW L T) (hK : TK L T N τ0) (h : Lv L T N τ0 q told R τ) : 0 ≤ q ∧ q ≤ L := by
  obtain ⟨-, ⟨i, -, i2, i3⟩, -⟩ := h
  have := tq_in (L := L) (T := T) hW.1.1 i (fun j hj => hK.2.2.1 j (by omega))
  omega
theorem ip_sign {Q : Int → iMem → Prop} (hW : TaW L T) (hK : TK L T N τ0) (h : Lv L T N τ0 q told R τ) : ip (iz_Teller_sign 6) Q τ ↔ Q (sn L T q) τ := by
  have hN := tk_N hW hK
  obtain ⟨h1, ⟨i, i1, i2, i3⟩, h2, h3, h4⟩ := h
  unfold iz_Teller_sign
  rw [ip_B, ip_Gt, i1, ip_ifF (by omega), ip_B, ip_Gt, i1, ip_ifF (by omega), ip_B, ip_Gt, i1, u_2, ip_B, ip_Ld, ul_10]
  refine (and_iff_right ⟨by omega, by omega⟩).trans ?_
  rw [ip_P, h4 10 i (by omega), (hK.2.2.2.1 i i2).1, i3]
theorem ip_place {Q : Int → iMem → Prop} (hW : TaW L T) (hK : TK L T N τ0) (h : Lv L T N τ0 q told R τ) : ip (iz_Teller_place 6) Q τ ↔ Q q τ := by
  have hN := tk_N hW hK
  obtain ⟨h1, ⟨i, i1, i2, i3⟩, h2, h3, h4⟩ := h
  unfold iz_Teller_place
  rw [ip_B, ip_Gt, i1, ip_ifF (by omega), ip_B, ip_Gt, i1, ip_ifF (by omega), ip_B, ip_Gt, i1, u_3, ip_B, ip_Ld, ul_11]
  refine (and_iff_right ⟨by omega, by omega⟩).trans ?_
  rw [ip_P, h4 11 i (by omega), (hK.2.2.2.1 i i2).2, i3]
theorem ip_placeD {Q : Int → iMem → Prop} (hW : TaW L T) (hK : TK L T N τ0) (h : Dd N τ0 f τ) (hQ : ∀ v, Q v τ) : ip (iz_Teller_place 6) Q τ := by
  have hN := tk_N hW hK
  obtain ⟨h1, h2, ⟨i, i1, i2⟩, h4⟩ := h
  unfold iz_Teller_place
  rw [ip_B, ip_Gt, i1, ip_ifF (by omega), ip_B, ip_Gt, i1, ip_ifF (by omega), ip_B, ip_Gt, i1, u_3, ip_B, ip_Ld, ul_11]
  refine ⟨⟨by omega, by omega⟩, ?_⟩
  rw [ip_P]
  exact hQ _
theorem ip_wrong {Q : Unit → iMem → Prop} {p w : Int} (h : Lv L T N τ0 q told R τ) (p0 : 0 ≤ p) (p1 : p ≤ 400) (w0 : 1 ≤ w) (w1 : w ≤ 3) (hQ : ∀ τ', Dd N τ0 (8 * p + w) τ' → Q () τ') : ip (iz_Teller_wrong 6 p w) Q τ := by
  obtain ⟨h1, ⟨i, i1, i2, i3⟩, h2, h3, h4⟩ := h
  unfold iz_Teller_wrong
  rw [ip_B, ip_Gt, h1, ip_ifF (by omega), ip_A]
  refine ⟨⟨by omega, by omega⟩, ?_⟩
  rw [ip_A]
  refine ⟨⟨by omega, by omega⟩, ?_⟩
  rw [ip_B, ip_Pt, ip_P]
  exact hQ _ ⟨iu_eq, ⟨by omega, by omega⟩, ⟨i, (iu_ne (Or.inr (by omega))).trans i1, i2⟩, fun a k z => (iu_ne (by omega)).trans (h4 a k z)⟩
theorem ip_wrongD {Q : Unit → iMem → Prop} {p w : Int} (h : Dd N τ0 f τ) (hQ : Q () τ) : ip (iz_Teller_wrong 6 p w) Q τ := by
  unfold iz_Teller_wrong
  rw [ip_B, ip_Gt, h.1, ip_ifT (by have := h.2.1; omega), ip_P]
  exact hQ
theorem Lv.next (hK : TK L T N τ0) (h : Lv L T N τ0 q told R τ) (hq : q < L) : ∃ i : Nat, τ 6 5 = i ∧ tq L T i = q ∧ i < N ∧ Lv L T N τ0 (nx L T q) told R (iu τ 6 5 ((i : Int) + 1)) := by
  obtain ⟨h1, ⟨i, i1, i2, i3⟩, h2, h3, h4⟩ := h
  have hi : i < N := by
    by_cases z : i = N
    · have := hK.2.1
      rw [← z, i3] at this
      omega
    · omega
  refine ⟨i, i1, i3, hi, (iu_ne (Or.inr (by omega))).trans h1, ⟨i + 1, by rw [iu_eq]; omega, by omega, ?_⟩, (iu_ne (Or.inr (by omega))).trans h2, h3.frame (fun a k _ _ => iu_ne (Or.inl (by omega))), fun a k z => (iu_ne (by omega)).trans (h4 a k z)⟩
  show nx L T (tq L T i) = nx L T q
  rw [i3]
theorem ip_num {Q : Int → iMem → Prop} {lo hi : Int} (hW : TaW L T) (hK : TK L T N τ0) (h : Lv L T N τ0 q told R τ)
    (h1 : numF L T q lo hi = -1 → ∀ τ', Lv L T N τ0 (nx L T q) told R τ' → Q (va L T q) τ') (h2 : numF L T q lo hi ≠ -1 → ∀ τ', Dd N τ0 (numF L T q lo hi) τ' → Q 0 τ') : ip (iz_Teller_readNumber 6 lo hi) Q τ := by
  have hN := tk_N hW hK
  have hq := h.at hW hK
  unfold iz_Teller_readNumber
  rw [ip_B, ip_Gt, h.1, ip_ifT rfl, ip_B, ip_sign hW hK h]
  by_cases c : sn L T q = 1
  · have hqL := (sn_lt (L := L) (T := T) (q := q) (by omega)).1
    obtain ⟨i, i1, i2, i3, i4⟩ := h.next hK hqL
    have e12 : τ 12 (i : Int) = va L T q := by rw [h.2.2.2.2 12 i (by omega), hK.2.2.2.2 i i3, i2]
    rw [ip_ifT c, ip_B, ip_Gt, i1, u_4, ip_B, ip_at (by omega) (by rw [ul_12]; omega), e12, ip_B]
    have bad : (va L T q < lo ∨ hi < va L T q) → ip (iB (iz_Teller_place 6) fun x7 => iB (iz_Teller_wrong 6 x7 2) fun _ => iP 0) Q τ := by
      intro z
      have en : numF L T q lo hi = 8 * q + 2 := by unfold numF; rw [if_pos c, if_pos z]
      rw [ip_B, ip_place hW hK h, ip_B]
      refine ip_wrong h hq.1 (by omega) (by omega) (by omega) (fun τ' hd => ?_)
      rw [ip_P]
      exact h2 (by omega) τ' (by rw [en]; exact hd)
    by_cases d1 : va L T q < lo
    · rw [ip_ifT d1, ip_P]
      simp only [Sum.elim_inl]
      exact bad (Or.inl d1)
    · by_cases d2 : va L T q ≤ hi
      · have en : numF L T q lo hi = -1 := by unfold numF; rw [if_pos c, if_neg (by omega)]
        rw [ip_ifF d1, ip_ifT d2, ip_B, ip_Gt, i1, ip_A]
        refine ⟨⟨by omega, by omega⟩, ?_⟩
        rw [ip_B, ip_Pt, ip_P]
        simp only [Sum.elim_inr, ip_P]
        exact h1 en _ i4
      · rw [ip_ifF d1, ip_ifF d2, ip_P]
        simp only [Sum.elim_inl]
        exact bad (Or.inr (by omega))
  · have en : numF L T q lo hi = 8 * q + 1 := by unfold numF; rw [if_neg c]
    rw [ip_ifF c, ip_B, ip_place hW hK h, ip_B]
    refine ip_wrong h hq.1 (by omega) (by omega) (by omega) (fun τ' hd => ?_)
    rw [ip_P]
    exact h2 (by omega) τ' (by rw [en]; exact hd)
theorem ip_numD {Q : Int → iMem → Prop} {lo hi : Int} (h : Dd N τ0 f τ) (hQ : Q 0 τ) : ip (iz_Teller_readNumber 6 lo hi) Q τ := by
  unfold iz_Teller_readNumber
  rw [ip_B, ip_Gt, h.1, ip_ifF (by have := h.2.1; omega), ip_P]
  exact hQ
theorem ip_once {Q : Unit → iMem → Prop} {w p : Int} (h : Lv L T N τ0 q told R τ) (t0 : 0 ≤ told) (t1 : told < 131072) (w0 : 0 ≤ w) (w1 : w < 17) (p0 : 0 ≤ p) (p1 : p ≤ 400)
    (h1 : bt told w = false → ∀ τ', Lv L T N τ0 q (ibOr told (ibShl 1 (ibAnd w 31))) R τ' → Q () τ') (h2 : bt told w = true → ∀ τ', Dd N τ0 (8 * p + 3) τ' → Q () τ') : ip (iz_Teller_tellOnce 6 w p) Q τ := by
  unfold iz_Teller_tellOnce
  rw [ip_B, ip_Gt, h.2.2.1, ip_B, ib_test t0 (by omega) w0 (by omega)]
  by_cases c : bt told w = true
  · rw [if_pos c, ip_ifF (by omega), ip_B]
    refine ip_wrong h p0 p1 (by omega) (by omega) (fun τ1 hd => ?_)
    rw [ip_P, ip_B, ip_Gt, ip_B, ip_Pt, ip_P]
    obtain ⟨d1, d2, ⟨i, i1, i2⟩, d3⟩ := hd
    exact h2 c _ ⟨(iu_ne (Or.inr (by omega))).trans d1, d2, ⟨i, (iu_ne (Or.inr (by omega))).trans i1, i2⟩, fun a k z => (iu_ne (by omega)).trans (d3 a k z)⟩
  · rw [if_neg c, ip_ifT rfl, ip_P, ip_B, ip_Gt, h.2.2.1, ip_B, ip_Pt, ip_P]
    obtain ⟨d1, ⟨i, i1, i2, i3⟩, d2, d3, d4⟩ := h
    refine h1 (by simpa using c) _ ⟨(iu_ne (Or.inr (by omega))).trans d1, ⟨i, (iu_ne (Or.inr (by omega))).trans i1, i2, i3⟩, iu_eq, d3.frame (fun a k _ _ => iu_ne (Or.inl (by omega))), fun a k z => (iu_ne (by omega)).trans (d4 a k z)⟩
theorem ip_word {Q : Int → iMem → Prop} (hW : TaW L T) (hK : TK L T N τ0) (h : Lv L T N τ0 q told R τ)
    (h1 : sn L T q = 0 → ∀ τ', Lv L T N τ0 (nx L T q) told R τ' → Q (wd L T q) τ') (h2 : sn L T q ≠ 0 → Q (-1) τ) : ip (iz_Teller_readWord 6) Q τ := by
  have hN := tk_N hW hK
  unfold iz_Teller_readWord
  rw [ip_B, ip_sign hW hK h]
  by_cases c : sn L T q = 0
  · have hqL := sn_lt (L := L) (T := T) (q := q) (by omega)
    obtain ⟨i, i1, i2, i3, i4⟩ := h.next hK hqL.1
    have e12 : τ 12 (i : Int) = wd L T q := by
      rw [h.2.2.2.2 12 i (by omega), hK.2.2.2.2 i i3, i2]
      unfold va
      rw [if_pos (by omega)]
    rw [ip_ifF (by omega), ip_B, ip_Gt, i1, ip_ifT (by omega), ip_B, ip_Gt, i1, u_4, ip_B, ip_at (by omega) (by rw [ul_12]; omega), e12, ip_B, ip_Gt, i1, ip_A]
    refine ⟨⟨by omega, by omega⟩, ?_⟩
    rw [ip_B, ip_Pt, ip_P]
    exact h1 c _ i4
  · rw [ip_ifT c, ip_P]
    exact h2 c
theorem ip_setC {Q : Unit → iMem → Prop} {b w v : Int} (h : Lv L T N τ0 q told R τ) (b0 : 0 ≤ b) (b1 : b < 16) (w0 : 0 ≤ w) (w1 : w < 16) (hQ : ∀ τ', Lv L T N τ0 q told (RP R b w v) τ' → Q () τ') : ip (iz_Run_putCell 7 b w v) Q τ := by
  rw [ip_putCell isRun_7 (by omega) b0 b1 w0 w1]
  obtain ⟨d1, ⟨i, i1, i2, i3⟩, d2, d3, d4⟩ := h
  exact hQ _ ⟨(iu_ne (Or.inl (by omega))).trans d1, ⟨i, (iu_ne (Or.inl (by omega))).trans i1, i2, i3⟩, (iu_ne (Or.inl (by omega))).trans d2, RP_c d3 w0 w1, fun a k z => (iu_ne (by omega)).trans (d4 a k z)⟩
theorem ip_setD {Q : Unit → iMem → Prop} {b w v : Int} (h : Dd N τ0 f τ) (b0 : 0 ≤ b) (b1 : b < 16) (w0 : 0 ≤ w) (w1 : w < 16) (hQ : ∀ τ', Dd N τ0 f τ' → Q () τ') : ip (iz_Run_putCell 7 b w v) Q τ := by
  rw [ip_putCell isRun_7 (by omega) b0 b1 w0 w1]
  obtain ⟨d1, d2, ⟨i, i1, i2⟩, d3⟩ := h
  exact hQ _ ⟨(iu_ne (Or.inl (by omega))).trans d1, d2, ⟨i, (iu_ne (Or.inl (by omega))).trans i1, i2⟩, fun a k z => (iu_ne (by omega)).trans (d3 a k z)⟩
theorem RP_RB {w v : Int} : RP (RB R B) (rn R) w v = RB R (bup B w v) := by
  unfold RP RB bup
  congr 2
  funext c u
  show (if c = rn R ∧ u = w then v else (if c = rn R then B u else R.2.2 c u)) = (if c = rn R then (if u = w then v else B u) else R.2.2 c u)
  by_cases z : c = rn R
  · by_cases y : u = w
    · rw [if_pos ⟨z, y⟩, if_pos z, if_pos y]
    · rw [if_neg (fun h => y h.2), if_pos z, if_pos z, if_neg y]
  · rw [if_neg (fun h => z h.1), if_neg z, if_neg z]
/-- a cell of the BLOCK in work -/
theorem ip_setB {Q : Unit → iMem → Prop} {w v : Int} (h : Lv L T N τ0 q told (RB R B) τ) (n0 : 0 ≤ rn R) (n1 : rn R < 16) (w0 : 0 ≤ w) (w1 : w < 16) (hQ : ∀ τ', Lv L T N τ0 q told (RB R (bup B w v)) τ' → Q () τ') : ip (iz_Run_putCell 7 (rn R) w v) Q τ :=
  ip_setC h n0 n1 w0 w1 (fun τ' g => hQ τ' (by rw [RP_RB] at g; exact g))
theorem ip_cellB {Q : Int → iMem → Prop} {w : Int} (h : Lv L T N τ0 q told (RB R B) τ) (n0 : 0 ≤ rn R) (n1 : rn R < 16) (w0 : 0 ≤ w) (w1 : w < 16) : ip (iz_Run_cell 7 (rn R) w) Q τ ↔ Q (B w) τ := by
  have en : rn (RB R B) = rn R + 1 := rfl
  rw [ip_cellC isRun_7 h.2.2.2.1 (by omega) n0 (by omega) w0 w1, RB_rc, if_pos rfl]
end
