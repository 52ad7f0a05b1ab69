/-! ===== what the TEXT tells ===== -/
noncomputable def numF (L : Int) (T : Int → Int) (q lo hi : Int) : Int := @ite Int (sn L T q = 1) (Int.instDecidableEq _ _) (if va L T q < lo ∨ hi < va L T q then 8 * q + 2 else -1) (8 * q + 1)
def bup (B : Int → Int) (w v : Int) : Int → Int := fun u => if u = w then v else B u
def dup (B : Int → Int) (l : Int) : Prop := ∃ i, (0 ≤ i ∧ i < B 7) ∧ B (8 + i) = l
def mkB (B : Int → Int) (l n : Int) : Int → Int := bup (bup (bup B (8 + B 7) l) (12 + B 7) n) 7 (B 7 + 1)
/-- one word more of a BLOCK -/
noncomputable def wst (L : Int) (T : Int → Int) (kd q : Int) (B : Int → Int) (sp : Int) : Int ⊕ (Int × (Int → Int) × Int) :=
  if wd L T q = 13 then (if B 4 = 1 then Sum.inl (8 * q + 3) else Sum.inr (nx L T q, bup B 4 1, sp))
  else if wd L T q = 14 ∧ kd = 0 then (if B 5 = 1 then Sum.inl (8 * q + 3) else Sum.inr (nx L T q, bup B 5 1, sp))
  else if wd L T q = 15 then (if sp = 1 then Sum.inl (8 * q + 3) else if numF L T (nx L T q) 0 30 ≠ -1 then Sum.inl (numF L T (nx L T q) 0 30) else Sum.inr (nx L T (nx L T q), bup B 6 (va L T (nx L T q)), 1))
  else if wd L T q = 16 ∧ kd = 0 then
    (if 4 ≤ B 7 then Sum.inl (8 * q + 3) else if numF L T (nx L T q) 1 (B 1) ≠ -1 then Sum.inl (numF L T (nx L T q) 1 (B 1))
     else @ite _ (dup B (va L T (nx L T q))) (Classical.propDecidable _) (Sum.inl (8 * nx L T q + 2))
       (if numF L T (nx L T (nx L T q)) 1 20 ≠ -1 then Sum.inl (numF L T (nx L T (nx L T q)) 1 20) else Sum.inr (nx L T (nx L T (nx L T q)), mkB B (va L T (nx L T q)) (va L T (nx L T (nx L T q))), sp)))
  else Sum.inl (8 * q + 1)
noncomputable def wds (L : Int) (T : Int → Int) (kd : Int) : Nat → Int → (Int → Int) → Int → Int ⊕ (Int × (Int → Int) × Int)
  | 0, q, B, sp => Sum.inr (q, B, sp)
  | n + 1, q, B, sp => if sn L T q = 0 then Sum.elim Sum.inl (fun s => wds L T kd n s.1 s.2.1 s.2.2) (wst L T kd q B sp) else Sum.inr (q, B, sp)
def RB (R : aRun) (B : Int → Int) : aRun := (R.1 + 1, R.2.1, fun c u => if c = R.1 then B u else R.2.2 c u)
def hiK (kd : Int) : Int := if kd = 1 then 200 else if kd = 2 then 30 else if kd = 4 then 60 else 9
def newB (kd n h t : Int) : Int → Int := fun u => if u = 0 then kd else if u = 1 then n else if u = 2 then h else if u = 3 then t else 0
/-- a BLOCK's height and its words, behind its TOP and its number -/
noncomputable def blH (L : Int) (T : Int → Int) (R : aRun) (kd q n t : Int) : Int ⊕ (Int × aRun) :=
  if numF L T q 1 (hiK kd) ≠ -1 then Sum.inl (numF L T q 1 (hiK kd))
  else if kd = 4 then Sum.inr (nx L T q, RB R (newB kd n (va L T q) t))
  else Sum.elim Sum.inl (fun s => Sum.inr (s.1, RB R s.2.1)) (wds L T kd 400 (nx L T q) (newB kd n (va L T q) t) 0)
noncomputable def blN (L : Int) (T : Int → Int) (R : aRun) (kd q t : Int) : Int ⊕ (Int × aRun) :=
  if kd = 0 ∨ kd = 3 then (if numF L T q 1 30 ≠ -1 then Sum.inl (numF L T q 1 30) else if 90 < np R + va L T q then Sum.inl (8 * q + 3) else blH L T R kd (nx L T q) (va L T q) t)
  else blH L T R kd q (if kd = 4 then 0 else 1) t
noncomputable def blT (L : Int) (T : Int → Int) (R : aRun) (kd q : Int) : Int ⊕ (Int × aRun) :=
  if kd = 3 then (if numF L T q 0 9 ≠ -1 then Sum.inl (numF L T q 0 9) else blN L T R kd (nx L T q) (va L T q)) else blN L T R kd q 0
/-- a part: a SETTING or a BLOCK -/
noncomputable def prt (L : Int) (T : Int → Int) (q : Int) (R : aRun) (ts : Int) : Int ⊕ (Int × aRun × Int) :=
  if sn L T q ≠ 0 ∨ wd L T q = -1 ∨ 13 ≤ wd L T q then Sum.inl (8 * q + 1)
  else if wd L T q < 8 then
    (if bt ts (wd L T q) = true then Sum.inl (8 * q + 3)
     else if numF L T (nx L T q) (lwV (wd L T q)) (hiV (wd L T q)) ≠ -1 then Sum.inl (numF L T (nx L T q) (lwV (wd L T q)) (hiV (wd L T q)))
     else Sum.inr (nx L T (nx L T q), RS R (wd L T q) (va L T (nx L T q)), ibOr ts (ibShl 1 (ibAnd (wd L T q) 31))))
  else if 16 ≤ rn R ∨ ((wd L T q = 9 ∨ wd L T q = 10) ∧ 90 ≤ np R) then Sum.inl (8 * q + 3)
  else Sum.elim Sum.inl (fun s => Sum.inr (s.1, s.2, ts)) (blT L T R (wd L T q - 8) (nx L T q))
noncomputable def prs (L : Int) (T : Int → Int) : Nat → Int → aRun → Int → Int ⊕ aRun
  | 0, _, _, _ => Sum.inl 0
  | n + 1, q, R, ts => Sum.elim Sum.inl (fun s => if sn L T s.1 = 4 then Sum.inr s.2.1 else if sn L T s.1 = 2 then prs L T n (nx L T s.1) s.2.1 s.2.2 else Sum.inl (8 * s.1 + 1)) (prt L T q R ts)
def R00 : aRun := (0, fiV, fun _ _ => 0)
noncomputable def prA (L : Int) (T : Int → Int) : Int ⊕ aRun := if sn L T (sk L T 0) = 4 then Sum.inr R00 else prs L T 401 (sk L T 0) R00 0
/-! a BLOCK that is told in part -/
def okB (kd n : Int) (B : Int → Int) : Prop := (B 0 = kd ∧ B 1 = n) ∧ (0 ≤ B 2 ∧ B 2 ≤ 200) ∧ (0 ≤ B 3 ∧ B 3 ≤ 9) ∧ (B 4 = 0 ∨ B 4 = 1) ∧ (B 5 = 0 ∨ B 5 = 1) ∧ (0 ≤ B 6 ∧ B 6 ≤ 30) ∧ (0 ≤ B 7 ∧ B 7 ≤ 4) ∧ (0 ≤ B 12 ∧ B 12 ≤ 20) ∧ (0 ≤ B 13 ∧ B 13 ≤ 20) ∧ (0 ≤ B 14 ∧ B 14 ≤ 20) ∧ (0 ≤ B 15 ∧ B 15 ≤ 20) ∧ ∀ i, 0 ≤ i → i < B 7 → 1 ≤ B (12 + i)
section
variable {L : Int} {T : Int → Int} {q : Int} {R : aRun} {B : Int → Int} {kd n sp : Int}
theorem numF_ok {lo hi : Int} (h : numF L T q lo hi = -1) (q0 : 0 ≤ q) : sn L T q = 1 ∧ lo ≤ va L T q ∧ va L T q ≤ hi := by
  unfold numF at h
  by_cases c : sn L T q = 1
  · rw [if_pos c] at h
    by_cases d : va L T q < lo ∨ hi < va L T q
    · rw [if_pos d] at h; omega
    · exact ⟨c, by omega, by omega⟩
  · rw [if_neg c] at h; omega
theorem nx_num {lo hi : Int} (h : numF L T q lo hi = -1) (q0 : 0 ≤ q) : q < nx L T q ∧ nx L T q ≤ L := nx_in (sn_lt (by rw [(numF_ok h q0).1]; omega)).1
theorem bup_eq {w v : Int} : bup B w v w = v := if_pos rfl
theorem bup_ne {w v u : Int} (h : u ≠ w) : bup B w v u = B u := if_neg h
theorem RB_rc {c u : Int} : rc (RB R B) c u = if c = rn R then B u else rc R c u := rfl
theorem okB_new {h t : Int} (h0 : 0 ≤ h) (h1 : h ≤ 200) (t0 : 0 ≤ t) (t1 : t ≤ 9) : okB kd n (newB kd n h t) := by
  have z : ∀ u, 4 ≤ u → newB kd n h t u = 0 := fun u hu => by unfold newB; rw [if_neg (by omega), if_neg (by omega), if_neg (by omega), if_neg (by omega)]
  refine ⟨⟨rfl, rfl⟩, ⟨h0, h1⟩, ⟨t0, t1⟩, Or.inl (z 4 (by omega)), Or.inl (z 5 (by omega)), ?_, ?_, ?_, ?_, ?_, ?_, fun i i0 i1 => ?_⟩
  · rw [z 6 (by omega)]; omega
  · rw [z 7 (by omega)]; omega
  · rw [z 12 (by omega)]; omega
  · rw [z 13 (by omega)]; omega
  · rw [z 14 (by omega)]; omega
  · rw [z 15 (by omega)]; omega
  · rw [z 7 (by omega)] at i1; omega
theorem okB_upd {w v : Int} (h : okB kd n B) (hv : ((w = 4 ∨ w = 5) ∧ v = 1) ∨ (w = 6 ∧ 0 ≤ v ∧ v ≤ 30)) : okB kd n (bup B w v) := by
  obtain ⟨⟨a0, a1⟩, a2, a3, a4, a5, a6, a7, a12, a13, a14, a15, ai⟩ := h
  have o : ∀ u, u ≠ 4 → u ≠ 5 → u ≠ 6 → bup B w v u = B u := fun u u4 u5 u6 => bup_ne (by omega)
  unfold okB
  rw [o 0 (by omega) (by omega) (by omega), o 1 (by omega) (by omega) (by omega), o 2 (by omega) (by omega) (by omega), o 3 (by omega) (by omega) (by omega), o 7 (by omega) (by omega) (by omega), o 12 (by omega) (by omega) (by omega), o 13 (by omega) (by omega) (by omega), o 14 (by omega) (by omega) (by omega), o 15 (by omega) (by omega) (by omega)]
  refine ⟨⟨a0, a1⟩, a2, a3, ?_, ?_, ?_, a7, a12, a13, a14, a15, fun i i0 i1 => by rw [o _ (by omega) (by omega) (by omega)]; exact ai i i0 i1⟩
  · unfold bup; split <;> omega
  · unfold bup; split <;> omega
  · unfold bup; split <;> omega
theorem okB_mk {l m : Int} (h : okB kd n B) (h4 : B 7 < 4) (m0 : 1 ≤ m) (m1 : m ≤ 20) : okB kd n (mkB B l m) := by
  obtain ⟨⟨a0, a1⟩, a2, a3, a4, a5, a6, a7, a12, a13, a14, a15, ai⟩ := h
  have o : ∀ u, u < 7 → mkB B l m u = B u := fun u hu => by unfold mkB; rw [bup_ne (by omega), bup_ne (by omega), bup_ne (by omega)]
  have e7 : mkB B l m 7 = B 7 + 1 := bup_eq
  have eb : ∀ u, 12 ≤ u → mkB B l m u = if u = 12 + B 7 then m else B u := fun u hu => by
    unfold mkB
    rw [bup_ne (by omega)]
    by_cases z : u = 12 + B 7
    · rw [z, bup_eq, if_pos rfl]
    · rw [bup_ne z, bup_ne (by omega), if_neg z]
  unfold okB
  rw [o 0 (by omega), o 1 (by omega), o 2 (by omega), o 3 (by omega), o 4 (by omega), o 5 (by omega), o 6 (by omega), e7, eb 12 (by omega), eb 13 (by omega), eb 14 (by omega), eb 15 (by omega)]
  refine ⟨⟨a0, a1⟩, a2, a3, a4, a5, a6, by omega, ?_, ?_, ?_, ?_, fun i i0 i1 => ?_⟩
  · split <;> omega
  · split <;> omega
  · split <;> omega
  · split <;> omega
  · rw [eb _ (by omega)]
    by_cases z : i = B 7
    · rw [if_pos (by omega)]; exact m0
    · rw [if_neg (by omega)]; exact ai i i0 (by omega)
/-- one word more: onward, and in bounds -/
theorem wst_ok {s : Int × (Int → Int) × Int} (h : okB kd n B) (q0 : 0 ≤ q) (hq : sn L T q = 0) (hs : wst L T kd q B sp = Sum.inr s) : (q < s.1 ∧ s.1 ≤ L) ∧ okB kd n s.2.1 := by
  have hqL := (sn_lt (L := L) (T := T) (q := q) (by rw [hq]; omega)).1
  have h1 := nx_in (T := T) hqL
  unfold wst at hs
  by_cases c1 : wd L T q = 13
  · rw [if_pos c1] at hs
    by_cases d : B 4 = 1
    · rw [if_pos d] at hs; cases hs
    · rw [if_neg d] at hs; cases hs
      exact ⟨h1, okB_upd h (Or.inl ⟨Or.inl rfl, rfl⟩)⟩
  · rw [if_neg c1] at hs
    by_cases c2 : wd L T q = 14 ∧ kd = 0
    · rw [if_pos c2] at hs
      by_cases d : B 5 = 1
      · rw [if_pos d] at hs; cases hs
      · rw [if_neg d] at hs; cases hs
        exact ⟨h1, okB_upd h (Or.inl ⟨Or.inr rfl, rfl⟩)⟩
    · rw [if_neg c2] at hs
      by_cases c3 : wd L T q = 15
      · rw [if_pos c3] at hs
        by_cases d : sp = 1
        · rw [if_pos d] at hs; cases hs
        · rw [if_neg d] at hs
          by_cases e : numF L T (nx L T q) 0 30 = -1
          · rw [if_neg (fun z => z e)] at hs; cases hs
            have h2 := nx_num e (by omega)
            have h3 := numF_ok e (by omega)
            exact ⟨⟨by show q < nx L T (nx L T q); omega, h2.2⟩, okB_upd h (Or.inr ⟨rfl, h3.2⟩)⟩
          · rw [if_pos e] at hs; cases hs
      · rw [if_neg c3] at hs
        by_cases c4 : wd L T q = 16 ∧ kd = 0
        · rw [if_pos c4] at hs
          by_cases d : 4 ≤ B 7
          · rw [if_pos d] at hs; cases hs
          · rw [if_neg d] at hs
            by_cases e : numF L T (nx L T q) 1 (B 1) = -1
            · rw [if_neg (fun z => z e)] at hs
              have h2 := nx_num e (by omega)
              by_cases g : dup B (va L T (nx L T q))
              · rw [if_pos g] at hs; cases hs
              · rw [if_neg g] at hs
                by_cases f : numF L T (nx L T (nx L T q)) 1 20 = -1
                · rw [if_neg (fun z => z f)] at hs; cases hs
                  have h3 := nx_num f (by omega)
                  have h4 := numF_ok f (by omega)
                  exact ⟨⟨by show q < nx L T (nx L T (nx L T q)); omega, h3.2⟩, okB_mk h (by omega) h4.2.1 h4.2.2⟩
                · rw [if_pos f] at hs; cases hs
            · rw [if_pos e] at hs; cases hs
        · rw [if_neg c4] at hs; cases hs
/-- all words: onward, and in bounds -/
theorem wds_ok : ∀ (m : Nat) (q : Int) (B : Int → Int) (sp : Int), okB kd n B → 0 ≤ q → q ≤ L → L - q ≤ m → ∀ s, wds L T kd m q B sp = Sum.inr s → (q ≤ s.1 ∧ s.1 ≤ L) ∧ okB kd n s.2.1 ∧ sn L T s.1 ≠ 0 := by
  intro m
  induction m with
  | zero =>
    intro q B sp h q0 qL hm s hs
    cases hs
    refine ⟨⟨Int.le_refl _, qL⟩, h, ?_⟩
    rw [sn_4 (by omega)]; omega
  | succ m ih =>
    intro q B sp h q0 qL hm s hs
    have e : wds L T kd (m + 1) q B sp = if sn L T q = 0 then Sum.elim Sum.inl (fun s => wds L T kd m s.1 s.2.1 s.2.2) (wst L T kd q B sp) else Sum.inr (q, B, sp) := rfl
    rw [e] at hs
    by_cases c : sn L T q = 0
    · rw [if_pos c] at hs
      cases hw : wst L T kd q B sp with
      | inl f => rw [hw, Sum.elim_inl] at hs; cases hs
      | inr s' =>
        rw [hw, Sum.elim_inr] at hs
        have g := wst_ok h q0 c hw
        have r := ih s'.1 s'.2.1 s'.2.2 g.2 (by omega) g.1.2 (by omega) s hs
        exact ⟨⟨by omega, r.1.2⟩, r.2⟩
    · rw [if_neg c] at hs; cases hs
      exact ⟨⟨Int.le_refl _, qL⟩, h, c⟩
theorem RB_wf (hw : WF R) (h : okB kd n B) (hk : 0 ≤ kd ∧ kd ≤ 4) (h4 : kd = 4 → n = 0 ∧ B 4 = 0) (hn1 : kd ≠ 4 → 1 ≤ n) (hs : kd = 1 ∨ kd = 2 → n = 1) (n0 : 0 ≤ n) (n30 : n ≤ 30) (h16 : rn R < 16) (h90 : np R + n ≤ 90) : WF (RB R B) := by
  obtain ⟨a1, a2, a3, a4⟩ := hw
  obtain ⟨⟨b0, b1⟩, b2, b3, b4, b5, b6, b7, b12, b13, b14, b15, bi⟩ := h
  have en : rn (RB R B) = rn R + 1 := rfl
  refine ⟨by rw [en]; omega, a2, fun c c0 c1 => ?_, ?_⟩
  · rw [en] at c1
    by_cases d : c = rn R
    · have e : ∀ u, rc (RB R B) c u = B u := fun u => by rw [RB_rc, if_pos d]
      unfold WFb
      rw [e, e, e, e, e, e, e, e, e, e, e, e]
      refine ⟨by omega, by omega, fun z => ?_, fun z => ?_, fun z => ?_, b2, b3, b4, b5, b6, b7, b12, b13, b14, b15⟩
      · have := h4 (by omega); omega
      · have := hn1 (by omega); omega
      · have := hs (by omega); omega
    · exact WFb_of (a3 c c0 (by omega)) (fun u => by rw [RB_rc, if_neg d])
  · have e : np (RB R B) = np R + n := by
      show sI (fun c => rc (RB R B) c 1) (rn R + 1) = sI (fun c => rc R c 1) (rn R) + n
      rw [sI_s a1.1]
      congr 1
      · exact sI_congr (fun i i0 i1 => by show rc (RB R B) i 1 = rc R i 1; rw [RB_rc, if_neg (by omega)])
      · show rc (RB R B) (rn R) 1 = n
        rw [RB_rc, if_pos rfl]
        exact b1
    rw [e]; exact h90
theorem hiK_in : 9 ≤ hiK kd ∧ hiK kd ≤ 200 := by unfold hiK; omega
theorem blH_ok {t : Int} {s : Int × aRun} (hw : WF R) (hk : 0 ≤ kd ∧ kd ≤ 4) (h4 : kd = 4 → n = 0) (hn1 : kd ≠ 4 → 1 ≤ n) (hs1 : kd = 1 ∨ kd = 2 → n = 1) (n0 : 0 ≤ n) (n30 : n ≤ 30) (t0 : 0 ≤ t) (t1 : t ≤ 9) (h16 : rn R < 16) (h90 : np R + n ≤ 90) (q0 : 0 ≤ q) (hL : L ≤ 400) (hs : blH L T R kd q n t = Sum.inr s) : (q < s.1 ∧ s.1 ≤ L) ∧ WF s.2 ∧ sn L T s.1 = sn L T s.1 := by
  have hh := hiK_in (kd := kd)
  unfold blH at hs
  by_cases c : numF L T q 1 (hiK kd) = -1
  · rw [if_neg (fun z => z c)] at hs
    have h1 := nx_num c q0
    have h2 := numF_ok c q0
    have ok := okB_new (kd := kd) (n := n) (h := va L T q) (t := t) (by omega) (by omega) t0 t1
    by_cases d : kd = 4
    · rw [if_pos d] at hs; cases hs
      exact ⟨h1, RB_wf hw ok hk (fun z => ⟨h4 z, rfl⟩) hn1 hs1 n0 n30 h16 h90, rfl⟩
    · rw [if_neg d] at hs
      cases hv : wds L T kd 400 (nx L T q) (newB kd n (va L T q) t) 0 with
      | inl f => rw [hv, Sum.elim_inl] at hs; cases hs
      | inr s' =>
        rw [hv, Sum.elim_inr] at hs; cases hs
        have g := wds_ok (kd := kd) (n := n) 400 _ _ _ ok (by omega) h1.2 (by omega) s' hv
        exact ⟨⟨by show q < s'.1; omega, g.1.2⟩, RB_wf hw g.2.1 hk (fun z => absurd z d) hn1 hs1 n0 n30 h16 h90, rfl⟩
  · rw [if_pos c] at hs; cases hs
theorem blT_ok {s : Int × aRun} (hw : WF R) (hk : 0 ≤ kd ∧ kd ≤ 4) (h16 : rn R < 16) (h90 : kd = 1 ∨ kd = 2 → np R < 90) (q0 : 0 ≤ q) (hL : L ≤ 400) (hs : blT L T R kd q = Sum.inr s) : (q < s.1 ∧ s.1 ≤ L) ∧ WF s.2 := by
  have hnp := hw.2.2.2
  have N : ∀ (q t : Int), 0 ≤ q → 0 ≤ t → t ≤ 9 → blN L T R kd q t = Sum.inr s → (q < s.1 ∧ s.1 ≤ L) ∧ WF s.2 := by
    intro q t q0 t0 t1 hs
    unfold blN at hs
    by_cases c : kd = 0 ∨ kd = 3
    · rw [if_pos c] at hs
      by_cases d : numF L T q 1 30 = -1
      · rw [if_neg (fun z => z d)] at hs
        have h1 := nx_num d q0
        have h2 := numF_ok d q0
        by_cases e : 90 < np R + va L T q
        · rw [if_pos e] at hs; cases hs
        · rw [if_neg e] at hs
          have g := blH_ok hw hk (fun z => by omega) (fun z => h2.2.1) (fun z => by omega) (by omega) (by omega) t0 t1 h16 (by omega) (by omega) hL hs
          exact ⟨⟨by omega, g.1.2⟩, g.2.1⟩
      · rw [if_pos d] at hs; cases hs
    · rw [if_neg c] at hs
      have hn : (if kd = 4 then (0 : Int) else 1) = 0 ∧ kd = 4 ∨ (if kd = 4 then (0 : Int) else 1) = 1 ∧ kd ≠ 4 := by
        by_cases z : kd = 4
        · rw [if_pos z]; exact Or.inl ⟨rfl, z⟩
        · rw [if_neg z]; exact Or.inr ⟨rfl, z⟩
      have g := blH_ok hw hk (fun z => by omega) (fun z => by omega) (fun z => by omega) (by omega) (by omega) t0 t1 h16 (by omega) q0 hL hs
      exact ⟨g.1, g.2.1⟩
  unfold blT at hs
  by_cases c : kd = 3
  · rw [if_pos c] at hs
    by_cases d : numF L T q 0 9 = -1
    · rw [if_neg (fun z => z d)] at hs
      have h1 := nx_num d q0
      have h2 := numF_ok d q0
      have g := N _ _ (by omega) h2.2.1 h2.2.2 hs
      exact ⟨⟨by omega, g.1.2⟩, g.2⟩
    · rw [if_pos d] at hs; cases hs
  · rw [if_neg c] at hs
    exact N _ _ q0 (by omega) (by omega) hs
theorem prt_ok {ts : Int} {s : Int × aRun × Int} (hw : WF R) (ht0 : 0 ≤ ts) (ht1 : ts < 256) (q0 : 0 ≤ q) (hL : L ≤ 400) (hs : prt L T q R ts = Sum.inr s) : (q < s.1 ∧ s.1 ≤ L) ∧ WF s.2.1 ∧ 0 ≤ s.2.2 ∧ s.2.2 < 256 := by
  have hwd := wd_in (L := L) (T := T) (q := q)
  unfold prt at hs
  by_cases c : sn L T q ≠ 0 ∨ wd L T q = -1 ∨ 13 ≤ wd L T q
  · rw [if_pos c] at hs; cases hs
  · rw [if_neg c] at hs
    have hq0 : sn L T q = 0 := by omega
    have hqL := (sn_lt (L := L) (T := T) (q := q) (by omega)).1
    have h1 := nx_in (T := T) hqL
    by_cases d : wd L T q < 8
    · rw [if_pos d] at hs
      by_cases e : bt ts (wd L T q) = true
      · rw [if_pos e] at hs; cases hs
      · rw [if_neg e] at hs
        by_cases g : numF L T (nx L T q) (lwV (wd L T q)) (hiV (wd L T q)) = -1
        · rw [if_neg (fun z => z g)] at hs; cases hs
          have h2 := nx_num g (by omega)
          have h3 := numF_ok g (by omega)
          have st := (ib_set (x := ts) (i := wd L T q) (n := 8) (by omega) ht0 (by exact ht1) (by omega) (by omega)).1
          refine ⟨⟨?_, h2.2⟩, RS_wf hw ⟨⟨by omega, by omega⟩, h3.2⟩, st.1, st.2⟩
          show q < nx L T (nx L T q)
          omega
        · rw [if_pos g] at hs; cases hs
    · rw [if_neg d] at hs
      by_cases e : 16 ≤ rn R ∨ ((wd L T q = 9 ∨ wd L T q = 10) ∧ 90 ≤ np R)
      · rw [if_pos e] at hs; cases hs
      · rw [if_neg e] at hs
        cases hb : blT L T R (wd L T q - 8) (nx L T q) with
        | inl f => rw [hb, Sum.elim_inl] at hs; cases hs
        | inr s' =>
          rw [hb, Sum.elim_inr] at hs; cases hs
          have g := blT_ok hw ⟨by omega, by omega⟩ (by omega) (fun z => by omega) (by omega) hL hb
          refine ⟨⟨?_, g.1.2⟩, g.2, ht0, ht1⟩
          show q < s'.1
          omega
theorem R00_wf : WF R00 := by
  refine ⟨⟨Int.le_refl _, by show (0 : Int) ≤ 16; omega⟩, ?_, fun b b0 b1 => ?_, by show (0 : Int) ≤ 90; omega⟩
  · unfold WFs
    have e : ∀ k, rs R00 k = fiV k := fun _ => rfl
    rw [e, e, e, e, e, e, e, e]
    unfold fiV
    omega
  · have : rn R00 = 0 := rfl
    omega
theorem prs_ok (hL : L ≤ 400) : ∀ (m : Nat) (q : Int) (R : aRun) (ts : Int), WF R → 0 ≤ ts → ts < 256 → 0 ≤ q → ∀ R', prs L T m q R ts = Sum.inr R' → WF R' := by
  intro m
  induction m with
  | zero => intro q R ts _ _ _ _ R' h; cases h
  | succ m ih =>
    intro q R ts hw t0 t1 q0 R' h
    have e : prs L T (m + 1) q R ts = Sum.elim Sum.inl (fun s => if sn L T s.1 = 4 then Sum.inr s.2.1 else if sn L T s.1 = 2 then prs L T m (nx L T s.1) s.2.1 s.2.2 else Sum.inl (8 * s.1 + 1)) (prt L T q R ts) := rfl
    rw [e] at h
    cases hp : prt L T q R ts with
    | inl f => rw [hp, Sum.elim_inl] at h; cases h
    | inr s =>
      rw [hp, Sum.elim_inr] at h
      have g := prt_ok hw t0 t1 q0 hL hp
      by_cases c : sn L T s.1 = 4
      · rw [if_pos c] at h; cases h; exact g.2.1
      · rw [if_neg c] at h
        by_cases d : sn L T s.1 = 2
        · rw [if_pos d] at h
          have := nx_in (T := T) (sn_lt (L := L) (T := T) (q := s.1) (by omega)).1
          exact ih _ _ _ g.2.1 g.2.2.1 g.2.2.2 (by omega) R' h
        · rw [if_neg d] at h; cases h
theorem prA_ok (hL : L ≤ 400) (hL0 : 0 ≤ L) {R' : aRun} (h : prA L T = Sum.inr R') : WF R' := by
  unfold prA at h
  by_cases c : sn L T (sk L T 0) = 4
  · rw [if_pos c] at h; cases h; exact R00_wf
  · rw [if_neg c] at h
    exact prs_ok hL 401 _ _ _ R00_wf (Int.le_refl _) (by omega) (sk_in hL0).1.1 R' h
end
