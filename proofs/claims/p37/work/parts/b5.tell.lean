/-! ===== the object reads: MARKS and words ===== -/
noncomputable def mkW (L : Int) (T : Int → Int) (q : Int) (B : Int → Int) (sp : Int) : Int ⊕ (Int × (Int → Int) × Int) :=
  if 4 ≤ B 7 then Sum.inl (8 * q + 3) else if numF L T (nx L T q) 1 (B 1) ≠ -1 then Sum.inl (numF L T (nx L T q) 1 (B 1))
  else @ite _ (dup B (va L T (nx L T q))) (Classical.propDecidable _) (Sum.inl (8 * nx L T q + 2))
    (if numF L T (nx L T (nx L T q)) 1 20 ≠ -1 then Sum.inl (numF L T (nx L T (nx L T q)) 1 20) else Sum.inr (nx L T (nx L T (nx L T q)), mkB B (va L T (nx L T q)) (va L T (nx L T (nx L T q))), sp))
theorem wst_16 {L : Int} {T : Int → Int} {kd q sp : Int} {B : Int → Int} (h : wd L T q = 16) (hk : kd = 0) : wst L T kd q B sp = mkW L T q B sp := by
  unfold wst
  rw [if_neg (by omega), if_neg (by omega), if_neg (by omega), if_pos ⟨h, hk⟩]
  rfl
/-- the words that are told already -/
def tdB (told ts : Int) (B : Int → Int) (sp : Int) : Prop := (0 ≤ told ∧ told < 131072) ∧ (∀ j, 0 ≤ j → j < 8 → bt told j = bt ts j) ∧ (bt told 13 = true ↔ B 4 = 1) ∧ (bt told 14 = true ↔ B 5 = 1) ∧ (bt told 15 = true ↔ sp = 1)
section
variable {L : Int} {T : Int → Int} {N : Nat} {τ0 τ : iMem} {q told f kd n sp ts : Int} {R : aRun} {B : Int → Int}
theorem tdB_set {w : Int} {B' : Int → Int} {sp' : Int} (h : tdB told ts B sp) (w0 : 13 ≤ w) (w1 : w < 16) (h4 : B' 4 = 1 ↔ (B 4 = 1 ∨ w = 13)) (h5 : B' 5 = 1 ↔ (B 5 = 1 ∨ w = 14)) (h6 : sp' = 1 ↔ (sp = 1 ∨ w = 15)) : tdB (ibOr told (ibShl 1 (ibAnd w 31))) ts B' sp' := by
  obtain ⟨⟨t0, t1⟩, g1, g2, g3, g4⟩ := h
  have st := ib_set (x := told) (i := w) (n := 17) (by omega) t0 (by exact t1) (by omega) (by omega)
  refine ⟨⟨st.1.1, st.1.2⟩, fun j j0 j1 => ?_, ?_, ?_, ?_⟩
  · rw [st.2 j j0, decide_eq_false (by omega), Bool.or_false]; exact g1 j j0 j1
  · rw [st.2 13 (by omega), Bool.or_eq_true, decide_eq_true_iff, g2, h4]
    constructor
    · intro z; rcases z with z | z
      · exact Or.inl z
      · exact Or.inr z.symm
    · intro z; rcases z with z | z
      · exact Or.inl z
      · exact Or.inr z.symm
  · rw [st.2 14 (by omega), Bool.or_eq_true, decide_eq_true_iff, g3, h5]
    constructor
    · intro z; rcases z with z | z
      · exact Or.inl z
      · exact Or.inr z.symm
    · intro z; rcases z with z | z
      · exact Or.inl z
      · exact Or.inr z.symm
  · rw [st.2 15 (by omega), Bool.or_eq_true, decide_eq_true_iff, g4, h6]
    constructor
    · intro z; rcases z with z | z
      · exact Or.inl z
      · exact Or.inr z.symm
    · intro z; rcases z with z | z
      · exact Or.inl z
      · exact Or.inr z.symm
theorem ip_noteB {l : Int} {Q : Int → iMem → Prop} (h : Lv L T N τ0 q told (RB R B) τ) (ok : okB kd n B) (n0 : 0 ≤ rn R) (n1 : rn R < 16) (hQ : ∀ v, (0 < v ↔ dup B l) → Q v τ) : ip (iz_Run_noteAt 7 (rn R) l) Q τ := by
  have en : rn (RB R B) = rn R + 1 := rfl
  refine ip_noteAt isRun_7 h.2.2.2.1 (by omega) n0 (by omega) (hQ _ ?_)
  have e : ∀ u, rc (RB R B) (rn R) u = B u := fun u => by rw [RB_rc, if_pos rfl]
  have ki := ok.2.2.2.2.2.2.2.2.2.2.2
  have k7 := ok.2.2.2.2.2.2.1
  unfold nt
  simp only [e]
  have i0 := ki 0 (by omega)
  have i1 := ki 1 (by omega)
  have i2 := ki 2 (by omega)
  have i3 := ki 3 (by omega)
  rw [show (12 : Int) + 0 = 12 by omega] at i0
  rw [show (12 : Int) + 1 = 13 by omega] at i1
  rw [show (12 : Int) + 2 = 14 by omega] at i2
  rw [show (12 : Int) + 3 = 15 by omega] at i3
  by_cases c0 : 0 < B 7 ∧ B 8 = l
  · rw [if_pos c0]
    exact ⟨fun _ => ⟨0, ⟨by omega, c0.1⟩, c0.2⟩, fun _ => by have := i0 c0.1; omega⟩
  · rw [if_neg c0]
    by_cases c1 : 1 < B 7 ∧ B 9 = l
    · rw [if_pos c1]
      exact ⟨fun _ => ⟨1, ⟨by omega, c1.1⟩, c1.2⟩, fun _ => by have := i1 c1.1; omega⟩
    · rw [if_neg c1]
      by_cases c2 : 2 < B 7 ∧ B 10 = l
      · rw [if_pos c2]
        exact ⟨fun _ => ⟨2, ⟨by omega, c2.1⟩, c2.2⟩, fun _ => by have := i2 c2.1; omega⟩
      · rw [if_neg c2]
        by_cases c3 : 3 < B 7 ∧ B 11 = l
        · rw [if_pos c3]
          exact ⟨fun _ => ⟨3, ⟨by omega, c3.1⟩, c3.2⟩, fun _ => by have := i3 c3.1; omega⟩
        · rw [if_neg c3]
          refine ⟨fun z => by omega, fun ⟨i, ⟨j0, j1⟩, j2⟩ => ?_⟩
          have hi : i = 0 ∨ i = 1 ∨ i = 2 ∨ i = 3 := by omega
          rcases hi with rfl | rfl | rfl | rfl
          · exact absurd ⟨j1, j2⟩ c0
          · exact absurd ⟨j1, j2⟩ c1
          · exact absurd ⟨j1, j2⟩ c2
          · exact absurd ⟨j1, j2⟩ c3
theorem ip_noteD {b l : Int} {Q : Int → iMem → Prop} (b0 : 0 ≤ b) (b1 : b < 16) (hQ : ∀ v, Q v τ) : ip (iz_Run_noteAt 7 b l) Q τ := by
  unfold iz_Run_noteAt
  rw [ip_B, ip_rcell isRun_7 b0 b1 (by omega) (by omega), ip_B, ip_B]
  refine ip_W (fun s τ1 => τ1 = τ ∧ 0 ≤ s ∧ s ≤ 4) (fun s _ => (4 - s).toNat) ?_ ⟨rfl, by omega, by omega⟩
  intro s τ1 ⟨et, g0, g1⟩
  subst et
  by_cases c1 : τ1 (7 + 2) (b * 16 + 7) ≤ s
  · rw [ip_ifT c1, ip_P]
    show ip (iP _) _ _
    rw [ip_P]
    show ip (iP _) _ _
    rw [ip_P]
    exact hQ _
  · rw [ip_ifF c1]
    by_cases c2 : 4 ≤ s
    · rw [ip_ifT c2, ip_P]
      show ip (iP _) _ _
      rw [ip_P]
      show ip (iP _) _ _
      rw [ip_P]
      exact hQ _
    · rw [ip_ifF c2, ip_A]
      refine ⟨⟨by omega, by omega⟩, ?_⟩
      rw [ip_B, ip_rcell isRun_7 b0 b1 (by omega) (by omega)]
      by_cases c3 : τ1 (7 + 2) (b * 16 + (8 + s)) = l
      · rw [ip_ifF (fun z => z c3), ip_P]
        show ip (iP _) _ _
        rw [ip_P]
        simp only [Sum.elim_inl]
        rw [ip_A]
        refine ⟨⟨by omega, by omega⟩, ?_⟩
        rw [ip_B, ip_rcell isRun_7 b0 b1 (by omega) (by omega), ip_P]
        exact hQ _
      · rw [ip_ifT c3, ip_A]
        refine ⟨⟨by omega, by omega⟩, ?_⟩
        rw [ip_B, ip_P, ip_P]
        exact ⟨⟨rfl, by omega, by omega⟩, by omega⟩
theorem ip_mark {Q : Unit → iMem → Prop} (hW : TaW L T) (hK : TK L T N τ0) (h : Lv L T N τ0 (nx L T q) told (RB R B) τ) (q0 : 0 ≤ q) (q1 : q ≤ 400) (ok : okB kd n B) (n0 : 0 ≤ rn R) (n1 : rn R < 16)
    (hQ : ∀ τ', Sum.elim (fun f => Dd N τ0 f τ') (fun s => Lv L T N τ0 s.1 told (RB R s.2.1) τ') (mkW L T q B sp) → Q () τ') : ip (iz_Teller_readMark 6 (rn R) q) Q τ := by
  have hq1 := h.at hW hK
  have hL := hW.1
  have k7 := ok.2.2.2.2.2.2.1
  -- a FAULT has been found
  have tail : ∀ (τ1 : iMem) (g x3 x5 : Int), Dd N τ0 g τ1 → mkW L T q B sp = Sum.inl g → ip (iB (iz_Run_noteAt 7 (rn R) x5) fun x6 => iB (α := Unit) (if x6 ≤ 0 then iP () else iB (iz_Teller_wrong 6 x3 2) fun _ => iP ()) fun s7 => iB (iz_Teller_readNumber 6 1 20) fun x8 => iB (iGt 6 6) fun x9 => if ¬ x9 = (-1) then iP () else iB (iz_Run_addMark 7 (rn R) x5 x8) fun _ => iP ()) Q τ1 := by
    intro τ1 g x3 x5 hd hm
    rw [ip_B]
    refine ip_noteD n0 n1 (fun v => ?_)
    rw [ip_B]
    refine ip_mono (Q := fun _ τ2 => τ2 = τ1) ?_ (fun _ τ2 e => ?_)
    · by_cases c : v ≤ 0
      · rw [ip_ifT c, ip_P]
      · rw [ip_ifF c, ip_B]
        refine ip_wrongD hd ?_
        rw [ip_P]
    · subst e
      rw [ip_B]
      refine ip_numD hd ?_
      rw [ip_B, ip_Gt, hd.1, ip_ifT (by have := hd.2.1; omega), ip_P]
      refine hQ τ2 ?_
      rw [hm]
      exact hd
  unfold iz_Teller_readMark
  rw [u_1, ip_B, ip_cellB h n0 n1 (by omega) (by omega), ip_B]
  by_cases c : B 7 < 4
  · rw [ip_ifT c, ip_P, ip_B, ip_place hW hK h, ip_B, ip_cellB h n0 n1 (by omega) (by omega), ip_B]
    refine ip_num hW hK h (fun e1 τ1 h1 => ?_) (fun e1 τ1 hd => ?_)
    · have hq2 := h1.at hW hK
      have hn1 := numF_ok e1 (by omega)
      rw [ip_B]
      refine ip_noteB h1 ok n0 n1 (fun v hv => ?_)
      rw [ip_B]
      by_cases d : dup B (va L T (nx L T q))
      · have em : mkW L T q B sp = Sum.inl (8 * nx L T q + 2) := by
          unfold mkW
          rw [if_neg (by omega), if_neg (fun z => z e1), if_pos d]
        rw [ip_ifF (by have := hv.mpr d; omega), ip_B]
        refine ip_wrong h1 (by omega) (by omega) (by omega) (by omega) (fun τ2 hd => ?_)
        rw [ip_P, ip_B]
        refine ip_numD hd ?_
        rw [ip_B, ip_Gt, hd.1, ip_ifT (by have := hd.2.1; omega), ip_P]
        refine hQ τ2 ?_
        rw [em]
        exact hd
      · have nv0 : ¬ 0 < v := fun z => d (hv.mp z)
        rw [ip_ifT (by omega), ip_P, ip_B]
        refine ip_num hW hK h1 (fun e2 τ2 h2 => ?_) (fun e2 τ2 hd => ?_)
        · have em : mkW L T q B sp = Sum.inr (nx L T (nx L T (nx L T q)), mkB B (va L T (nx L T q)) (va L T (nx L T (nx L T q))), sp) := by
            unfold mkW
            rw [if_neg (by omega), if_neg (fun z => z e1), if_neg d, if_neg (fun z => z e2)]
          rw [ip_B, ip_Gt, h2.1, ip_ifF (by omega), ip_B]
          unfold iz_Run_addMark
          rw [ip_B, ip_cellB h2 n0 n1 (by omega) (by omega), ip_ifF (by omega), ip_ifF (by omega), ip_A]
          refine ⟨⟨by omega, by omega⟩, ?_⟩
          rw [ip_B]
          refine ip_setB h2 n0 n1 (by omega) (by omega) (fun τ3 h3 => ?_)
          rw [ip_A]
          refine ⟨⟨by omega, by omega⟩, ?_⟩
          rw [ip_B]
          refine ip_setB h3 n0 n1 (by omega) (by omega) (fun τ4 h4 => ?_)
          rw [ip_A]
          refine ⟨⟨by omega, by omega⟩, ?_⟩
          rw [ip_B]
          refine ip_setB h4 n0 n1 (by omega) (by omega) (fun τ5 h5 => ?_)
          rw [ip_P, ip_P]
          refine hQ τ5 ?_
          rw [em]
          exact h5
        · have em : mkW L T q B sp = Sum.inl (numF L T (nx L T (nx L T q)) 1 20) := by
            unfold mkW
            rw [if_neg (by omega), if_neg (fun z => z e1), if_neg d, if_pos e2]
          rw [ip_B, ip_Gt, hd.1, ip_ifT e2, ip_P]
          refine hQ τ2 ?_
          rw [em]
          exact hd
    · have em : mkW L T q B sp = Sum.inl (numF L T (nx L T q) 1 (B 1)) := by
        unfold mkW
        rw [if_neg (by omega), if_pos e1]
      exact tail τ1 _ _ _ hd em
  · have em : mkW L T q B sp = Sum.inl (8 * q + 3) := by
      unfold mkW
      rw [if_pos (by omega)]
    rw [ip_ifF c, ip_B]
    refine ip_wrong h q0 q1 (by omega) (by omega) (fun τ1 hd => ?_)
    rw [ip_P, ip_B]
    refine ip_placeD hW hK hd (fun v => ?_)
    rw [ip_B, ip_rcell isRun_7 n0 n1 (by omega) (by omega), ip_B]
    refine ip_numD hd ?_
    exact tail τ1 _ _ _ hd em
/-- what reading words ends with -/
def PW (L : Int) (T : Int → Int) (N : Nat) (τ0 : iMem) (ts : Int) (R : aRun) (W : Int ⊕ (Int × (Int → Int) × Int)) (τ : iMem) : Prop :=
  (∃ f, W = Sum.inl f ∧ Dd N τ0 f τ) ∨ (∃ q B sp told, W = Sum.inr (q, B, sp) ∧ tdB told ts B sp ∧ Lv L T N τ0 q told (RB R B) τ) ∨ (∃ q B sp, W = Sum.inr (q, B, sp) ∧ (sn L T q = 1 ∨ sn L T q = 3) ∧ Dd N τ0 (8 * q + 1) τ)
/-- one word -/
theorem ip_oneWord {Q : Unit → iMem → Prop} (hW : TaW L T) (hK : TK L T N τ0) (h : Lv L T N τ0 (nx L T q) told (RB R B) τ) (q0 : 0 ≤ q) (q1 : q ≤ 400) (ok : okB kd n B) (td : tdB told ts B sp) (n0 : 0 ≤ rn R) (n1 : rn R < 16)
    (hQ : ∀ τ', Sum.elim (fun f => Dd N τ0 f τ') (fun s => ∃ told', tdB told' ts s.2.1 s.2.2 ∧ Lv L T N τ0 s.1 told' (RB R s.2.1) τ') (wst L T kd q B sp) → Q () τ') :
    ip (if ¬ wd L T q = 13 then iB (α := (Unit ⊕ Unit)) (if ¬ wd L T q = 14 then iP (Sum.inl ()) else if ¬ kd = 0 then iP (Sum.inl ()) else iB (iz_Teller_tellOnce 6 (wd L T q) q) fun _ => iB (iz_Run_putCell 7 (rn R) 5 1) fun _ => iP (Sum.inr ())) (Sum.elim (fun s10 =>
        if ¬ wd L T q = 15 then iB (α := (Unit ⊕ Unit)) (if ¬ wd L T q = 16 then iP (Sum.inl ()) else if ¬ kd = 0 then iP (Sum.inl ()) else iB (iz_Teller_readMark 6 (rn R) q) fun _ => iP (Sum.inr ())) (Sum.elim (fun s11 => iB (iz_Teller_wrong 6 q 1) fun _ => iP ()) iP)
        else iB (iz_Teller_tellOnce 6 (wd L T q) q) fun _ => iB (iz_Teller_readNumber 6 0 30) fun x12 => iB (iz_Run_putCell 7 (rn R) 6 x12) fun _ => iP ()) iP)
      else iB (iz_Teller_tellOnce 6 (wd L T q) q) fun _ => iB (iz_Run_putCell 7 (rn R) 4 1) fun _ => iP ()) Q τ := by
  have hwd := wd_in (L := L) (T := T) (q := q)
  have hn1q := h.at hW hK
  have hL := hW.1
  have fault : ∀ {f : Int} {τ' : iMem}, wst L T kd q B sp = Sum.inl f → Dd N τ0 f τ' → Q () τ' := fun e hd => hQ _ (by rw [e]; exact hd)
  -- tied, whole
  have flag : ∀ (w c : Int), wd L T q = w → ((w = 13 ∧ c = 4) ∨ (w = 14 ∧ c = 5 ∧ kd = 0)) → ∀ {α : Type} (k : Unit → iM α) (Q' : α → iMem → Prop), (∀ τ', Q () τ' → ip (k ()) Q' τ') → ip (iB (iz_Teller_tellOnce 6 w q) fun _ => iB (iz_Run_putCell 7 (rn R) c 1) fun _ => k ()) Q' τ := by
    intro w c hw hc α k Q' hk
    have ebit : bt told w = true ↔ B c = 1 := by
      rcases hc with ⟨z1, z2⟩ | ⟨z1, z2, -⟩
      · rw [z1, z2]; exact td.2.2.1
      · rw [z1, z2]; exact td.2.2.2.1
    have ew : wst L T kd q B sp = if B c = 1 then Sum.inl (8 * q + 3) else Sum.inr (nx L T q, bup B c 1, sp) := by
      unfold wst
      rcases hc with ⟨z1, z2⟩ | ⟨z1, z2, z3⟩
      · rw [if_pos (by omega), z2]
      · rw [if_neg (by omega), if_pos ⟨by omega, z3⟩, z2]
    rw [ip_B]
    refine ip_once h td.1.1 td.1.2 (by omega) (by omega) q0 q1 (fun e τ1 h1 => ?_) (fun e τ1 hd => ?_)
    · have eB : ¬ B c = 1 := fun z => by rw [ebit.mpr z] at e; exact absurd e (by decide)
      rw [ip_B]
      refine ip_setB h1 n0 n1 (by omega) (by omega) (fun τ2 h2 => ?_)
      refine hk τ2 (hQ τ2 ?_)
      rw [ew, if_neg eB, Sum.elim_inr]
      refine ⟨_, tdB_set td (by omega) (by omega) ?_ ?_ ?_, h2⟩
      · show bup B c 1 4 = 1 ↔ _
        unfold bup
        by_cases y : (4 : Int) = c
        · rw [if_pos y]; omega
        · rw [if_neg y]; omega
      · show bup B c 1 5 = 1 ↔ _
        unfold bup
        by_cases y : (5 : Int) = c
        · rw [if_pos y]; omega
        · rw [if_neg y]; omega
      · show sp = 1 ↔ _
        omega
    · rw [ip_B]
      refine ip_setD hd n0 n1 (by omega) (by omega) (fun τ2 hd2 => ?_)
      refine hk τ2 (fault ?_ hd2)
      rw [ew, if_pos (ebit.mp e)]
  have bad : (wst L T kd q B sp = Sum.inl (8 * q + 1)) → ip (iB (iz_Teller_wrong 6 q 1) fun _ => iP ()) Q τ := by
    intro e
    rw [ip_B]
    refine ip_wrong h q0 q1 (by omega) (by omega) (fun τ1 hd => ?_)
    rw [ip_P]
    exact fault e hd
  by_cases c1 : wd L T q = 13
  · rw [ip_ifF (fun z => z c1), c1]
    exact flag 13 4 c1 (Or.inl ⟨rfl, rfl⟩) (fun _ => iP ()) Q (fun τ' hq => by rw [ip_P]; exact hq)
  · rw [ip_ifT c1, ip_B]
    have rest : ¬ (wd L T q = 14 ∧ kd = 0) → ip (if ¬ wd L T q = 15 then iB (α := (Unit ⊕ Unit)) (if ¬ wd L T q = 16 then iP (Sum.inl ()) else if ¬ kd = 0 then iP (Sum.inl ()) else iB (iz_Teller_readMark 6 (rn R) q) fun _ => iP (Sum.inr ())) (Sum.elim (fun s11 => iB (iz_Teller_wrong 6 q 1) fun _ => iP ()) iP)
        else iB (iz_Teller_tellOnce 6 (wd L T q) q) fun _ => iB (iz_Teller_readNumber 6 0 30) fun x12 => iB (iz_Run_putCell 7 (rn R) 6 x12) fun _ => iP ()) Q τ := by
      intro c2
      by_cases c3 : wd L T q = 15
      · have ew : wst L T kd q B sp = if sp = 1 then Sum.inl (8 * q + 3) else if numF L T (nx L T q) 0 30 ≠ -1 then Sum.inl (numF L T (nx L T q) 0 30) else Sum.inr (nx L T (nx L T q), bup B 6 (va L T (nx L T q)), 1) := by
          unfold wst
          rw [if_neg c1, if_neg c2, if_pos c3]
        rw [ip_ifF (fun z => z c3), c3, ip_B]
        refine ip_once h td.1.1 td.1.2 (by omega) (by omega) q0 q1 (fun e τ1 h1 => ?_) (fun e τ1 hd => ?_)
        · have esp : ¬ sp = 1 := fun z => by rw [td.2.2.2.2.mpr z] at e; exact absurd e (by decide)
          rw [ip_B]
          refine ip_num hW hK h1 (fun e2 τ2 h2 => ?_) (fun e2 τ2 hd => ?_)
          · rw [ip_B]
            refine ip_setB h2 n0 n1 (by omega) (by omega) (fun τ3 h3 => ?_)
            rw [ip_P]
            refine hQ τ3 ?_
            rw [ew, if_neg esp, if_neg (fun z => z e2), Sum.elim_inr]
            refine ⟨_, tdB_set td (by omega) (by omega) ?_ ?_ ?_, h3⟩
            · show bup B 6 (va L T (nx L T q)) 4 = 1 ↔ _
              rw [bup_ne (by omega)]; omega
            · show bup B 6 (va L T (nx L T q)) 5 = 1 ↔ _
              rw [bup_ne (by omega)]; omega
            · show (1 : Int) = 1 ↔ _
              omega
          · rw [ip_B]
            refine ip_setD hd n0 n1 (by omega) (by omega) (fun τ3 hd3 => ?_)
            rw [ip_P]
            refine fault ?_ hd3
            rw [ew, if_neg esp, if_pos e2]
        · rw [ip_B]
          refine ip_numD hd ?_
          rw [ip_B]
          refine ip_setD hd n0 n1 (by omega) (by omega) (fun τ3 hd3 => ?_)
          rw [ip_P]
          refine fault ?_ hd3
          rw [ew, if_pos (td.2.2.2.2.mp e)]
      · rw [ip_ifT c3, ip_B]
        by_cases c4 : wd L T q = 16
        · by_cases c5 : kd = 0
          · rw [ip_ifF (fun z => z c4), ip_ifF (fun z => z c5), ip_B]
            refine ip_mark (sp := sp) hW hK h q0 q1 ok n0 n1 (fun τ1 hm => ?_)
            rw [ip_P]
            simp only [Sum.elim_inr, ip_P]
            refine hQ τ1 ?_
            rw [wst_16 c4 c5]
            cases hmk : mkW L T q B sp with
            | inl f => rw [hmk] at hm; exact hm
            | inr s =>
              rw [hmk] at hm
              rw [Sum.elim_inr] at hm ⊢
              refine ⟨told, ?_, hm⟩
              have es : ∃ l m, s.2.1 = mkB B l m ∧ s.2.2 = sp := by
                unfold mkW at hmk
                by_cases y1 : 4 ≤ B 7
                · rw [if_pos y1] at hmk; cases hmk
                · rw [if_neg y1] at hmk
                  by_cases y2 : numF L T (nx L T q) 1 (B 1) = -1
                  · rw [if_neg (fun z => z y2)] at hmk
                    by_cases y3 : dup B (va L T (nx L T q))
                    · rw [if_pos y3] at hmk; cases hmk
                    · rw [if_neg y3] at hmk
                      by_cases y4 : numF L T (nx L T (nx L T q)) 1 20 = -1
                      · rw [if_neg (fun z => z y4)] at hmk
                        cases hmk
                        exact ⟨_, _, rfl, rfl⟩
                      · rw [if_pos y4] at hmk; cases hmk
                  · rw [if_pos y2] at hmk; cases hmk
              obtain ⟨l, m, es1, es2⟩ := es
              have k7 := ok.2.2.2.2.2.2.1
              have e4 : s.2.1 4 = B 4 := by rw [es1]; unfold mkB; rw [bup_ne (by omega), bup_ne (by omega), bup_ne (by omega)]
              have e5 : s.2.1 5 = B 5 := by rw [es1]; unfold mkB; rw [bup_ne (by omega), bup_ne (by omega), bup_ne (by omega)]
              refine ⟨td.1, td.2.1, by rw [e4]; exact td.2.2.1, by rw [e5]; exact td.2.2.2.1, by rw [es2]; exact td.2.2.2.2⟩
          · rw [ip_ifF (fun z => z c4), ip_ifT c5, ip_P]
            simp only [Sum.elim_inl]
            refine bad ?_
            unfold wst
            rw [if_neg c1, if_neg c2, if_neg c3, if_neg (fun z => c5 z.2)]
        · rw [ip_ifT c4, ip_P]
          simp only [Sum.elim_inl]
          refine bad ?_
          unfold wst
          rw [if_neg c1, if_neg c2, if_neg c3, if_neg (fun z => c4 z.1)]
    by_cases c2 : wd L T q = 14
    · by_cases c5 : kd = 0
      · rw [ip_ifF (fun z => z c2), ip_ifF (fun z => z c5), c2]
        refine flag 14 5 c2 (Or.inr ⟨rfl, rfl, c5⟩) (fun _ => iP (Sum.inr ())) _ (fun τ' hq => ?_)
        rw [ip_P]
        simp only [Sum.elim_inr, ip_P]
        exact hq
      · rw [ip_ifF (fun z => z c2), ip_ifT c5, ip_P]
        simp only [Sum.elim_inl]
        exact rest (fun z => c5 z.2)
    · rw [ip_ifT c2, ip_P]
      simp only [Sum.elim_inl]
      exact rest (fun z => c2 z.1)
theorem bt_255 {x j : Int} (x0 : 0 ≤ x) (j0 : 0 ≤ j) : bt (ibAnd x 255) j = (decide (j < 8) && bt x j) := by
  obtain ⟨a, rfl⟩ := Int.eq_ofNat_of_zero_le x0
  obtain ⟨b, rfl⟩ := Int.eq_ofNat_of_zero_le j0
  have e : ibAnd (a : Int) 255 = ((a % 2 ^ 8 : Nat) : Int) := by rw [ib_255]; omega
  unfold bt
  rw [e, Int.toNat_natCast, Int.toNat_natCast, Int.toNat_natCast, Nat.testBit_mod_two_pow]
  congr 1
  by_cases z : b < 8
  · rw [decide_eq_true z, decide_eq_true (by omega)]
  · rw [decide_eq_false z, decide_eq_false (by omega)]
theorem ip_words {Q : Unit → iMem → Prop} (hW : TaW L T) (hK : TK L T N τ0) (h : Lv L T N τ0 q told (RB R B) τ) (ok : okB kd n B) (h45 : B 4 = 0 ∧ B 5 = 0) (t0 : 0 ≤ told) (t1 : told < 131072) (ht : ∀ j, 0 ≤ j → j < 8 → bt told j = bt ts j) (n0 : 0 ≤ rn R) (n1 : rn R < 16)
    (hQ : ∀ τ', PW L T N τ0 ts R (wds L T kd 400 q B 0) τ' → Q () τ') : ip (iz_Teller_readWords 6 (rn R) kd) Q τ := by
  have hL := hW.1
  have hq := h.at hW hK
  have h255 : 0 ≤ ibAnd told 255 ∧ ibAnd told 255 < 131072 := by rw [ib_255]; omega
  unfold iz_Teller_readWords
  rw [u_1, ip_B, ip_Gt, h.2.2.1, ip_B, ip_Pt, ip_B]
  have hL0 : Lv L T N τ0 q (ibAnd told 255) (RB R B) (iu τ 6 7 (ibAnd told 255)) := by
    obtain ⟨d1, ⟨i, i1, i2, i3⟩, d2, d3, d4⟩ := h
    exact ⟨(iu_ne (Or.inr (by omega))).trans d1, ⟨i, (iu_ne (Or.inr (by omega))).trans i1, i2, i3⟩, iu_eq, d3.frame (fun a k _ _ => iu_ne (Or.inl (by omega))), fun a k z => (iu_ne (by omega)).trans (d4 a k z)⟩
  have td0 : tdB (ibAnd told 255) ts B 0 := by
    refine ⟨h255, fun j j0 j1 => ?_, ?_, ?_, ?_⟩
    · rw [bt_255 t0 j0, decide_eq_true j1, Bool.true_and]; exact ht j j0 j1
    · rw [bt_255 t0 (by omega)]
      exact ⟨fun z => absurd z (by rw [decide_eq_false (by omega), Bool.false_and]; decide), fun z => by omega⟩
    · rw [bt_255 t0 (by omega)]
      exact ⟨fun z => absurd z (by rw [decide_eq_false (by omega), Bool.false_and]; decide), fun z => by omega⟩
    · rw [bt_255 t0 (by omega)]
      exact ⟨fun z => absurd z (by rw [decide_eq_false (by omega), Bool.false_and]; decide), fun z => by omega⟩
  refine ip_mono (Q := fun _ τ1 => PW L T N τ0 ts R (wds L T kd 400 q B 0) τ1) ?_ (fun _ τ1 g => by rw [ip_P]; exact hQ τ1 g)
  generalize hW0 : wds L T kd 400 q B 0 = W0
  refine ip_W (fun s τ1 => (0 ≤ s ∧ s ≤ 401) ∧ (((∃ f, W0 = Sum.inl f ∧ Dd N τ0 f τ1) ∨ ∃ q B sp, W0 = Sum.inr (q, B, sp) ∧ (sn L T q = 1 ∨ sn L T q = 3) ∧ Dd N τ0 (8 * q + 1) τ1) ∨ ∃ (m : Nat) (q : Int) (B : Int → Int) (sp told : Int), wds L T kd m q B sp = W0 ∧ L - q ≤ m ∧ s ≤ q ∧ okB kd n B ∧ tdB told ts B sp ∧ Lv L T N τ0 q told (RB R B) τ1)) (fun s _ => (401 - s).toNat) ?_ ⟨⟨Int.le_refl _, by omega⟩, Or.inr ⟨400, q, B, 0, _, hW0, by omega, by omega, ok, td0, hL0⟩⟩
  intro s τ1 ⟨b1, b2⟩
  rcases b2 with b2 | ⟨m, q, B, sp, told, g1, g2, g3, g4, g5, g6⟩
  · have hd : ∃ f, Dd N τ0 f τ1 := by
      rcases b2 with ⟨f, -, z⟩ | ⟨q, B, sp, -, -, z⟩
      · exact ⟨f, z⟩
      · exact ⟨_, z⟩
    obtain ⟨f, hd⟩ := hd
    rw [ip_B, ip_Gt, hd.1, ip_ifT (by have := hd.2.1; omega), ip_P]
    simp only [Sum.elim_inr]
    rcases b2 with z | z
    · exact Or.inl z
    · exact Or.inr (Or.inr z)
  · have hq := g6.at hW hK
    have stop : sn L T q ≠ 0 → W0 = Sum.inr (q, B, sp) := by
      intro z
      rw [← g1]
      cases m with
      | zero => rfl
      | succ m => exact if_neg z
    rw [ip_B, ip_Gt, g6.1, ip_ifF (by omega), ip_B, ip_sign hW hK g6]
    by_cases c4 : sn L T q = 4
    · rw [ip_ifT c4, ip_P]
      simp only [Sum.elim_inr]
      exact Or.inr (Or.inl ⟨q, B, sp, told, stop (by omega), g5, g6⟩)
    · have hqL := (sn_lt (L := L) (T := T) (q := q) c4).1
      rw [ip_ifF c4, ip_B, ip_sign hW hK g6]
      by_cases c2 : sn L T q = 2
      · rw [ip_ifT c2, ip_P]
        simp only [Sum.elim_inr]
        exact Or.inr (Or.inl ⟨q, B, sp, told, stop (by omega), g5, g6⟩)
      · rw [ip_ifF c2, ip_ifF (by omega), ip_B, ip_place hW hK g6, ip_B]
        have tail : ∀ τ2, (((∃ f, W0 = Sum.inl f ∧ Dd N τ0 f τ2) ∨ ∃ q B sp, W0 = Sum.inr (q, B, sp) ∧ (sn L T q = 1 ∨ sn L T q = 3) ∧ Dd N τ0 (8 * q + 1) τ2) ∨ ∃ (m : Nat) (q : Int) (B : Int → Int) (sp told : Int), wds L T kd m q B sp = W0 ∧ L - q ≤ m ∧ s + 1 ≤ q ∧ okB kd n B ∧ tdB told ts B sp ∧ Lv L T N τ0 q told (RB R B) τ2) → ip (iA (s + 1) fun y1 => iB (iP y1) fun x13 => iP (Sum.inl x13 : Int ⊕ Unit)) (fun r τ' => Sum.elim (fun s' => ((0 ≤ s' ∧ s' ≤ 401) ∧ (((∃ f, W0 = Sum.inl f ∧ Dd N τ0 f τ') ∨ ∃ q B sp, W0 = Sum.inr (q, B, sp) ∧ (sn L T q = 1 ∨ sn L T q = 3) ∧ Dd N τ0 (8 * q + 1) τ') ∨ ∃ (m : Nat) (q : Int) (B : Int → Int) (sp told : Int), wds L T kd m q B sp = W0 ∧ L - q ≤ m ∧ s' ≤ q ∧ okB kd n B ∧ tdB told ts B sp ∧ Lv L T N τ0 q told (RB R B) τ')) ∧ (401 - s').toNat < (401 - s).toNat) (fun _ => PW L T N τ0 ts R W0 τ') r) τ2 := by
          intro τ2 z
          rw [ip_A]
          refine ⟨⟨by omega, by omega⟩, ?_⟩
          rw [ip_B, ip_P, ip_P]
          simp only [Sum.elim_inl]
          exact ⟨⟨⟨by omega, by omega⟩, z⟩, by omega⟩
        refine ip_word hW hK g6 (fun c0 τ2 h2 => ?_) (fun c0 => ?_)
        · obtain ⟨m', rfl⟩ : ∃ m', m = m' + 1 := ⟨m - 1, by omega⟩
          have e : wds L T kd (m' + 1) q B sp = if sn L T q = 0 then Sum.elim Sum.inl (fun s => wds L T kd m' s.1 s.2.1 s.2.2) (wst L T kd q B sp) else Sum.inr (q, B, sp) := rfl
          rw [e, if_pos c0] at g1
          rw [ip_B]
          refine ip_oneWord hW hK h2 hq.1 (by omega) g4 g5 n0 n1 (fun τ3 hw => tail τ3 ?_)
          cases hv : wst L T kd q B sp with
          | inl f =>
            rw [hv, Sum.elim_inl] at g1
            rw [hv, Sum.elim_inl] at hw
            exact Or.inl (Or.inl ⟨f, g1.symm, hw⟩)
          | inr s' =>
            rw [hv, Sum.elim_inr] at g1
            rw [hv, Sum.elim_inr] at hw
            obtain ⟨told', w1, w2⟩ := hw
            have k := wst_ok g4 hq.1 c0 hv
            exact Or.inr ⟨m', s'.1, s'.2.1, s'.2.2, told', g1, by omega, by omega, k.2, w1, w2⟩
        · rw [ip_B, ip_ifT (by omega), ip_B, ip_ifT (by omega), ip_P]
          simp only [Sum.elim_inl]
          rw [ip_ifT (by omega), ip_B, ip_ifT (by omega), ip_P]
          simp only [Sum.elim_inl]
          rw [ip_B]
          refine ip_wrong g6 hq.1 (by omega) (by omega) (by omega) (fun τ2 hd => ?_)
          rw [ip_P]
          refine tail τ2 (Or.inl (Or.inr ⟨q, B, sp, stop c0, ?_, hd⟩))
          have := sn_in (L := L) (T := T) q
          omega
end
