/-! ===== untie, the other one's ===== -/
/-- a loop, by how many turns are left -/
theorem ip_Wg {S α : Type} {step : S → iM (S ⊕ α)} {Q : α → iMem → Prop} (I : Nat → S → iMem → Prop) (h : ∀ k s τ, I k s τ → ip (step s) (fun r τ' => Sum.elim (fun s' => ∃ k', k' < k ∧ I k' s' τ') (fun a => Q a τ') r) τ) {k : Nat} {s : S} {τ : iMem} (h0 : I k s τ) : ip (iW step s) Q τ := by
  have key : ∀ (n k : Nat) (s : S) (τ : iMem), I k s τ → k < n → ∃ m a τ', iL step m s τ = some (a, τ') ∧ Q a τ' := by
    intro n
    induction n with
    | zero => intro k s τ _ hn; exact absurd hn (Nat.not_lt_zero _)
    | succ n ih =>
      intro k s τ hI hn
      obtain ⟨r, τ1, h1, h2⟩ := h k s τ hI
      cases r with
      | inl s' =>
        obtain ⟨k', g0, g3⟩ := h2
        obtain ⟨m, a, τ2, g1, g2⟩ := ih k' s' τ1 g3 (Nat.lt_of_lt_of_le g0 (Nat.le_of_lt_succ hn))
        exact ⟨m + 1, a, τ2, (iB_of h1).trans g1, g2⟩
      | inr a => exact ⟨1, a, τ1, (iB_of h1).trans rfl, h2⟩
  obtain ⟨m, a, τ', h1, h2⟩ := key _ k s τ h0 (Nat.lt_succ_self _)
  exact ⟨a, τ', iW_iff.mpr ⟨m, h1⟩, h2⟩
section
variable {τ τ0 : iMem} {R : aRun}
theorem ip_Mhas {x b : Int} {Q : Int → iMem → Prop} (x0 : 0 ≤ x) (x1 : x < 2147483648) (b0 : 0 ≤ b) (b1 : b < 32) : ip (iz_Model_has x b) Q τ ↔ Q (if bt x b = true then 1 else 0) τ := by
  unfold iz_Model_has
  rw [ib_test x0 x1 b0 b1]
  by_cases c : bt x b = true
  · rw [if_pos c, ip_ifF (by omega), ip_P]
  · rw [if_neg c, ip_ifT (by omega), ip_P]
theorem ip_isIn {b s : Int} {Q : Int → iMem → Prop} (hw : WF R) (hx : Mx R τ) (b0 : 0 ≤ b) (b1 : b < rn R) : ip (iz_Model_isIn 367 b s) Q τ ↔ Q (if rc R b 0 ≠ 4 ∧ sc R b = s then 1 else 0) τ := by
  have hn := hw.1
  have hb := hw.2.2.1 b b0 b1
  obtain ⟨f1, f2, f3, -, -, -, -, f8⟩ := hx.2
  unfold iz_Model_isIn
  rw [ip_B, ip_of hx.1 hn.2 b0 b1 (by omega) (by omega)]
  by_cases c : rc R b 0 = 4
  · rw [ip_ifT c, ip_P, if_neg (fun z => z.1 c)]
  · have h1 : 1 ≤ rc R b 1 := hb.2.2.2.1 c
    have hs := fs_s (R := R) b0
    have hle := fs_le hw (b := b + 1) (by omega) (by omega)
    have hge := fs_ge hw (b := b) b0 (by omega)
    have h90 := hw.2.2.2
    have ho := ow_at hw b0 b1 (i := 0) (by omega) (by omega)
    rw [Int.add_zero] at ho
    rw [ip_ifF c, ip_B, ip_Ld, m_17, l_382, f8 b b0 b1]
    refine (and_iff_right ⟨by omega, by omega⟩).trans ?_
    rw [ip_B, ip_Gt, f1, ip_ifF (by omega), ip_B, ip_Ld, l_382, f8 b b0 b1]
    refine (and_iff_right ⟨by omega, by omega⟩).trans ?_
    rw [ip_B, ip_Ld, m_11, l_378, (f3 (fs R b) hge (by omega)).2.2.2.2.2]
    refine (and_iff_right ⟨by omega, by omega⟩).trans ?_
    have e : pS R (fs R b) = sc R b := by unfold pS; rw [ho]
    rw [e]
    by_cases d : sc R b = s
    · rw [ip_ifF (by omega), ip_P, if_pos ⟨c, d⟩]
    · rw [ip_ifT d, ip_P, if_neg (fun z => d z.2)]
theorem ip_tiedOf {s : Int} {Q : Int → iMem → Prop} (hw : WF R) (hx : Mx R τ) (hQ : Q (tiV R s (rn R).toNat) τ) : ip (iz_Model_tiedOf 367 s) Q τ := by
  have hn := hw.1
  unfold iz_Model_tiedOf
  rw [ip_B]
  refine ip_mono (Q := fun v τ1 => v = tiV R s (rn R).toNat ∧ τ1 = τ) ?_ (fun v τ1 e => by rw [ip_P, e.1, e.2]; exact hQ)
  refine ip_W (fun (q : Int × Int) τ1 => τ1 = τ ∧ (0 ≤ q.2 ∧ q.2 ≤ rn R) ∧ q.1 = tiV R s q.2.toNat) (fun q _ => (rn R - q.2).toNat) ?_ ⟨rfl, ⟨Int.le_refl _, hn.1⟩, rfl⟩
  intro q τ1 ⟨et, b1, b2⟩
  obtain ⟨v, b⟩ := q
  subst et
  dsimp only at b1 b2 ⊢
  subst b2
  rw [ip_B, ip_blocks, rm_n hx.1]
  by_cases c : rn R ≤ b
  · rw [ip_ifT c, ip_P]
    exact ⟨by rw [show b = rn R by omega], rfl⟩
  · have hin := tiV_n (R := R) (s := s) hw b1.1 b1.2
    have hb := hw.2.2.1 b b1.1 (by omega)
    rw [ip_ifF c, ip_B, ip_isIn hw hx b1.1 (by omega), ip_B]
    refine ip_mono (Q := fun y τ3 => τ3 = τ1 ∧ y = tiV R s (b + 1).toNat) ?_ (fun y τ3 e2 => ?_)
    · rw [tiV_s b1.1]
      by_cases d : rc R b 0 ≠ 4 ∧ sc R b = s
      · rw [if_pos d, ip_ifF (by omega), ip_B, ip_of hx.1 hn.2 b1.1 (by omega) (by omega) (by omega)]
        by_cases d2 : rc R b 4 = 1
        · rw [ip_ifF (by omega), ip_B]
          refine ip_Mbits hin.1.1 (by omega) ?_
          by_cases d3 : 8 ≤ bn (tiV R s b.toNat) 18
          · rw [ip_ifT d3, ip_P, if_neg (by omega)]
            exact ⟨rfl, rfl⟩
          · rw [ip_ifF d3, ip_B, ip_P, ip_P, if_pos ⟨⟨d.2, d2⟩, by omega⟩]
            exact ⟨rfl, rfl⟩
        · rw [ip_ifT d2, ip_P, if_neg (fun z => d2 z.1.2)]
          exact ⟨rfl, rfl⟩
      · rw [if_neg d, ip_ifT rfl, ip_P, if_neg (fun z => ?_)]
        · exact ⟨rfl, rfl⟩
        · by_cases k4 : rc R b 0 = 4
          · have := (hb.2.2.1 k4).2; omega
          · exact d ⟨k4, z.1.1⟩
    · obtain ⟨et, e2⟩ := e2
      subst et
      rw [ip_A]
      refine ⟨⟨by omega, by omega⟩, ?_⟩
      rw [ip_B, ip_P, ip_P]
      simp only [Sum.elim_inl]
      exact ⟨⟨trivial, ⟨by omega, by omega⟩, e2⟩, by omega⟩
/-- while some are tried -/
def Wn (R : aRun) (τ0 τ : iMem) : Prop := InvX R τ ∧ (∀ k, 0 ≤ k → k < 265 → τ 372 k = τ 368 k) ∧ ∀ a k, ¬ mz a k → τ a k = τ0 a k
theorem pw_4 {w : Int} (w0 : 0 ≤ w) (w1 : w < 16) : 0 ≤ pw w ∧ pw w ≤ 15 ∧ (pw w = 4 ↔ w = 4) := by
  unfold pw
  by_cases a : w < 8
  · rw [if_pos a]; omega
  · rw [if_neg a]
    by_cases b : w < 12
    · rw [if_pos b]; omega
    · rw [if_neg b]; omega
theorem ip_fitsWithout {s h x : Int} {Q : Int → iMem → Prop} (hW : Wn R τ0 τ) (s0 : 0 ≤ s) (s1 : s < ns R) (h0 : 0 ≤ h) (h1 : h ≤ 2000) (x0 : 0 ≤ x) (x1 : x < 2147483648)
    (hQ : ∀ r τ', (r = 1 ∧ FV R s h x) ∨ (r = 0 ∧ ¬ FV R s h x) → Wn R τ0 τ' → Q r τ') : ip (iz_Model_fitsWithout 367 s x h) Q τ := by
  obtain ⟨hI, hK, hF⟩ := hW
  have hw := hI.1
  have hn := hw.1
  have hR := hI.2.2.2
  have hw' := RU_wf (m := x) hw
  have hns := ns_in hw
  have hb := bg_step hw' s
  have hb' := hb.1
  have h90 := hw'.2.2.2
  unfold iz_Model_fitsWithout
  rw [ip_B]
  refine ip_mono (Q := fun _ τ1 => RunM τ1 368 0 (RU R x) ∧ ∀ a k, ¬ (a = 368 ∧ 0 ≤ k ∧ k < 265) → τ1 a k = τ a k) ?_ (fun _ τ1 e => ?_)
  · refine ip_W (fun i τ1 => (0 ≤ i ∧ i ≤ rn R) ∧ (∀ a k, ¬ (a = 368 ∧ ∃ b, 0 ≤ b ∧ b < 16 ∧ k = 9 + 16 * b + 4) → τ1 a k = τ a k) ∧ (∀ b, 0 ≤ b → b < i → τ1 368 (9 + 16 * b + 4) = rc (RU R x) b 4) ∧ (∀ b, i ≤ b → b < rn R → τ1 368 (9 + 16 * b + 4) = τ 368 (9 + 16 * b + 4))) (fun i _ => (rn R - i).toNat) ?_ ⟨⟨Int.le_refl _, hn.1⟩, fun _ _ _ => rfl, fun b b0 b1 => by omega, fun _ _ _ => rfl⟩
    intro i τ1 ⟨b1, b2, b3, b4⟩
    have e8 : τ1 368 8 = rn R := by rw [b2 368 8 (by omega)]; exact hR.1
    rw [ip_B, ip_blocks, e8]
    by_cases c : rn R ≤ i
    · rw [ip_ifT c, ip_P]
      simp only [Sum.elim_inr]
      refine ⟨⟨e8, fun k k0 k1 => ?_, fun b w b0 b1' w0 w1 => ?_⟩, fun a k z => b2 a k (fun y => by omega)⟩
      · rw [b2 _ _ (by omega)]; exact hR.2.1 k k0 k1
      · have hp := pw_4 w0 w1
        have e1 : rn (RU R x) = rn R := rfl
        by_cases z : w = 4
        · have := b3 b b0 (by omega)
          rw [z, show pw 4 = 4 from rfl, Int.zero_add]
          exact this
        · rw [b2 _ _ (fun y => by obtain ⟨-, b', p0, p1, p2⟩ := y; omega), RU_o z]
          exact hR.2.2 b w b0 (by omega) w0 w1
    · rw [ip_ifF c, ip_B, ip_Mhas x0 x1 b1.1 (by omega), ip_B]
      have e4 : τ 368 (9 + 16 * i + 4) = rc R i 4 := rm_c hR b1.1 (by omega) (by omega) (by omega)
      refine ip_mono (Q := fun _ τ2 => τ2 368 (9 + 16 * i + 4) = rc (RU R x) i 4 ∧ ∀ a k, ¬ (a = 368 ∧ k = 9 + 16 * i + 4) → τ2 a k = τ1 a k) ?_ (fun _ τ2 e => ?_)
      · by_cases d : bt x i = true
        · rw [if_pos d, ip_ifF (by omega), ip_A]
          refine ⟨⟨by omega, by omega⟩, ?_⟩
          rw [ip_A]
          refine ⟨⟨by omega, by omega⟩, ?_⟩
          rw [ip_A]
          refine ⟨⟨by omega, by omega⟩, ?_⟩
          rw [ip_B, ip_St, m_0, l_368]
          refine ⟨⟨⟨by omega, by omega⟩, by omega⟩, ?_⟩
          rw [ip_P]
          exact ⟨by rw [iu_eq, RU_rc, if_pos ⟨rfl, d⟩], fun a k z => iu_ne (by omega)⟩
        · rw [if_neg d, ip_ifT rfl, ip_P]
          exact ⟨by rw [b4 i (Int.le_refl _) (by omega), e4, RU_rc, if_neg (fun z => d z.2)], fun _ _ _ => rfl⟩
      · rw [ip_A]
        refine ⟨⟨by omega, by omega⟩, ?_⟩
        rw [ip_B, ip_P, ip_P]
        simp only [Sum.elim_inl]
        refine ⟨⟨⟨by omega, by omega⟩, fun a k z => ?_, fun b b0 b1' => ?_, fun b b0 b1' => ?_⟩, by omega⟩
        · rw [e.2 a k (fun y => z ⟨y.1, i, b1.1, by omega, y.2⟩)]
          exact b2 a k z
        · by_cases z : b = i
          · rw [z]; exact e.1
          · rw [e.2 _ _ (by omega)]; exact b3 b b0 (by omega)
        · rw [e.2 _ _ (by omega)]; exact b4 b (by omega) b1'
  · obtain ⟨e1, e2⟩ := e
    rw [ip_B]
    refine ip_lays hw' e1 (fun τ2 v1 v2 => ?_)
    have hR2 : RunM τ2 368 0 (RU R x) := e1.frame (fun k => v2 _ _ (by unfold mlw; omega))
    have s1' : s < ns (RU R x) := by rw [RU_ns]; exact s1
    rw [ip_B, ip_Ld, m_14, l_380, v1.2.2.2.2.2.1 s s0 (by omega)]
    refine ⟨⟨by omega, by omega⟩, ?_⟩
    rw [ip_B]
    refine ip_fitsFrom hw' hR2 v1 s0 s1' (Int.le_refl _) hb.2.1 (en_begin s0 s1') h0 h1 (fun r τ3 hr u1 _ => ?_)
    rw [RU_bg] at hr
    rw [ip_B]
    refine ip_putsBack (fun τ4 w1 w2 => ?_)
    rw [ip_B, ip_Z]
    refine ⟨by omega, ?_⟩
    rw [ip_P]
    have e372 : ∀ k, 0 ≤ k → k < 265 → τ3 372 k = τ 372 k := fun k k0 k1 => by rw [u1 _ _ (by omega), v2 _ _ (by unfold mlw; omega), e2 _ _ (by omega)]
    have e368 : ∀ j, τ4 368 j = τ 368 j := fun j => by
      by_cases c : 0 ≤ j ∧ j < 265
      · rw [w1 j c.1 c.2, e372 j c.1 c.2, hK j c.1 c.2]
      · rw [w2 _ _ (by omega), u1 _ _ (by omega), v2 _ _ (by unfold mlw; omega), e2 _ _ (by omega)]
    have hf : ∀ a j, ¬ mz a j → τ4 a j = τ a j := fun a j z => by
      by_cases c : a = 368
      · rw [c]; exact e368 j
      · rw [w2 a j (by omega), u1 a j (by unfold mz at z; omega), v2 a j (by unfold mz at z; unfold mlw; omega), e2 a j (by omega)]
    refine hQ r τ4 ?_ ⟨hI.m hf, fun k k0 k1 => ?_, fun a j z => (hf a j z).trans (hF a j z)⟩
    · have e0 : rs (RU R x) 0 = rs R 0 := rfl
      rw [e0] at hr
      unfold FV
      omega
    · rw [e368 k, w2 _ _ (by omega), e372 k k0 k1]
      exact hK k k0 k1
theorem gv_Muntie (hI : InvX R τ) (s h : Int) : gv R (iz_Model_untie 367 s h) (untV R s h) τ := by
  have hw := hI.1
  unfold iz_Model_untie
  refine gv_Masks hI (fun a1 a2 τ1 hX hx => ?_) (fun z => if_neg (fun q => z q.1))
  unfold gv
  rw [ip_B, ip_in]
  by_cases c : h < 0 ∨ 2000 < h
  · have ev : untV R s h = -1 := if_neg (by omega)
    rw [if_pos c, ip_ifF (by omega), ip_P, ev]
    exact ⟨rfl, hX, fun _ _ _ => rfl⟩
  · have ev : untV R s h = bO (FV R s h) (tiV R s (rn R).toNat) (pcP (tiV R s (rn R).toNat)) := if_pos ⟨⟨a1, a2⟩, by omega, by omega⟩
    have ht := tiV_16 (R := R) (s := s) hw
    rw [if_neg c, ip_ifT (by omega), ip_B]
    refine ip_tiedOf hw hx ?_
    rw [ev]
    generalize hte : tiV R s (rn R).toNat = t at ht ⊢
    obtain ⟨q1, q2, q3, q4, q5, q6⟩ := sq_all ht.1.1 ht.1.2 ht.2
    generalize hPe : pcP t = P at q1 q3 q4 q5 ⊢
    rw [ip_B]
    refine ip_keepsAside (fun τ2 w1 w2 => ?_)
    have hf2 : ∀ a k, ¬ mz a k → τ2 a k = τ1 a k := fun a k z => w2 a k (by unfold mz at z; omega)
    have hW2 : Wn R τ1 τ2 := ⟨hX.m hf2, fun k k0 k1 => by rw [w1 k k0 k1, w2 368 k (by omega)], hf2⟩
    rw [ip_B]
    refine ip_mono (Q := fun v τ3 => v = bO (FV R s h) t P ∧ Wn R τ1 τ3) ?_ (fun v τ3 e => ?_)
    · refine ip_Wg (fun k (q : Int × Int × Int) τ3 => ∃ i : Nat, i + k = P ∧ q.1 = bO (FV R s h) t i ∧ q.2.1 = sq t i ∧ ((q.2.2 = 1 ∧ 0 < k) ∨ (q.2.2 = 0 ∧ k = 0)) ∧ Wn R τ1 τ3) ?_ (k := P) ⟨0, Nat.zero_add _, rfl, rfl, Or.inl ⟨rfl, by omega⟩, hW2⟩
      intro k q τ3 ⟨i, b1, b2, b3, b4, b5⟩
      obtain ⟨v, x, more⟩ := q
      dsimp only at b2 b3 b4 ⊢
      subst b2 b3
      rcases b4 with ⟨m1, m2⟩ | ⟨m1, m2⟩
      · have hx0 := (q2 i).1
        have hbest := bO_is (F := FV R s h) (fun i => (q2 i).1.1) i
        have hv : bO (FV R s h) t i = -2 ∨ (0 ≤ bO (FV R s h) t i ∧ bO (FV R s h) t i < 65536) := by
          rcases hbest with ⟨g1, -⟩ | ⟨j, -, g2, -⟩
          · exact Or.inl g1
          · have := (q2 j).1; exact Or.inr (by omega)
        have e : bO (FV R s h) t (i + 1) = @ite Int ((bO (FV R s h) t i = -2 ∨ bn (sq t i) 18 < bn (bO (FV R s h) t i) 18) ∧ FV R s h (sq t i)) (Classical.propDecidable _) (sq t i) (bO (FV R s h) t i) := rfl
        rw [ip_ifF (by omega), ip_B]
        refine ip_mono (Q := fun y τ4 => y = bO (FV R s h) t (i + 1) ∧ Wn R τ1 τ4) ?_ (fun y τ4 e4 => ?_)
        · rw [ip_B]
          have tail : ∀ (hc : bO (FV R s h) t i = -2 ∨ bn (sq t i) 18 < bn (bO (FV R s h) t i) 18), ip (iB (iz_Model_fitsWithout 367 s (sq t i) h) fun x10 => if x10 = 0 then iP (bO (FV R s h) t i) else iP (sq t i)) (fun y τ4 => y = bO (FV R s h) t (i + 1) ∧ Wn R τ1 τ4) τ3 := by
            intro hc
            rw [ip_B]
            refine ip_fitsWithout b5 a1 a2 (by omega) (by omega) hx0.1 (by omega) (fun r τ4 hr u => ?_)
            rcases hr with ⟨r1, r2⟩ | ⟨r1, r2⟩
            · rw [ip_ifF (by omega), ip_P, e, if_pos ⟨hc, r2⟩]
              exact ⟨rfl, u⟩
            · rw [ip_ifT r1, ip_P, e, if_neg (fun z => r2 z.2)]
              exact ⟨rfl, u⟩
          by_cases d : bO (FV R s h) t i = -2
          · rw [ip_ifT d, ip_P]
            simp only [Sum.elim_inl]
            exact tail (Or.inl d)
          · rw [ip_ifF d, ip_B]
            refine ip_Mbits hx0.1 (by omega) ?_
            rw [ip_B]
            refine ip_Mbits (by omega) (by omega) ?_
            by_cases d2 : bn (bO (FV R s h) t i) 18 ≤ bn (sq t i) 18
            · rw [ip_ifT d2, ip_P]
              simp only [Sum.elim_inr]
              rw [ip_P, e, if_neg (fun z => by rcases z.1 with y | y <;> omega)]
              exact ⟨rfl, b5⟩
            · rw [ip_ifF d2, ip_P]
              simp only [Sum.elim_inl]
              exact tail (Or.inr (by omega))
        · rw [ip_A]
          refine ⟨⟨by omega, by omega⟩, ?_⟩
          rw [ip_B, ip_P, ip_B]
          have hn3 := q3 (i + 1)
          have es : ibAnd (sq t i - t) t = sq t (i + 1) := rfl
          rw [es]
          by_cases d : sq t (i + 1) = 0
          · rw [ip_ifT d, ip_P, ip_P]
            simp only [Sum.elim_inl]
            have hP1 : i + 1 = P := by
              by_cases z : i + 1 < P
              · have := hn3.mp d
                rw [Nat.mod_eq_of_lt z] at this
                omega
              · omega
            exact ⟨0, by omega, i + 1, by omega, e4.1, rfl, Or.inr ⟨trivial, rfl⟩, e4.2⟩
          · rw [ip_ifF d, ip_P, ip_P]
            simp only [Sum.elim_inl]
            have hP1 : i + 1 ≠ P := fun z => d (hn3.mpr (by rw [z, Nat.mod_self]))
            exact ⟨k - 1, by omega, i + 1, by omega, e4.1, rfl, Or.inl ⟨trivial, by omega⟩, e4.2⟩
      · rw [ip_ifT m1, ip_P]
        simp only [Sum.elim_inr]
        exact ⟨by rw [show i = P by omega], b5⟩
    · rw [ip_P]
      exact ⟨e.1, e.2.1, fun a k z => e.2.2.2 a k (fun y => z (Or.inr (Or.inr y)))⟩
theorem two_untie (hI : InvX R τ) (s h : Int) : two R (iz_Top_untie 0 s h) (iz_Model_untie 367 s h) τ := gv_two (gv_untie hI s h) (fun _ q _ => gv_Muntie q s h)
end
