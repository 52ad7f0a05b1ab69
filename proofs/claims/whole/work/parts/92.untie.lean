/-! ===== untie ===== -/
section
variable {τ : iMem} {R : aRun} {m : Int}
theorem RU_pS {p : Int} : pS (RU R m) p = pS R p := by
  unfold pS
  rw [RU_sc, RU_ow]
theorem RU_nc {p : Int} : nc (RU R m) p = nc R p := by
  unfold nc
  exact sI_congr (fun i _ _ => by (try dsimp only); rw [RU_pN])
theorem RU_sbk {s : Int} : sbk (RU R m) s = sbk R s := by
  unfold sbk
  exact sI_congr (fun i _ _ => by (try dsimp only); rw [RU_sc])
theorem RU_sh {s : Int} : sh (RU R m) s = sh R s := by
  unfold sh
  rw [RU_sbk, RU_o (by omega)]
theorem RU_FlB {fl : Nat} (h : FlB R fl τ) : FlB (RU R m) fl τ := by
  obtain ⟨h1, h2, ⟨h3, h4, h5, h6⟩, h7, h8⟩ := h
  refine ⟨by rw [RU_np]; exact h1, by rw [RU_ns]; exact h2, ⟨fun q q0 q1 => ?_, fun q q0 q1 => ?_, by rw [RU_np, RU_nc]; exact h5, fun q q0 q1 q2 => ?_⟩, fun b b0 b1 => by rw [RU_fs]; exact h7 b b0 b1, fun s s0 s1 => ?_⟩
  · rw [RU_ow, RU_nu, RU_pH, RU_pG, RU_pN, RU_pS, RU_pT]
    exact h3 q q0 (by rw [RU_np] at q1; exact q1)
  · rw [RU_hT, RU_lT, RU_ll]
    exact h4 q q0 (by rw [RU_np] at q1; exact q1)
  · rw [RU_nc]
    exact h6 q q0 (by rw [RU_np] at q1; exact q1) (by rw [RU_pN] at q2; exact q2)
  · rw [RU_bg, RU_bg, RU_sh]
    exact h8 s s0 (by rw [RU_ns] at s1; exact s1)
theorem ip_bc {x : Int} {Q : Int → iMem → Prop} : ip (iz_Integer_bitCount x) Q τ ↔ Q (ibCnt x) τ := ip_eq rfl
/-- the BLOCKS tied in a SECTION, as bits -/
def tiV (R : aRun) (s : Int) : Nat → Int
  | 0 => 0
  | n + 1 => if (sc R (n : Int) = s ∧ rc R (n : Int) 4 = 1) ∧ bn (tiV R s n) 18 < 8 then ibOr (tiV R s n) (ibShl 1 (ibAnd (n : Int) 31)) else tiV R s n
theorem tiV_in {s : Int} : ∀ n : Nat, n ≤ 16 → (0 ≤ tiV R s n ∧ tiV R s n < ((2 ^ n : Nat) : Int)) ∧ bn (tiV R s n) 18 ≤ 8 := by
  intro n
  induction n with
  | zero => intro _; exact ⟨⟨Int.le_refl _, by show (0 : Int) < 1; omega⟩, by show bn 0 18 ≤ 8; decide⟩
  | succ n ih =>
    intro h
    obtain ⟨⟨a, b⟩, c⟩ := ih (by omega)
    have hp : (2 : Nat) ^ (n + 1) = 2 * 2 ^ n := by rw [Nat.pow_succ]; omega
    have b' : tiV R s n < ((2 ^ (n + 1) : Nat) : Int) := by omega
    have e : tiV R s (n + 1) = if (sc R (n : Int) = s ∧ rc R (n : Int) 4 = 1) ∧ bn (tiV R s n) 18 < 8 then ibOr (tiV R s n) (ibShl 1 (ibAnd (n : Int) 31)) else tiV R s n := rfl
    rw [e]
    by_cases d : (sc R (n : Int) = s ∧ rc R (n : Int) 4 = 1) ∧ bn (tiV R s n) 18 < 8
    · rw [if_pos d]
      have st := ib_set (x := tiV R s n) (i := (n : Int)) (n := n + 1) (by omega) a b' (by omega) (by omega)
      have sb := bn_set st.2 18
      refine ⟨st.1, ?_⟩
      have : (if (0 ≤ (n : Int) ∧ (n : Int) < (18 : Nat)) ∧ bt (tiV R s n) n = false then (1 : Int) else 0) ≤ 1 := by split <;> omega
      rw [show (((18 : Nat)) : Int) = 18 from rfl] at sb this
      omega
    · rw [if_neg d]
      exact ⟨⟨a, b'⟩, c⟩
theorem tiV_16 {s : Int} (hw : WF R) : (0 ≤ tiV R s (rn R).toNat ∧ tiV R s (rn R).toNat < 65536) ∧ bn (tiV R s (rn R).toNat) 18 ≤ 8 := by
  have hn := hw.1
  have h := tiV_in (R := R) (s := s) (rn R).toNat (by omega)
  have : (2 : Nat) ^ (rn R).toNat ≤ 2 ^ 16 := Nat.pow_le_pow_right (by decide) (by omega)
  exact ⟨⟨h.1.1, by omega⟩, h.2⟩
theorem tiV_n {s : Int} (hw : WF R) {b : Int} (h0 : 0 ≤ b) (h1 : b ≤ rn R) : (0 ≤ tiV R s b.toNat ∧ tiV R s b.toNat < 65536) ∧ bn (tiV R s b.toNat) 18 ≤ 8 := by
  have hn := hw.1
  have h := tiV_in (R := R) (s := s) b.toNat (by omega)
  have : (2 : Nat) ^ b.toNat ≤ 2 ^ 16 := Nat.pow_le_pow_right (by decide) (by omega)
  exact ⟨⟨h.1.1, by omega⟩, h.2⟩
theorem tiV_s {s b : Int} (h0 : 0 ≤ b) : tiV R s (b + 1).toNat = if (sc R b = s ∧ rc R b 4 = 1) ∧ bn (tiV R s b.toNat) 18 < 8 then ibOr (tiV R s b.toNat) (ibShl 1 (ibAnd b 31)) else tiV R s b.toNat := by
  rw [show (b + 1).toNat = b.toNat + 1 by omega]
  show (if (sc R ((b.toNat : Nat) : Int) = s ∧ rc R ((b.toNat : Nat) : Int) 4 = 1) ∧ bn (tiV R s b.toNat) 18 < 8 then ibOr (tiV R s b.toNat) (ibShl 1 (ibAnd ((b.toNat : Nat) : Int) 31)) else tiV R s b.toNat) = _
  rw [show ((b.toNat : Nat) : Int) = b by omega]
theorem ip_tiesIn {s : Int} {Q : Int → iMem → Prop} (hw : WF R) (hR : RunC τ 323 R) (hQ : Q (tiV R s (rn R).toNat) τ) : ip (iz_Flow_tiesIn 326 s) Q τ := by
  have hn := hw.1
  unfold iz_Flow_tiesIn
  rw [fl_3 (ft_F (pr_F isPress_322)), ip_B]
  refine ip_mono (Q := fun v τ1 => v = tiV R s (rn R).toNat ∧ τ1 = τ) ?_ (fun v τ1 e => by rw [ip_P, e.1, e.2]; exact hQ)
  refine ip_W (fun (q : Int × Int × Int) τ1 => τ1 = τ ∧ (0 ≤ q.2.2 ∧ q.2.2 ≤ rn R) ∧ q.1 = tiV R s q.2.2.toNat ∧ q.2.1 = sc R q.2.2) (fun q _ => (rn R - q.2.2).toNat) ?_ ⟨rfl, ⟨Int.le_refl _, hn.1⟩, rfl, rfl⟩
  intro q τ1 ⟨et, b1, b2, b3⟩
  obtain ⟨v, p, b⟩ := q
  subst et
  dsimp only at b1 b2 b3 ⊢
  subst b2 b3
  rw [ip_B, ip_Gt, hR.1]
  by_cases c : rn R ≤ b
  · rw [ip_ifT c, ip_P]
    exact ⟨by rw [show b = rn R by omega], rfl⟩
  · have hin := tiV_n (R := R) (s := s) hw b1.1 b1.2
    have hsc := sc_in (R := R) b1.1
    rw [ip_ifF c, ip_B]
    refine ip_mono (Q := fun x τ2 => τ2 = τ1 ∧ ((x = 1 ∧ sc R b = s ∧ rc R b 4 = 1) ∨ (x = 0 ∧ ¬ (sc R b = s ∧ rc R b 4 = 1)))) ?_ (fun x τ2 e => ?_)
    · rw [ip_B]
      by_cases d : sc R b = s
      · rw [ip_ifF (by omega), ip_B, ip_cellC r_323 hR hn.2 b1.1 (by omega) (by omega) (by omega)]
        by_cases d2 : rc R b 4 = 1
        · rw [ip_ifF (by omega), ip_P]
          simp only [Sum.elim_inr, ip_P]
          exact ⟨trivial, Or.inl ⟨trivial, d, d2⟩⟩
        · rw [ip_ifT d2, ip_P]
          simp only [Sum.elim_inl, ip_P]
          exact ⟨trivial, Or.inr ⟨trivial, fun z => d2 z.2⟩⟩
      · rw [ip_ifT d, ip_P]
        simp only [Sum.elim_inl, ip_P]
        exact ⟨trivial, Or.inr ⟨trivial, fun z => d z.1⟩⟩
    · obtain ⟨et, e⟩ := e
      subst et
      rw [ip_B]
      refine ip_mono (Q := fun y τ3 => τ3 = τ2 ∧ y = tiV R s (b + 1).toNat) ?_ (fun y τ3 e2 => ?_)
      · rw [tiV_s b1.1]
        rcases e with ⟨x1, x2⟩ | ⟨x1, x2⟩
        · rw [ip_ifF (by omega), ip_B, ip_bc, cn_bn hin.1.1 hin.1.2]
          by_cases d : 8 ≤ bn (tiV R s b.toNat) 18
          · rw [ip_ifT d, ip_P, if_neg (by omega)]
            exact ⟨rfl, rfl⟩
          · rw [ip_ifF d, ip_B, ip_P, ip_P, if_pos ⟨x2, by omega⟩]
            exact ⟨rfl, rfl⟩
        · rw [ip_ifT x1, ip_P, if_neg (fun z => x2 z.1)]
          exact ⟨rfl, rfl⟩
      · obtain ⟨et, e2⟩ := e2
        subst et
        rw [ip_B, ip_cellC r_323 hR hn.2 b1.1 (by omega) (by omega) (by omega), ip_B]
        have hs := sc_s (R := R) b1.1
        refine ip_mono (Q := fun y τ4 => τ4 = τ3 ∧ y = sc R (b + 1)) ?_ (fun z τ4 e3 => ?_)
        · by_cases d : rc R b 0 = 4
          · rw [ip_ifF (by omega), ip_A]
            refine ⟨⟨by omega, by omega⟩, ?_⟩
            rw [ip_B, ip_P, ip_P]
            exact ⟨rfl, by rw [if_pos d] at hs; omega⟩
          · rw [ip_ifT d, ip_P]
            exact ⟨rfl, by rw [if_neg d] at hs; omega⟩
        · obtain ⟨et, e3⟩ := e3
          subst et
          rw [ip_A]
          refine ⟨⟨by omega, by omega⟩, ?_⟩
          rw [ip_B, ip_P, ip_P]
          simp only [Sum.elim_inl]
          exact ⟨⟨trivial, ⟨by omega, by omega⟩, e2, e3⟩, by omega⟩
def RunU (R : aRun) (τ : iMem) : Prop := τ 323 0 = rn R ∧ (∀ k, 0 ≤ k → k < 8 → τ 324 k = rs R k) ∧ ∀ b w, 0 ≤ b → b < rn R → 0 ≤ w → w < 16 → w ≠ 4 → τ 325 (16 * b + w) = rc R b w
theorem RunU_of (h : RunC τ 323 (RU R m)) : RunU R τ := ⟨h.1, h.2.1, fun b w b0 b1 w0 w1 w4 => (h.2.2 b w b0 b1 w0 w1).trans (RU_o w4)⟩
theorem RunU_C (h : RunC τ 323 R) : RunU R τ := ⟨h.1, h.2.1, fun b w b0 b1 w0 w1 _ => h.2.2 b w b0 b1 w0 w1⟩
def FV (R : aRun) (s h x : Int) : Prop := 0 ≤ be (RU R x) s h (rs R 0).toNat (bg R s)
/-- while some are tried -/
def Un (R : aRun) (τ0 τ : iMem) : Prop := InvX R τ ∧ RunU R τ ∧ FlB R 326 τ ∧ ∀ a k, a < 322 ∨ 366 < a → τ a k = τ0 a k
theorem ip_fitsUntied {τ0 : iMem} {s h x : Int} {Q : Int → iMem → Prop} (hU : Un R τ0 τ) (s0 : 0 ≤ s) (s1 : s < ns R) (h0 : 0 ≤ h) (h1 : h ≤ 2000) (x0 : 0 ≤ x) (x1 : x < 2147483648)
    (hQ : ∀ r τ', (r = 1 ∧ FV R s h x) ∨ (r = 0 ∧ ¬ FV R s h x) → Un R τ0 τ' → Q r τ') : ip (iz_Top_fitsUntied 0 s h x) Q τ := by
  obtain ⟨hI, hU, hB, hF⟩ := hU
  have hw := hI.1
  have hn := hw.1
  have hR := hI.2.1.1
  have hS := hw.2.1.1
  have hw' := RU_wf (m := x) hw
  unfold iz_Top_fitsUntied
  rw [t_0, t_7, p_0, pr_2 isPress_322, ip_B]
  refine ip_mono (Q := fun _ τ1 => RunC τ1 323 (RU R x) ∧ (∀ a k, a ≠ 325 → τ1 a k = τ a k)) ?_ (fun _ τ1 e => ?_)
  · refine ip_W (fun i τ1 => (0 ≤ i ∧ i ≤ rn R) ∧ (∀ a k, a ≠ 325 → τ1 a k = τ a k) ∧ (∀ b w, 0 ≤ b → b < rn R → 0 ≤ w → w < 16 → (w ≠ 4 ∨ b < i) → τ1 325 (16 * b + w) = rc (RU R x) b w)) (fun i _ => (rn R - i).toNat) ?_ ⟨⟨Int.le_refl _, hn.1⟩, fun _ _ _ => rfl, fun b w b0 b1 w0 w1 hh => ?_⟩
    · intro i τ1 ⟨b1, b2, b3⟩
      have hR1 : RunC τ1 1 R := hR.frame (fun a k _ _ => b2 a k (by omega))
      rw [ip_B, ip_Gt, hR1.1]
      by_cases c : rn R ≤ i
      · rw [ip_ifT c, ip_P]
        simp only [Sum.elim_inr]
        refine ⟨⟨?_, fun k k0 k1 => ?_, fun b w b0 b1' w0 w1 => b3 b w b0 b1' w0 w1 (Or.inr (by have : rn (RU R x) = rn R := rfl; omega))⟩, b2⟩
        · rw [b2 _ _ (by omega)]; exact hU.1
        · rw [b2 _ _ (by omega)]; exact hU.2.1 k k0 k1
      · rw [ip_ifF c, ip_B, ip_P, ib_test x0 x1 b1.1 (by omega), ip_B]
        refine ip_mono (Q := fun v τ2 => v = rc (RU R x) i 4 ∧ τ2 = τ1) ?_ (fun v τ2 e => ?_)
        · by_cases d : bt x i = true
          · rw [if_pos d, ip_ifF (by omega), ip_P, RU_rc, if_pos ⟨rfl, d⟩]
            exact ⟨rfl, rfl⟩
          · rw [if_neg d, ip_ifT (by omega), ip_B, ip_cellC isRun_1 hR1 hn.2 b1.1 (by omega) (by omega) (by omega), ip_P, RU_rc, if_neg (fun z => d z.2)]
            exact ⟨rfl, rfl⟩
        · obtain ⟨ev, et⟩ := e
          subst et ev
          rw [ip_B, ip_putCell r_323 (by omega) b1.1 (by omega) (by omega) (by omega), ip_A]
          refine ⟨⟨by omega, by omega⟩, ?_⟩
          rw [ip_B, ip_P, ip_P]
          simp only [Sum.elim_inl]
          refine ⟨⟨⟨by omega, by omega⟩, fun a k ha => ?_, fun b w b0 b1' w0 w1 hh => ?_⟩, by omega⟩
          · rw [iu_ne (Or.inl ha)]; exact b2 a k ha
          · by_cases z : b = i ∧ w = 4
            · obtain ⟨z1, z2⟩ := z
              subst z1 z2
              rw [show 16 * b + 4 = b * 16 + 4 by omega]
              exact iu_eq
            · rw [iu_ne (Or.inr (by omega))]
              exact b3 b w b0 b1' w0 w1 (by omega)
    · rcases hh with hh | hh
      · exact (hU.2.2 b w b0 b1 w0 w1 hh).trans (RU_o hh).symm
      · omega
  · obtain ⟨e1, e2⟩ := e
    have hB1 : FlB (RU R x) 326 τ1 := RU_FlB (hB.frame (fun a k _ _ => e2 a k (by omega)))
    unfold iz_Press_mark
    rw [ip_B, pr_1 isPress_322, pr_2 isPress_322, ip_B]
    refine ip_markEnds (ft_F (pr_F isPress_322)) hw' e1 hB1 (fun τ2 w1 w2 => ?_)
    have hC2 : RunC τ2 323 (RU R x) := e1.frame (fun a k _ _ => w2 a k (by omega))
    have hB2 : FlB (RU R x) 326 τ2 := by
      obtain ⟨g1, g2, g3, g4, g5⟩ := hB1
      refine ⟨by rw [w2 _ _ (by omega)]; exact g1, by rw [w2 _ _ (by omega)]; exact g2, g3.frame (w2 _ _ (by omega)) (fun a k a1 a2 a3 _ _ _ => w2 a k (by omega)), fun b b0 b1 => by rw [w2 _ _ (by omega)]; exact g4 b b0 b1, fun s s0 s1 => ?_⟩
      rw [w2 _ _ (by omega), w2 (326 + 14) s (by omega), w2 (326 + 15) s (by omega)]
      exact g5 s s0 s1
    rw [ip_B]
    refine ip_forget (pr_F isPress_322) hw' hC2 (hI.2.2.1.2.1.frame (by rw [w2 _ _ (by omega), e2 _ _ (by omega)]) (fun k => by rw [w2 _ _ (by omega), e2 _ _ (by omega)])) (fun τ3 v1 v2 => ?_)
    rw [ip_P]
    have hC3 : RunC τ3 323 (RU R x) := hC2.frame (fun a k _ _ => v2 a k (by omega))
    have hB3 : FlB (RU R x) 326 τ3 := hB2.frame (fun a k _ _ => v2 a k (by omega))
    have hE3 : FlE (RU R x) 326 τ3 := w1.frame (fun a k _ _ => v2 a k (by omega))
    have f3 : ∀ a k, a < 322 ∨ 366 < a → τ3 a k = τ a k := fun a k z => by rw [v2 a k (by omega), w2 a k (by omega), e2 a k (by omega)]
    rw [ip_B, ip_settingC isRun_1 (hR.frame (fun a k _ _ => f3 a k (by omega))) (by omega) (by omega), ip_B]
    refine ip_fitsAll (pr_F isPress_322) hw' hB3 hE3 v1 s0 (by rw [RU_ns]; exact s1) h0 h1 (by omega) (by omega) (fun r τ4 hr u1 u2 => ?_)
    rw [RU_bg] at hr
    rw [ip_B, ip_Z]
    refine ⟨by omega, ?_⟩
    rw [ip_P]
    have f4 : ∀ a k, a < 322 ∨ 366 < a → τ4 a k = τ a k := fun a k z => by rw [u2 a k (by unfold fw; omega), f3 a k z]
    have hB4 : FlB (RU R x) 326 τ4 := hB3.frame (fun a k _ _ => u2 a k (by unfold fw; omega))
    have hC4 : RunC τ4 323 (RU R x) := hC3.frame (fun a k _ _ => u2 a k (by unfold fw; omega))
    have hB5 : FlB R 326 τ4 := by
      have back : ∀ {y : Int} {τ' : iMem}, FlB (RU R y) 326 τ' → FlB R 326 τ' := by
        intro y τ' g
        obtain ⟨h1, h2, ⟨h3, h4, h5, h6⟩, h7, h8⟩ := g
        simp only [RU_np, RU_ns, RU_ow, RU_nu, RU_pH, RU_pG, RU_pN, RU_pS, RU_pT, RU_hT, RU_lT, RU_ll, RU_nc, RU_fs, RU_bg, RU_sh] at h1 h2 h3 h4 h5 h6 h7 h8
        exact ⟨h1, h2, ⟨h3, h4, h5, h6⟩, h7, h8⟩
      exact back hB4
    refine hQ r τ4 (by unfold FV; omega) ⟨hI.b ⟨hB5.z hw, u1.l, ?_⟩ f4, RunU_of hC4, hB5, fun a k z => (f4 a k z).trans (hF a k z)⟩
    rw [u2 322 5 (by unfold fw; omega), u2 322 6 (by unfold fw; omega), v2 322 5 (by omega), v2 322 6 (by omega), w2 322 5 (by omega), w2 322 6 (by omega), e2 322 5 (by omega), e2 322 6 (by omega)]
    exact hI.2.2.1.2.2
end
