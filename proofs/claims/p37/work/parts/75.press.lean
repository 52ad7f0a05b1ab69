/-! ===== the class pours ===== -/
def Cx (R : aRun) (ft fl ru : Nat) (τ : iMem) : Prop := RunC τ ru R ∧ FlB R fl τ ∧ FlE R fl τ ∧ FtI R ft τ
theorem FtM.frame {R : aRun} {ft : Nat} {τ τ' : iMem} (h : FtM R ft τ) (h5 : ∀ k, 5 ≤ k → k ≤ 7 → τ' ft k = τ ft k) (hf : ∀ a k, ft + 2 ≤ a → a ≤ ft + 7 → τ' a k = τ a k) : FtM R ft τ' := by
  unfold FtM at *
  rw [h5 5 (by omega) (by omega), h5 6 (by omega) (by omega), h5 7 (by omega) (by omega)]
  rcases h with h | ⟨h1, h2, h3, h4⟩
  · exact Or.inl h
  · refine Or.inr ⟨h1, h2, h3, fun k p k0 k1 p0 p1 => ?_⟩
    rw [hf _ _ (by omega) (by omega)]
    exact h4 k p k0 k1 p0 p1
theorem FtI.frame {R : aRun} {ft : Nat} {τ τ' : iMem} (h : FtI R ft τ) (hf : ∀ a k, ft ≤ a → a ≤ ft + 8 → τ' a k = τ a k) : FtI R ft τ' :=
  ⟨h.1.frame (fun k _ => hf _ _ (by omega) (by omega)), h.2.1.frame (fun k _ _ => hf _ _ (by omega) (by omega)) (fun a k _ _ => hf _ _ (by omega) (by omega)), h.2.2.frame (hf _ _ (by omega) (by omega)) (fun k => hf _ _ (by omega) (by omega))⟩
theorem Cx.frame {R : aRun} {ft fl ru : Nat} {τ τ' : iMem} (h : Cx R ft fl ru τ) (he : fl + 17 = ft) (hf : ∀ a k, (ru ≤ a ∧ a ≤ ru + 2) ∨ (fl ≤ a ∧ a ≤ ft + 8) → τ' a k = τ a k) : Cx R ft fl ru τ' :=
  ⟨h.1.frame (fun a k _ _ => hf a k (by omega)), h.2.1.frame (fun a k _ _ => hf a k (by omega)), h.2.2.1.frame (fun a k _ _ => hf a k (by omega)), h.2.2.2.frame (fun a k _ _ => hf a k (by omega))⟩
/-- the fitter's own steps keep it -/
theorem Cx.fit {R : aRun} {ft fl ru : Nat} {τ τ' : iMem} (h : Cx R ft fl ru τ) (hf : isFit ft fl ru) (hI : FtI R ft τ') (hk : ∀ a k, ¬ fw ft a k → τ' a k = τ a k) : Cx R ft fl ru τ' := by
  have h1 := ft_e hf
  have h2 := fl_a (ft_F hf)
  exact ⟨h.1.frame (fun a k _ _ => hk a k (by unfold fw; omega)), h.2.1.frame (fun a k _ _ => hk a k (by unfold fw; omega)), h.2.2.1.frame (fun a k _ _ => hk a k (by unfold fw; omega)), hI⟩
def isPress (pr ft fl ru ra sp : Nat) (nr : Int) : Prop := isFit ft fl ru ∧ (qm_rf pr 0 = ru ∧ qm_rf pr 1 = fl ∧ qm_rf pr 2 = ft ∧ qm_rf pr 3 = ra ∧ qm_rf pr 11 = sp ∧ qm_rf pr 12 = sp + 1) ∧ (iLen ra = nr ∧ iLen sp = 16 ∧ iLen (sp + 1) = 16) ∧ (∀ i : Int, 0 ≤ i → i < nr → qm_rf ra i.toNat = ra + 1 + i.toNat ∧ iLen (ra + 1 + i.toNat) = 12) ∧ ((ru + 2 < pr ∨ pr < ru) ∧ pr < fl ∧ ft + 8 < ra ∧ ra + nr.toNat < sp ∧ sp + 1 < 405 ∧ 5 ≤ nr)
theorem pr_F {pr ft fl ru ra sp : Nat} {nr : Int} (h : isPress pr ft fl ru ra sp nr) : isFit ft fl ru := h.1
theorem pr_0 {pr ft fl ru ra sp : Nat} {nr : Int} (h : isPress pr ft fl ru ra sp nr) : qm_rf pr 0 = ru := h.2.1.1
theorem pr_1 {pr ft fl ru ra sp : Nat} {nr : Int} (h : isPress pr ft fl ru ra sp nr) : qm_rf pr 1 = fl := h.2.1.2.1
theorem pr_2 {pr ft fl ru ra sp : Nat} {nr : Int} (h : isPress pr ft fl ru ra sp nr) : qm_rf pr 2 = ft := h.2.1.2.2.1
theorem pr_3 {pr ft fl ru ra sp : Nat} {nr : Int} (h : isPress pr ft fl ru ra sp nr) : qm_rf pr 3 = ra := h.2.1.2.2.2.1
theorem pr_11 {pr ft fl ru ra sp : Nat} {nr : Int} (h : isPress pr ft fl ru ra sp nr) : qm_rf pr 11 = sp := h.2.1.2.2.2.2.1
theorem pr_12 {pr ft fl ru ra sp : Nat} {nr : Int} (h : isPress pr ft fl ru ra sp nr) : qm_rf pr 12 = sp + 1 := h.2.1.2.2.2.2.2
theorem pr_l {pr ft fl ru ra sp : Nat} {nr : Int} (h : isPress pr ft fl ru ra sp nr) : iLen ra = nr := h.2.2.1.1
theorem pr_ls {pr ft fl ru ra sp : Nat} {nr : Int} (h : isPress pr ft fl ru ra sp nr) : iLen sp = 16 ∧ iLen (sp + 1) = 16 := h.2.2.1.2
theorem pr_row {pr ft fl ru ra sp : Nat} {nr : Int} (h : isPress pr ft fl ru ra sp nr) {i : Int} (h0 : 0 ≤ i) (h1 : i < nr) : qm_rf ra i.toNat = ra + 1 + i.toNat ∧ iLen (ra + 1 + i.toNat) = 12 := h.2.2.2.1 i h0 h1
theorem pr_o {pr ft fl ru ra sp : Nat} {nr : Int} (h : isPress pr ft fl ru ra sp nr) : (ru + 2 < pr ∨ pr < ru) ∧ pr < fl ∧ ft + 8 < ra ∧ ra + nr.toNat < sp ∧ sp + 1 < 405 ∧ 5 ≤ nr := h.2.2.2.2
theorem isPress_52 : isPress 52 70 53 1 79 320 240 := by
  refine ⟨isFit_70, ⟨by decide +kernel, by decide +kernel, by decide +kernel, by decide +kernel, by decide +kernel, by decide +kernel⟩, ⟨by decide +kernel, by decide +kernel, by decide +kernel⟩, fun i h0 h1 => ?_, by decide⟩
  have h : ∀ n : Nat, n < 240 → qm_rf 79 n = 79 + 1 + n ∧ (qm_kd (79 + 1 + n)).2 = 12 := by decide +kernel
  obtain ⟨a, b⟩ := h i.toNat (by omega)
  exact ⟨a, by unfold iLen; rw [b]; rfl⟩
theorem isPress_322 : isPress 322 343 326 323 352 358 5 := by
  refine ⟨isFit_343, ⟨by decide +kernel, by decide +kernel, by decide +kernel, by decide +kernel, by decide +kernel, by decide +kernel⟩, ⟨by decide +kernel, by decide +kernel, by decide +kernel⟩, fun i h0 h1 => ?_, by decide⟩
  have h : ∀ n : Nat, n < 5 → qm_rf 352 n = 352 + 1 + n ∧ (qm_kd (352 + 1 + n)).2 = 12 := by decide +kernel
  obtain ⟨a, b⟩ := h i.toNat (by omega)
  exact ⟨a, by unfold iLen; rw [b]; rfl⟩
/-- a row of a column -/
def rowC (R : aRun) (τ : iMem) (a : Nat) (c : Int → Int) : Prop := τ a 0 = c 0 ∧ τ a 1 = c 1 ∧ τ a 2 = c 2 ∧ τ a 3 = c 3 ∧ τ a 4 = c 4 ∧ τ a 5 = tx R (c 3) (c 4) ∧ τ a 6 = c 5 ∧ τ a 7 = ol R (c 3) (c 4) ∧ τ a 8 = sta R (c 3) (c 4) (c 5) (c 7) ∧ τ a 9 = c 6 ∧ τ a 10 = c 7 ∧ τ a 11 = c 8
def PrC (R : aRun) (pr ra : Nat) (nr : Int) (τ : iMem) (P : aP) : Prop := (τ pr 4 = pcn P ∧ τ pr 5 = ppg P ∧ τ pr 6 = pfr P ∧ τ pr 7 = pat P ∧ τ pr 8 = pca P) ∧ ∀ i : Int, 0 ≤ i → i < pcn P → i < nr → rowC R τ (ra + 1 + i.toNat) (pC P i)
theorem PrC.frame {R : aRun} {pr ra : Nat} {nr : Int} {τ τ' : iMem} {P : aP} (h : PrC R pr ra nr τ P) (h4 : ∀ k, 4 ≤ k → k ≤ 8 → τ' pr k = τ pr k) (hf : ∀ a k, ra < a → a ≤ ra + nr.toNat → τ' a k = τ a k) : PrC R pr ra nr τ' P := by
  refine ⟨⟨(h4 _ (by omega) (by omega)).trans h.1.1, (h4 _ (by omega) (by omega)).trans h.1.2.1, (h4 _ (by omega) (by omega)).trans h.1.2.2.1, (h4 _ (by omega) (by omega)).trans h.1.2.2.2.1, (h4 _ (by omega) (by omega)).trans h.1.2.2.2.2⟩, fun i h0 h1 h2 => ?_⟩
  have := h.2 i h0 h1 h2
  unfold rowC at *
  have e : ∀ k, τ' (ra + 1 + i.toNat) k = τ (ra + 1 + i.toNat) k := fun k => hf _ k (by omega) (by omega)
  rw [e, e, e, e, e, e, e, e, e, e, e, e]
  exact this
/-- what pouring writes beside the fitter -/
def prw (pr ra sp : Nat) (nr : Int) (a : Nat) (k : Int) : Prop := (a = pr ∧ 4 ≤ k ∧ k ≤ 10) ∨ (ra < a ∧ a ≤ ra + nr.toNat) ∨ a = sp ∨ a = sp + 1
section
variable {τ : iMem} {pr ft fl ru ra sp : Nat} {nr : Int} {R : aRun} {P : aP} {s : Int}
set_option maxHeartbeats 2000000 in
theorem ip_putColumn {i to h lv : Int} {Q : Int → iMem → Prop} (hp : isPress pr ft fl ru ra sp nr) (hw : WF R) (hx : Cx R ft fl ru τ) (hP : PrC R pr ra nr τ P) (hk : okP R s P) (hcn : pcn P < 100000) (ht : pat P ≤ to) (ht2 : to ≤ bg R (s + 1)) (hl : lo R (pat P) to (pca P) h ≠ -1) (hh : 0 ≤ h) (hh2 : h ≤ 2000) (hlv : lv = 0 ∨ lv = 1)
    (hQ : ∀ r τ', (r = 1 ∧ (pat P < to ∨ 0 < sta R (pat P) to (pca P) h)) ∨ (r = 0 ∧ ¬ (pat P < to ∨ 0 < sta R (pat P) to (pca P) h)) → PrC R pr ra nr τ' (putP R s i to h lv P) → (∀ a k, ¬ ((a = pr ∧ (k = 4 ∨ k = 7 ∨ k = 8)) ∨ (ra < a ∧ a ≤ ra + nr.toNat)) → τ' a k = τ a k) → Q r τ') : ip (iz_Press_putColumn pr s i to h lv) Q τ := by
  have hf := pr_F hp
  have hff := ft_F hf
  have hfe := ft_e hf
  have hfa := fl_a hff
  have ho := pr_o hp
  have hr := fl_r hff
  have hb := bg_step hw s
  obtain ⟨k1, k2, k3, k4, k5, k6, k7⟩ := hk
  obtain ⟨x1, x2, x3, x4⟩ := id hx
  obtain ⟨⟨p4, p5, p6, p7, p8⟩, pR⟩ := hP
  have hH := hw.2.1.2.1
  have a1 := ol_in hw (p := pat P) (e := to) (by omega) (by omega)
  have a2 := tx_in hw (p := pat P) (e := to) (by omega) (by omega)
  have a3 := lo_in hw (p := pat P) (e := to) (c := pca P) (h := h) (by omega) (by omega) k6.1 k6.2 hh2
  unfold iz_Press_putColumn
  rw [pr_1 hp, pr_2 hp, pr_3 hp, pr_0 hp]
  rw [ip_B, ip_Gt, p7, ip_B, ip_ownLines hff hw x2 (by omega) (by omega), ip_B, ip_Gt, p7, ip_B, ip_Gt, p8, ip_B, ip_leftOver hf hw x2 x4.1 (by omega) (by omega) (by omega) k6.1 (by omega) hh hh2, ip_B, ip_max, ip_B, ip_Gt, p8, ip_A, ip_A]
  have em : (if 0 < lo R (pat P) to (pca P) h then lo R (pat P) to (pca P) h else 0) = lo R (pat P) to (pca P) h := by split <;> omega
  rw [em]
  refine ⟨⟨by omega, by omega⟩, ⟨by omega, by omega⟩, ?_⟩
  have es : ol R (pat P) to + pca P - lo R (pat P) to (pca P) h = sta R (pat P) to (pca P) h := rfl
  rw [es, ip_B, ip_P, ip_B, ip_Gt, p7, ip_B]
  refine ip_mono (Q := fun r τ' => τ' = τ ∧ ((r = 1 ∧ (pat P < to ∨ 0 < sta R (pat P) to (pca P) h)) ∨ (r = 0 ∧ ¬ (pat P < to ∨ 0 < sta R (pat P) to (pca P) h)))) ?_ ?_
  · rw [ip_B]
    by_cases c1 : pat P < to
    · rw [ip_ifT c1, ip_P]
      simp only [Sum.elim_inl, ip_P]
      exact ⟨trivial, Or.inl ⟨trivial, Or.inl c1⟩⟩
    · rw [ip_ifF c1]
      by_cases c2 : sta R (pat P) to (pca P) h ≤ 0
      · rw [ip_ifT c2, ip_P]
        simp only [Sum.elim_inr, ip_P]
        exact ⟨trivial, Or.inr ⟨trivial, by omega⟩⟩
      · rw [ip_ifF c2, ip_P]
        simp only [Sum.elim_inl, ip_P]
        exact ⟨trivial, Or.inl ⟨trivial, Or.inr (by omega)⟩⟩
  · intro r τ' ⟨e, hr01⟩
    subst e
    rw [ip_B, ip_Gt, p4, ip_B]
    have fin : ∀ τ2 : iMem, (∀ a k, ¬ (ra < a ∧ a ≤ ra + nr.toNat) → τ2 a k = τ' a k) → (∀ j : Int, 0 ≤ j → j < pcn P + 1 → j < nr → rowC R τ2 (ra + 1 + j.toNat) (pC (putP R s i to h lv P) j)) → ip (iB (iGt pr 4) fun x25 => iA (x25 + 1) fun y4 => iB (iPt pr 4 y4) fun _ => iB (iPt pr 7 to) fun _ => iB (iPt pr 8 (lo R (pat P) to (pca P) h)) fun _ => iB (iZ r) fun x26 => iP x26) Q τ2 := by
      intro τ2 w1 w2
      rw [ip_B, ip_Gt, w1 pr 4 (by omega), p4, ip_A]
      refine ⟨⟨by omega, by omega⟩, ?_⟩
      simp only [ip_B, ip_Pt, ip_Z, ip_P]
      refine ⟨by omega, hQ r _ hr01 ⟨⟨?_, ?_, ?_, ?_, ?_⟩, fun j j0 j1 j2 => ?_⟩ (fun a k hk => ?_)⟩
      · simp (disch := omega) only [iu_ne, iu_eq]; rfl
      · simp (disch := omega) only [iu_ne]; rw [w1 pr 5 (by omega)]; exact p5
      · simp (disch := omega) only [iu_ne]; rw [w1 pr 6 (by omega)]; exact p6
      · simp (disch := omega) only [iu_ne, iu_eq]; rfl
      · rw [iu_eq]; rfl
      · have e : ∀ k, iu (iu (iu τ2 pr 4 (pcn P + 1)) pr 7 to) pr 8 (lo R (pat P) to (pca P) h) (ra + 1 + j.toNat) k = τ2 (ra + 1 + j.toNat) k := fun k => by simp (disch := omega) only [iu_ne]
        have := w2 j j0 j1 j2
        unfold rowC at *
        rw [e, e, e, e, e, e, e, e, e, e, e, e]
        exact this
      · simp (disch := omega) only [iu_ne]
        exact w1 a k (by omega)
    have old : ∀ j f, j ≠ pcn P → pC (putP R s i to h lv P) j f = pC P j f := fun j f hj => if_neg hj
    rw [ip_ifF (by omega)]
    simp only [ip_B]
    rw [ip_Gt, p4, pr_l hp]
    by_cases c : nr ≤ pcn P
    · rw [ip_ifT c, ip_P]
      have := fin τ' (fun _ _ _ => rfl) (fun j j0 j1 j2 => by
        have := pR j j0 (by omega) j2
        unfold rowC at *
        rw [old _ _ (by omega), old _ _ (by omega), old _ _ (by omega), old _ _ (by omega), old _ _ (by omega), old _ _ (by omega), old _ _ (by omega), old _ _ (by omega), old _ _ (by omega)]
        exact this)
      simp only [ip_B] at this
      exact this
    · have hrow := pr_row hp (i := pcn P) k1 (by omega)
      rw [ip_ifF c]
      simp only [ip_B]
      rw [ip_Gt, p4, ip_Lr, pr_l hp]
      refine ⟨⟨by omega, by omega⟩, ?_⟩
      rw [hrow.1]
      generalize hro : ra + 1 + (pcn P).toNat = ro at *
      simp (disch := omega) only [ip_Gt, ip_St, hrow.2, iu_ne, iu_eq, p4, p5, p6, p7, p8]
      repeat refine And.intro (by omega) ?_
      have hB1 : FlB R fl (iu (iu (iu (iu (iu τ' ro 0 (ppg P)) ro 1 i) ro 2 s) ro 3 (pat P)) ro 4 to) := x2.frame (fun a k _ _ => by simp (disch := omega) only [iu_ne])
      rw [ip_text hff hw hB1 (by omega) (by omega)]
      simp (disch := omega) only [ip_Gt, ip_St, hrow.2, iu_ne, iu_eq, p4, p5, p6, p7, p8]
      repeat refine And.intro (by omega) ?_
      rw [ip_setting hr (by omega) (by omega)]
      have e1 : τ' (ru + 1) 1 = rs R 1 := x1.2.1 1 (by omega) (by omega)
      simp (disch := omega) only [ip_Gt, ip_St, ip_A, ip_B, hrow.2, iu_ne, iu_eq, p4, p5, p6, p7, p8, e1, iR]
      repeat refine And.intro (by omega) ?_
      rw [ip_ifP]
      have elv : (if lv = 0 then 0 else 1) = lv := by
        rcases hlv with q | q
        · rw [q]; rfl
        · rw [q]; rfl
      rw [elv]
      simp only [ip_B, ip_St, ip_P, hrow.2]
      refine ⟨⟨⟨by omega, by omega⟩, by omega⟩, ?_⟩
      have := fin (iu (iu (iu (iu (iu (iu (iu (iu (iu (iu (iu (iu τ' ro 0 (ppg P)) ro 1 i) ro 2 s) ro 3 (pat P)) ro 4 to) ro 5 (tx R (pat P) to)) ro 6 (pca P)) ro 7 (ol R (pat P) to)) ro 8 (sta R (pat P) to (pca P) h)) ro 9 (rs R 1 - pfr P)) ro 10 h) ro 11 lv) (fun a k hk => by simp (disch := omega) only [iu_ne]) (fun j j0 j1 j2 => by
        by_cases d : j = pcn P
        · subst d
          have e : ∀ f, pC (putP R s i to h lv P) (pcn P) f = (if f = 0 then ppg P else if f = 1 then i else if f = 2 then s else if f = 3 then pat P else if f = 4 then to else if f = 5 then pca P else if f = 6 then rs R 1 - pfr P else if f = 7 then h else lv) := fun f => if_pos rfl
          unfold rowC
          rw [e, e, e, e, e, e, e, e, e, hro]
          simp (disch := omega) only [iu_ne, iu_eq]
          exact ⟨rfl, rfl, rfl, rfl, rfl, rfl, rfl, rfl, rfl, rfl, rfl, rfl⟩
        · have := pR j j0 (by omega) j2
          unfold rowC at *
          rw [old _ _ d, old _ _ d, old _ _ d, old _ _ d, old _ _ d, old _ _ d, old _ _ d, old _ _ d, old _ _ d]
          simp (disch := omega) only [iu_ne]
          exact this)
      simp only [ip_B, ip_Gt, ip_A, ip_Pt, ip_Z, ip_P, iR] at this
      (try simp only [ip_B, ip_Gt, ip_A, ip_Pt, ip_Z, ip_P, iR])
      exact this
end
