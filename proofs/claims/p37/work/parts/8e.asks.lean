section
variable {τ : iMem} {R : aRun}
theorem gv_go {m : iM Int} {v : Int} {τ1 : iMem} (hf : ∀ a k, ¬ zw a k → τ1 a k = τ a k) (g : gv R m v τ1) : ip m (fun r τ2 => r = v ∧ InvX R τ2 ∧ ∀ a k, ¬ zw a k → τ2 a k = τ a k) τ1 :=
  ip_mono g (fun _ _ h => ⟨h.1, h.2.1, fun a k z => (h.2.2 a k z).trans (hf a k z)⟩)
theorem InvX.fit {τ' : iMem} (h : InvX R τ) (h9 : τ 0 9 = 1) (hI : FtI R 70 τ') (hk : ∀ a k, ¬ fw 70 a k → τ' a k = τ a k) : InvX R τ' := by
  obtain ⟨a1, a2, a3, a4, a5, a6, a7⟩ := h.2.1
  have e9 := hk 0 9 (by unfold fw; omega)
  have e10 := hk 0 10 (by unfold fw; omega)
  have hx := (a6 h9).fit (pr_F isPress_52) hI hk
  refine ⟨h.1, ⟨hx.1, hx.2.1.z h.1, hI.l, by rw [e9]; exact a4, by rw [e10]; exact a5, fun _ => hx, fun q => ⟨by rw [e9]; exact h9, (a7 (by rw [← e10]; exact q)).2.frame (fun a k z => hk a k (by have : (240 : Int).toNat = 240 := rfl; unfold fw; omega))⟩⟩, h.2.2.frame (fun a k _ => hk a k (by unfold fw; omega))⟩
theorem fw_zw {a : Nat} {k : Int} (h : ¬ zw a k) : ¬ fw 70 a k := by unfold zw qw mz at h; unfold fw; omega
/-- asked of a SECTION and a HEIGHT -/
theorem gv_asks (hI : InvX R τ) {s h : Int} {m : iM Int} {v : Int} (h1 : 0 ≤ s → s < ns R → 0 ≤ h → h ≤ 2000 → ∀ τ1, InvX R τ1 → τ1 0 9 = 1 → Cx R 70 53 1 τ1 → gv R m v τ1)
    (h2 : ¬ ((0 ≤ s ∧ s < ns R) ∧ 0 ≤ h ∧ h ≤ 2000) → v = -1) : gv R (iB (iz_Top_asks 0 s h) fun x1 => if ¬ x1 = 0 then m else iP (-1)) v τ := by
  unfold gv
  rw [ip_B]
  unfold iz_Top_asks
  by_cases c1 : s < 0
  · rw [ip_ifT c1, ip_P, ip_ifF (by omega), ip_P]
    exact ⟨(h2 (by omega)).symm, hI, fun _ _ _ => rfl⟩
  · rw [ip_ifF c1, ip_B, ip_K]
    refine ip_laidOut hI.1 hI.2.1 (fun τ1 w1 w2 w3 w4 => ⟨t_k, ?_⟩)
    have hf : ∀ a k, ¬ zw a k → τ1 a k = τ a k := fun a k h => w4 a k (fun z => h (Or.inl z))
    have hX := hI.c w1 w4
    rw [ip_B, ip_Gt, pr_1 isPress_52, w3.2.1.2.1]
    by_cases c2 : ns R ≤ s
    · rw [ip_ifT c2, ip_P, ip_ifF (by omega), ip_P]
      exact ⟨(h2 (by omega)).symm, hX, hf⟩
    · rw [ip_ifF c2]
      by_cases c3 : h < 0
      · rw [ip_ifT c3, ip_P, ip_ifF (by omega), ip_P]
        exact ⟨(h2 (by omega)).symm, hX, hf⟩
      · rw [ip_ifF c3]
        by_cases c4 : 2000 < h
        · rw [ip_ifT c4, ip_P, ip_ifF (by omega), ip_P]
          exact ⟨(h2 (by omega)).symm, hX, hf⟩
        · rw [ip_ifF c4, ip_P, ip_ifT (by omega)]
          exact gv_go hf (h1 (by omega) (by omega) (by omega) (by omega) τ1 hX w2 w3)
theorem zw_387 {a : Nat} {k : Int} (h : ¬ zw a k) : a ≠ 387 := by unfold zw mz at h; omega
def f01 (x : Int) : Int := if 0 ≤ x then 1 else 0
def fitV (R : aRun) (s h x : Int) : Int := if (0 ≤ s ∧ s < ns R) ∧ 0 ≤ h ∧ h ≤ 2000 then f01 x else -1
noncomputable def leaV (R : aRun) (s : Int) : Int := if 0 ≤ s ∧ s < ns R then lst R s (bg R s) 0 2000 else -1
theorem gv_least (hI : InvX R τ) (s : Int) : gv R (iz_Top_least 0 s) (leaV R s) τ := by
  have hw := hI.1
  have hns := ns_in hw
  have hn16 := hw.1.2
  have hb := bg_step hw s
  unfold iz_Top_least
  refine gv_asks hI (fun a1 a2 a3 a4 τ1 hX h9 hx => ?_) (fun z => if_neg (by omega))
  have ev : leaV R s = lst R s (bg R s) 0 2000 := if_pos ⟨a1, a2⟩
  unfold gv
  rw [t_6, pr_2 isPress_52, ip_B]
  unfold iz_Fitter_leastOf
  rw [ip_B, ft_1 (pr_F isPress_52), fl_16 isFlow_53, ip_at a1 (by rw [fl_l13 isFlow_53]; omega), (hx.2.1.2.2.2.2 s a1 a2).1, ip_B]
  refine ip_leastFrom (pr_F isPress_52) hw hx.1 hx.2.1 hx.2.2.1 hx.2.2.2 a1 a2 (Int.le_refl _) hb.2.1 (en_begin a1 a2) (Int.le_refl _) (by omega) (by omega) (Int.le_refl _) (fun τ2 hF hk => ?_)
  rw [ip_P, ip_P, ev]
  exact ⟨rfl, hX.fit h9 hF hk, fun a k z => hk a k (fw_zw z)⟩
end
