/-! ===== the class's RUN, read ===== -/
theorem ip_ifP {α : Type} {c : Prop} {hc : Decidable c} {a b : α} {Q : α → iMem → Prop} {τ : iMem} : ip (@ite _ c hc (iP a) (iP b)) Q τ ↔ Q (@ite _ c hc a b) τ := by
  by_cases h : c
  · rw [if_pos h, if_pos h]; exact ip_P
  · rw [if_neg h, if_neg h]; exact ip_P
theorem ip_ifPA {c : Prop} {hc : Decidable c} {a x : Int} {Q : Int → iMem → Prop} {τ : iMem} : ip (@ite _ c hc (iP a) (iA x fun y => iP y)) Q τ ↔ (¬ c → iR x) ∧ Q (@ite _ c hc a x) τ := by
  by_cases h : c
  · rw [if_pos h, if_pos h, ip_P]; exact ⟨fun q => ⟨fun g => absurd h g, q⟩, fun q => q.2⟩
  · rw [if_neg h, if_neg h, ip_A, ip_P]; exact ⟨fun q => ⟨fun _ => q.1, q.2⟩, fun q => ⟨q.1 h, q.2⟩⟩
def RunC (τ : iMem) (o : Nat) (R : aRun) : Prop := τ o 0 = rn R ∧ (∀ k, 0 ≤ k → k < 8 → τ (o + 1) k = rs R k) ∧ ∀ b w, 0 ≤ b → b < rn R → 0 ≤ w → w < 16 → τ (o + 2) (16 * b + w) = rc R b w
theorem RunC.frame {τ τ' : iMem} {o : Nat} {R : aRun} (h : RunC τ o R) (hf : ∀ a k, o ≤ a → a ≤ o + 2 → τ' a k = τ a k) : RunC τ' o R :=
  ⟨(hf o 0 (by omega) (by omega)).trans h.1, fun k h1 h2 => (hf _ _ (by omega) (by omega)).trans (h.2.1 k h1 h2), fun b w h1 h2 h3 h4 => (hf _ _ (by omega) (by omega)).trans (h.2.2 b w h1 h2 h3 h4)⟩
section
variable {τ : iMem} {o : Nat} {k b w : Int} {Q : Int → iMem → Prop}
theorem ip_setting (ho : isRun o) (h0 : 0 ≤ k) (h8 : k < 8) : ip (iz_Run_setting o k) Q τ ↔ Q (τ (o + 1) k) τ := by
  unfold iz_Run_setting
  rw [ip_ifF (by omega), ip_ifF (by omega)]
  simp only [ip_B, ip_Ld, ip_P, run_1 ho, run_l1 ho]
  exact ⟨fun q => q.2, fun q => ⟨⟨h0, h8⟩, q⟩⟩
theorem ip_settingC {R : aRun} (ho : isRun o) (hR : RunC τ o R) (h0 : 0 ≤ k) (h8 : k < 8) : ip (iz_Run_setting o k) Q τ ↔ Q (rs R k) τ := by
  rw [ip_setting ho h0 h8, hR.2.1 k h0 h8]
theorem ip_cell (ho : isRun o) (h0 : 0 ≤ b) (h1 : b < 16) (h2 : 0 ≤ w) (h3 : w < 16) : ip (iz_Run_cell o b w) Q τ ↔ Q (τ (o + 2) (16 * b + w)) τ := by
  unfold iz_Run_cell
  rw [ip_ifF (by omega), ip_ifF (by omega), ip_ifF (by omega), ip_ifT (by omega)]
  simp only [ip_A, ip_B, ip_Ld, ip_P, run_2 ho, run_l2 ho]
  rw [show b * 16 + w = 16 * b + w by omega]
  exact ⟨fun q => q.2.2.2, fun q => ⟨⟨by omega, by omega⟩, ⟨by omega, by omega⟩, ⟨by omega, by omega⟩, q⟩⟩
theorem ip_cellC {R : aRun} (ho : isRun o) (hR : RunC τ o R) (hn : rn R ≤ 16) (h0 : 0 ≤ b) (h1 : b < rn R) (h2 : 0 ≤ w) (h3 : w < 16) : ip (iz_Run_cell o b w) Q τ ↔ Q (rc R b w) τ := by
  rw [ip_cell ho h0 (by omega) h2 h3, hR.2.2 b w h0 h1 h2 h3]
end
theorem nt_none {R : aRun} {b l : Int} (h : ∀ j, 0 ≤ j → j < rc R b 7 → j < 4 → rc R b (8 + j) ≠ l) : nt R b l = 0 := by
  unfold nt
  rw [if_neg (fun q => h 0 (by omega) (by omega) (by omega) q.2), if_neg (fun q => h 1 (by omega) (by omega) (by omega) q.2), if_neg (fun q => h 2 (by omega) (by omega) (by omega) q.2), if_neg (fun q => h 3 (by omega) (by omega) (by omega) q.2)]
theorem nt_found {R : aRun} {b l i : Int} (h0 : 0 ≤ i) (h4 : i < 4) (hi : i < rc R b 7) (h : ∀ j, 0 ≤ j → j < i → rc R b (8 + j) ≠ l) (e : rc R b (8 + i) = l) : nt R b l = rc R b (12 + i) := by
  have hc : i = 0 ∨ i = 1 ∨ i = 2 ∨ i = 3 := by omega
  unfold nt
  rcases hc with rfl | rfl | rfl | rfl
  · rw [if_pos ⟨hi, e⟩]; rfl
  · rw [if_neg (fun q => h 0 (by omega) (by omega) q.2), if_pos ⟨hi, e⟩]; rfl
  · rw [if_neg (fun q => h 0 (by omega) (by omega) q.2), if_neg (fun q => h 1 (by omega) (by omega) q.2), if_pos ⟨hi, e⟩]; rfl
  · rw [if_neg (fun q => h 0 (by omega) (by omega) q.2), if_neg (fun q => h 1 (by omega) (by omega) q.2), if_neg (fun q => h 2 (by omega) (by omega) q.2), if_pos ⟨hi, e⟩]; rfl
theorem ip_noteAt {τ : iMem} {o : Nat} {R : aRun} {b l : Int} {Q : Int → iMem → Prop} (ho : isRun o) (hR : RunC τ o R) (hn : rn R ≤ 16) (h0 : 0 ≤ b) (h1 : b < rn R) (hQ : Q (nt R b l) τ) : ip (iz_Run_noteAt o b l) Q τ := by
  unfold iz_Run_noteAt
  rw [ip_B, ip_cellC ho hR hn h0 h1 (by omega) (by omega)]
  rw [ip_B, ip_B]
  refine ip_W (fun s τ' => τ' = τ ∧ 0 ≤ s ∧ s ≤ 4 ∧ (∀ j, 0 ≤ j → j < s → j < rc R b 7 ∧ rc R b (8 + j) ≠ l)) (fun s _ => (4 - s).toNat) ?_ ⟨rfl, by omega, by omega, fun j h1 h2 => by omega⟩
  intro s τ' ⟨e, g0, g4, gj⟩
  subst e
  by_cases c1 : rc R b 7 ≤ s
  · rw [ip_ifT c1, ip_P]
    show ip (iP _) _ _
    rw [ip_P]
    show ip (iP _) _ _
    rw [ip_P, ← nt_none (R := R) (b := b) (l := l) (fun j a1 a2 a3 => (gj j a1 (by omega)).2)]
    exact hQ
  · rw [ip_ifF c1]
    by_cases c2 : 4 ≤ s
    · rw [ip_ifT c2, ip_P]
      show ip (iP _) _ _
      rw [ip_P]
      show ip (iP _) _ _
      rw [ip_P, ← nt_none (R := R) (b := b) (l := l) (fun j a1 a2 a3 => (gj j a1 (by omega)).2)]
      exact hQ
    · rw [ip_ifF c2, ip_A]
      refine ⟨⟨by omega, by omega⟩, ?_⟩
      rw [ip_B, ip_cellC ho hR hn h0 h1 (by omega) (by omega)]
      by_cases c3 : rc R b (8 + s) = l
      · rw [ip_ifF (by simpa using c3), ip_P]
        show ip (iP _) _ _
        rw [ip_P]
        simp only [Sum.elim_inl]
        rw [ip_A]
        refine ⟨⟨by omega, by omega⟩, ?_⟩
        rw [ip_B, ip_cellC ho hR hn h0 h1 (by omega) (by omega), ip_P, ← nt_found g0 (by omega) (by omega) (fun j a1 a2 => (gj j a1 a2).2) c3]
        exact hQ
      · rw [ip_ifT c3, ip_A]
        refine ⟨⟨by omega, by omega⟩, ?_⟩
        rw [ip_B, ip_P, ip_P]
        refine ⟨⟨rfl, by omega, by omega, fun j a1 a2 => ?_⟩, by omega⟩
        by_cases e : j = s
        · subst e; exact ⟨by omega, c3⟩
        · exact gj j a1 (by omega)
/-! ===== laying: PIECES ===== -/
/-- what stands in the rows by PIECES, up to a PIECE -/
def FlA (R : aRun) (fl : Nat) (τ : iMem) (p : Int) : Prop :=
  (∀ q, 0 ≤ q → q < p → τ (fl + 2) q = ow R q ∧ τ (fl + 3) q = nu R q ∧ τ (fl + 4) q = pH R q ∧ τ (fl + 5) q = pG R q ∧ τ (fl + 6) q = pN R q ∧ τ (fl + 7) q = pS R q ∧ τ (fl + 8) q = pT R q) ∧
  (∀ q, 0 ≤ q → q ≤ p → τ (fl + 9) q = hT R q ∧ τ (fl + 10) q = lT R q ∧ τ (fl + 11) q = ll R q) ∧
  τ fl 2 = nc R p ∧ ∀ q, 0 ≤ q → q < p → 0 < pN R q → τ (fl + 16) (nc R q) = q
theorem FlA.frame {R : aRun} {fl : Nat} {τ τ' : iMem} {p : Int} (h : FlA R fl τ p) (h2 : τ' fl 2 = τ fl 2) (hf : ∀ a k, fl + 2 ≤ a → a ≤ fl + 16 → a ≠ fl + 12 → a ≠ fl + 13 → a ≠ fl + 14 → a ≠ fl + 15 → τ' a k = τ a k) : FlA R fl τ' p := by
  refine ⟨fun q a1 a2 => ?_, fun q a1 a2 => ?_, h2.trans h.2.2.1, fun q a1 a2 a3 => ?_⟩
  · rw [hf _ q (by omega) (by omega) (by omega) (by omega) (by omega) (by omega), hf (fl + 3) q (by omega) (by omega) (by omega) (by omega) (by omega) (by omega), hf (fl + 4) q (by omega) (by omega) (by omega) (by omega) (by omega) (by omega), hf (fl + 5) q (by omega) (by omega) (by omega) (by omega) (by omega) (by omega), hf (fl + 6) q (by omega) (by omega) (by omega) (by omega) (by omega) (by omega), hf (fl + 7) q (by omega) (by omega) (by omega) (by omega) (by omega) (by omega), hf (fl + 8) q (by omega) (by omega) (by omega) (by omega) (by omega) (by omega)]
    exact h.1 q a1 a2
  · rw [hf _ q (by omega) (by omega) (by omega) (by omega) (by omega) (by omega), hf (fl + 10) q (by omega) (by omega) (by omega) (by omega) (by omega) (by omega), hf (fl + 11) q (by omega) (by omega) (by omega) (by omega) (by omega) (by omega)]
    exact h.2.1 q a1 a2
  · rw [hf _ _ (by omega) (by omega) (by omega) (by omega) (by omega) (by omega)]
    exact h.2.2.2 q a1 a2 a3
theorem nc_s {R : aRun} {p : Int} (h : 0 ≤ p) : nc R (p + 1) = nc R p + (if pN R p ≤ 0 then 0 else 1) := sI_s h
theorem nc_mono {R : aRun} {a b : Int} (ha : 0 ≤ a) (hb : a ≤ b) : nc R a ≤ nc R b := sI_mono ha hb (fun i _ _ => by (try dsimp only); split <;> omega)
theorem sI_add {f g : Int → Int} {n : Int} : sI (fun i => f i + g i) n = sI f n + sI g n := by
  rcases Int.le_total n 0 with hn | hn
  · rw [sI_le hn, sI_le hn, sI_le hn]; rfl
  · exact sI_ind (f := fun i => f i + g i) (P := fun k s => s = sI f k + sI g k) rfl (fun k s hk e => by rw [e, sI_s hk, sI_s hk]; omega) n hn
theorem sI_one {c n : Int} (hn : 0 ≤ n) : sI (fun i => if c = i + 1 then 1 else 0) n ≤ 1 := by
  have := sI_ind (f := fun i => if c = i + 1 then 1 else 0) (P := fun k s => (s = 0 ∨ (s = 1 ∧ c ≤ k))) (Or.inl rfl) (fun k s hk e => by
    (try dsimp only)
    split <;> omega) n hn
  omega
/-- the MARKS of a BLOCK -/
theorem nc_block {R : aRun} (hw : WF R) {b i : Int} (h0 : 0 ≤ b) (hb : b < rn R) (hi : 0 ≤ i) (hm : i ≤ rc R b 1) : nc R (fs R b + i) ≤ nc R (fs R b) + 4 := by
  have h1 : ∀ k, 0 ≤ k → k ≤ i → nc R (fs R b + k) ≤ nc R (fs R b) + sI (fun j => ((if rc R b 8 = j + 1 then 1 else 0) + (if rc R b 9 = j + 1 then 1 else 0)) + ((if rc R b 10 = j + 1 then 1 else 0) + (if rc R b 11 = j + 1 then 1 else 0))) k := by
    intro k hk
    refine sI_ind (f := fun j => ((if rc R b 8 = j + 1 then 1 else 0) + (if rc R b 9 = j + 1 then 1 else 0)) + ((if rc R b 10 = j + 1 then 1 else 0) + (if rc R b 11 = j + 1 then 1 else 0))) (P := fun k s => k ≤ i → nc R (fs R b + k) ≤ nc R (fs R b) + s) (fun _ => by rw [Int.add_zero]; omega) (fun k s hk ih hle => ?_) k hk
    have := ih (by omega)
    have hf := fs_ge hw h0 (by omega)
    rw [show fs R b + (k + 1) = (fs R b + k) + 1 by omega, nc_s (by omega)]
    have e : pN R (fs R b + k) = nt R b (k + 1) := by
      unfold pN
      rw [ow_at hw h0 hb hk (by omega), nu_at hw h0 hb hk (by omega)]
    rw [e]
    (try dsimp only)
    unfold nt
    repeat' split
    all_goals omega
  have := h1 i hi (Int.le_refl i)
  rw [sI_add, sI_add, sI_add] at this
  have a1 := sI_one (c := rc R b 8) hi
  have a2 := sI_one (c := rc R b 9) hi
  have a3 := sI_one (c := rc R b 10) hi
  have a4 := sI_one (c := rc R b 11) hi
  omega
theorem nc_fs {R : aRun} (hw : WF R) {b : Int} (h0 : 0 ≤ b) (hb : b ≤ rn R) : 0 ≤ nc R (fs R b) ∧ nc R (fs R b) ≤ 4 * b := by
  have key : ∀ n : Nat, (n : Int) ≤ rn R → 0 ≤ nc R (fs R n) ∧ nc R (fs R n) ≤ 4 * n := by
    intro n
    induction n with
    | zero => intro _; exact ⟨Int.le_refl _, Int.le_refl _⟩
    | succ n ih =>
      intro hn
      have := ih (by omega)
      have hb := (hw.2.2.1 n (by omega) (by omega)).2.1
      have hg := fs_ge hw (b := n) (by omega) (by omega)
      have h2 := nc_block hw (b := n) (i := rc R n 1) (by omega) (by omega) hb.1 (Int.le_refl _)
      have h3 := nc_mono (R := R) (a := fs R n) (b := fs R n + rc R n 1) hg (by omega)
      rw [show ((n + 1 : Nat) : Int) = (n : Int) + 1 by omega, fs_s (by omega)]
      omega
  have := key b.toNat (by omega)
  rwa [show ((b.toNat : Nat) : Int) = b by omega] at this
theorem nc_lt {R : aRun} (hw : WF R) {p : Int} (h0 : 0 ≤ p) (hp : p < np R) (hN : 0 < pN R p) : 0 ≤ nc R p ∧ nc R p < 64 := by
  obtain ⟨b, i, h1, h2, h3, h4, rfl⟩ := p_in hw h0 hp
  have a1 := nc_fs hw h1 (by omega)
  have a2 := nc_block hw (b := b) (i := i + 1) h1 h2 (by omega) (by omega)
  have a3 := fs_ge hw h1 (by omega)
  have a4 := nc_mono (R := R) (a := fs R b) (b := fs R b + i) a3 (by omega)
  rw [show fs R b + (i + 1) = (fs R b + i) + 1 by omega, nc_s h0, if_neg (by omega)] at a2
  have := hw.1.2
  omega
theorem FlA_next {R : aRun} {fl : Nat} {τ τ' : iMem} {p : Int} (h : FlA R fl τ p) (h0 : 0 ≤ p) (f1 : ∀ a k, fl + 2 ≤ a → a ≤ fl + 8 → k ≠ p → τ' a k = τ a k) (f2 : ∀ a k, fl + 9 ≤ a → a ≤ fl + 11 → k ≠ p + 1 → τ' a k = τ a k) (f3 : ∀ k, k ≠ nc R p → τ' (fl + 16) k = τ (fl + 16) k)
    (e : τ' (fl + 2) p = ow R p ∧ τ' (fl + 3) p = nu R p ∧ τ' (fl + 4) p = pH R p ∧ τ' (fl + 5) p = pG R p ∧ τ' (fl + 6) p = pN R p ∧ τ' (fl + 7) p = pS R p ∧ τ' (fl + 8) p = pT R p) (e2 : τ' (fl + 9) (p + 1) = hT R (p + 1) ∧ τ' (fl + 10) (p + 1) = lT R (p + 1) ∧ τ' (fl + 11) (p + 1) = ll R (p + 1)) (e3 : τ' fl 2 = nc R (p + 1)) (e4 : 0 < pN R p → τ' (fl + 16) (nc R p) = p) : FlA R fl τ' (p + 1) := by
  refine ⟨fun q a1 a2 => ?_, fun q a1 a2 => ?_, e3, fun q a1 a2 a3 => ?_⟩
  · by_cases c : q = p
    · subst c; exact e
    · rw [f1 _ q (by omega) (by omega) c, f1 (fl + 3) q (by omega) (by omega) c, f1 (fl + 4) q (by omega) (by omega) c, f1 (fl + 5) q (by omega) (by omega) c, f1 (fl + 6) q (by omega) (by omega) c, f1 (fl + 7) q (by omega) (by omega) c, f1 (fl + 8) q (by omega) (by omega) c]
      exact h.1 q a1 (by omega)
  · by_cases c : q = p + 1
    · subst c; exact e2
    · rw [f2 _ q (by omega) (by omega) c, f2 (fl + 10) q (by omega) (by omega) c, f2 (fl + 11) q (by omega) (by omega) c]
      exact h.2.1 q a1 (by omega)
  · by_cases c : q = p
    · subst c; exact e4 a3
    · have := nc_mono (R := R) (a := q + 1) (b := p) (by omega) (by omega)
      rw [nc_s a1, if_neg (by omega)] at this
      rw [f3 _ (by omega)]
      exact h.2.2.2 q a1 (by omega) a3
set_option maxHeartbeats 4000000 in
theorem ip_layPieces {τ : iMem} {fl ru : Nat} {R : aRun} {b : Int} {Q : Unit → iMem → Prop} (hf : isFlow fl ru) (hw : WF R) (hR : RunC τ ru R) (h0 : 0 ≤ b) (hb : b < rn R) (hk : rc R b 0 ≠ 4) (hp : τ fl 0 = fs R b) (hs : τ fl 1 = sc R b + 1) (hA : FlA R fl τ (fs R b))
    (hQ : ∀ τ', τ' fl 0 = fs R (b + 1) → FlA R fl τ' (fs R (b + 1)) → τ' (fl + 14) (sc R b) = fs R (b + 1) → (∀ s, s ≠ sc R b → τ' (fl + 14) s = τ (fl + 14) s) → τ' fl 1 = τ fl 1 → (∀ a k, a < fl ∨ a = fl + 1 ∨ a = fl + 12 ∨ a = fl + 13 ∨ a = fl + 15 ∨ fl + 16 < a → τ' a k = τ a k) → Q () τ') : ip (iz_Flow_layPieces fl b) Q τ := by
  have hn := hw.1.2
  have hr := fl_r hf
  have ha := fl_a hf
  have hmm := fl_m hf
  have hbw := hw.2.2.1 b h0 hb
  have hg := fs_ge hw h0 (by omega)
  have hle := fs_le hw (b := b + 1) (by omega) (by omega)
  have h90 := hw.2.2.2
  rw [fs_s h0] at hle
  have hsc := sc_in (R := R) h0
  unfold iz_Flow_layPieces
  rw [fl_3 hf]
  rw [ip_B, ip_cellC hr hR hn h0 hb (by omega) (by omega), ip_B, ip_cellC hr hR hn h0 hb (by omega) (by omega), ip_B, ip_cellC hr hR hn h0 hb (by omega) (by omega), ip_B, ip_Gt, hs, ip_A]
  refine ⟨⟨by omega, by omega⟩, ?_⟩
  rw [show sc R b + 1 - 1 = sc R b by omega, ip_B, ip_P]
  refine ip_bind (R := fun _ τ' => τ' fl 0 = fs R (b + 1) ∧ FlA R fl τ' (fs R (b + 1)) ∧ τ' fl 1 = τ fl 1 ∧ (∀ a k, a < fl ∨ a = fl + 1 ∨ a = fl + 12 ∨ a = fl + 13 ∨ a = fl + 14 ∨ a = fl + 15 ∨ fl + 16 < a → τ' a k = τ a k)) ?_ ?_
  · refine ip_W (fun s τ' => 0 ≤ s ∧ s ≤ rc R b 1 ∧ τ' fl 0 = fs R b + s ∧ FlA R fl τ' (fs R b + s) ∧ τ' fl 1 = τ fl 1 ∧ (∀ a k, a < fl ∨ a = fl + 1 ∨ a = fl + 12 ∨ a = fl + 13 ∨ a = fl + 14 ∨ a = fl + 15 ∨ fl + 16 < a → τ' a k = τ a k)) (fun s _ => (rc R b 1 - s).toNat) ?_ ⟨by omega, hbw.2.1.1, by rw [Int.add_zero]; exact hp, by rw [Int.add_zero]; exact hA, rfl, fun a k _ => rfl⟩
    intro s τ' ⟨g0, g1, gp, gA, gs, gf⟩
    by_cases c1 : rc R b 1 ≤ s
    · have e : s = rc R b 1 := by omega
      rw [ip_ifT c1, ip_P]
      show _ ∧ _
      rw [fs_s h0, ← e]
      exact ⟨gp, gA, gs, gf⟩
    · rw [ip_ifF c1, ip_B, ip_Gt, gp, ip_ifF (by omega), ip_B, ip_Gt, gp, ip_ifF (by omega), ip_A]
      refine ⟨⟨by omega, by omega⟩, ?_⟩
      have hR' : RunC τ' ru R := hR.frame (fun a k _ _ => gf a k (Or.inl (by omega)))
      rw [ip_B]
      refine ip_noteAt hr hR' hn h0 hb ?_
      have eow := ow_at hw h0 hb g0 (by omega)
      have enu := nu_at hw h0 hb g0 (by omega)
      have eN : nt R b (s + 1) = pN R (fs R b + s) := by unfold pN; rw [eow, enu]
      have hN := pN_in hw (p := fs R b + s) (by omega) (by unfold np at *; omega)
      have hH := pH_in hw (p := fs R b + s) (by omega) (by unfold np at *; omega)
      have hG := pG_in hw (p := fs R b + s) (by omega) (by unfold np at *; omega)
      have hT1 := hT_in hw (p := fs R b + s) (by omega) (by unfold np at *; omega)
      have lT1 := lT_in hw (p := fs R b + s) (by omega) (by unfold np at *; omega)
      have eH : (if ¬s = 0 then rc R b 2 else rc R b 2 + rc R b 3) = pH R (fs R b + s) := by
        unfold pH; rw [eow, enu]
        by_cases c : s = 0
        · rw [if_neg (by simpa using c), if_pos c]
        · rw [if_pos c, if_neg c]
      have eG : (if ¬s = 0 then 0 else rc R b 6) = pG R (fs R b + s) := by
        unfold pG; rw [eow, enu]
        by_cases c : s = 0
        · rw [if_neg (by simpa using c), if_pos c]
        · rw [if_pos c, if_neg c]
      have eT : (if ¬s = 0 then rc R b 3 else 0) = pT R (fs R b + s) := by
        unfold pT; rw [eow, enu]
        by_cases c : s = 0
        · rw [if_neg (by simpa using c), if_pos c]
        · rw [if_pos c, if_neg c]
      have eS : sc R b = pS R (fs R b + s) := by unfold pS; rw [eow]
      have gT := gA.2.1 (fs R b + s) (by omega) (Int.le_refl _)
      have gC := gA.2.2.1
      rw [eN]
      generalize hP : fs R b + s = p at *
      have h6 : τ' (ru + 2) (16 * b + 6) = rc R b 6 := hR'.2.2 b 6 h0 hb (by omega) (by omega)
      by_cases cN : pN R p ≤ 0
      · by_cases c0 : s = 0
        · simp (disch := omega) only [ip_B, ip_Gt, ip_Pt, ip_St, ip_Ld, ip_A, ip_ifP, ip_P, ip_ifT, ip_ifF, iR, ip_cell hr, fl_3 hf, fl_5 hf, fl_6 hf, fl_7 hf, fl_8 hf, fl_9 hf, fl_10 hf, fl_11 hf, fl_12 hf, fl_13 hf, fl_14 hf, fl_19 hf, fl_l2 hf, fl_l3 hf, fl_l4 hf, fl_l5 hf, fl_l6 hf, fl_l7 hf, fl_l8 hf, fl_l9 hf, fl_l10 hf, fl_l11 hf, fl_l16 hf, iu_ne, iu_eq, gp, gC, gT.1, gT.2.1, gT.2.2, h6]
          repeat refine ⟨by omega, ?_⟩
          simp only [Sum.elim_inl]
          refine ⟨⟨by omega, by omega, by omega, ?_, gs, fun a k hak => ?_⟩, by omega⟩
          · rw [show fs R b + (s + 1) = p + 1 by omega]
            refine FlA_next gA (by omega) (fun a k _ _ hk => by simp (disch := omega) only [iu_ne]) (fun a k _ _ hk => by simp (disch := omega) only [iu_ne]) (fun k hk => by simp (disch := omega) only [iu_ne]) ?_ ?_ ?_ ?_
            · simp (disch := omega) only [iu_ne, iu_eq]
              refine ⟨eow.symm, enu.symm, ?_, ?_, trivial, ?_, ?_⟩
              · rw [← eH]; first | rw [if_neg (by omega)] | rw [if_pos (by omega)]
              · rw [← eG]; first | rw [if_neg (by omega)] | rw [if_pos (by omega)]
              · exact eS
              · rw [← eT]; first | rw [if_neg (by omega)] | rw [if_pos (by omega)]
            · simp (disch := omega) only [iu_ne, iu_eq]
              rw [hT_s (by omega), lT_s (by omega), ll_s (by omega), ← eH, ← eG]
              first | rw [if_neg (show ¬ ¬ s = 0 by omega), if_neg (show ¬ ¬ s = 0 by omega), if_pos cN] | rw [if_pos (show ¬ s = 0 by omega), if_pos (show ¬ s = 0 by omega), if_pos cN]
              exact ⟨by omega, rfl, rfl⟩
            · simp (disch := omega) only [iu_ne, iu_eq]
              rw [nc_s (by omega)]
              rw [if_pos cN]; omega
            · intro h9
              simp (disch := omega) only [iu_ne, iu_eq]
              omega
          · have := gf a k hak
            simp (disch := omega) only [iu_ne]
            exact this
        · simp (disch := omega) only [ip_B, ip_Gt, ip_Pt, ip_St, ip_Ld, ip_A, ip_ifP, ip_P, ip_ifT, ip_ifF, iR, ip_cell hr, fl_3 hf, fl_5 hf, fl_6 hf, fl_7 hf, fl_8 hf, fl_9 hf, fl_10 hf, fl_11 hf, fl_12 hf, fl_13 hf, fl_14 hf, fl_19 hf, fl_l2 hf, fl_l3 hf, fl_l4 hf, fl_l5 hf, fl_l6 hf, fl_l7 hf, fl_l8 hf, fl_l9 hf, fl_l10 hf, fl_l11 hf, fl_l16 hf, iu_ne, iu_eq, gp, gC, gT.1, gT.2.1, gT.2.2, h6]
          repeat refine ⟨by omega, ?_⟩
          simp only [Sum.elim_inl]
          refine ⟨⟨by omega, by omega, by omega, ?_, gs, fun a k hak => ?_⟩, by omega⟩
          · rw [show fs R b + (s + 1) = p + 1 by omega]
            refine FlA_next gA (by omega) (fun a k _ _ hk => by simp (disch := omega) only [iu_ne]) (fun a k _ _ hk => by simp (disch := omega) only [iu_ne]) (fun k hk => by simp (disch := omega) only [iu_ne]) ?_ ?_ ?_ ?_
            · simp (disch := omega) only [iu_ne, iu_eq]
              refine ⟨eow.symm, enu.symm, ?_, ?_, trivial, ?_, ?_⟩
              · rw [← eH]; first | rw [if_neg (by omega)] | rw [if_pos (by omega)]
              · rw [← eG]; first | rw [if_neg (by omega)] | rw [if_pos (by omega)]
              · exact eS
              · rw [← eT]; first | rw [if_neg (by omega)] | rw [if_pos (by omega)]
            · simp (disch := omega) only [iu_ne, iu_eq]
              rw [hT_s (by omega), lT_s (by omega), ll_s (by omega), ← eH, ← eG]
              first | rw [if_neg (show ¬ ¬ s = 0 by omega), if_neg (show ¬ ¬ s = 0 by omega), if_pos cN] | rw [if_pos (show ¬ s = 0 by omega), if_pos (show ¬ s = 0 by omega), if_pos cN]
              exact ⟨by omega, rfl, rfl⟩
            · simp (disch := omega) only [iu_ne, iu_eq]
              rw [nc_s (by omega)]
              rw [if_pos cN]; omega
            · intro h9
              simp (disch := omega) only [iu_ne, iu_eq]
              omega
          · have := gf a k hak
            simp (disch := omega) only [iu_ne]
            exact this
      · have hn64 := nc_lt hw (p := p) (by omega) (by unfold np at *; omega) (by omega)
        by_cases c0 : s = 0
        · simp (disch := omega) only [ip_B, ip_Gt, ip_Pt, ip_St, ip_Ld, ip_A, ip_ifP, ip_P, ip_ifT, ip_ifF, iR, ip_cell hr, fl_3 hf, fl_5 hf, fl_6 hf, fl_7 hf, fl_8 hf, fl_9 hf, fl_10 hf, fl_11 hf, fl_12 hf, fl_13 hf, fl_14 hf, fl_19 hf, fl_l2 hf, fl_l3 hf, fl_l4 hf, fl_l5 hf, fl_l6 hf, fl_l7 hf, fl_l8 hf, fl_l9 hf, fl_l10 hf, fl_l11 hf, fl_l16 hf, iu_ne, iu_eq, gp, gC, gT.1, gT.2.1, gT.2.2, h6]
          repeat refine ⟨by omega, ?_⟩
          simp only [Sum.elim_inl]
          refine ⟨⟨by omega, by omega, by omega, ?_, gs, fun a k hak => ?_⟩, by omega⟩
          · rw [show fs R b + (s + 1) = p + 1 by omega]
            refine FlA_next gA (by omega) (fun a k _ _ hk => by simp (disch := omega) only [iu_ne]) (fun a k _ _ hk => by simp (disch := omega) only [iu_ne]) (fun k hk => by simp (disch := omega) only [iu_ne]) ?_ ?_ ?_ ?_
            · simp (disch := omega) only [iu_ne, iu_eq]
              refine ⟨eow.symm, enu.symm, ?_, ?_, trivial, ?_, ?_⟩
              · rw [← eH]; first | rw [if_neg (by omega)] | rw [if_pos (by omega)]
              · rw [← eG]; first | rw [if_neg (by omega)] | rw [if_pos (by omega)]
              · exact eS
              · rw [← eT]; first | rw [if_neg (by omega)] | rw [if_pos (by omega)]
            · simp (disch := omega) only [iu_ne, iu_eq]
              rw [hT_s (by omega), lT_s (by omega), ll_s (by omega), ← eH, ← eG]
              first | rw [if_neg (show ¬ ¬ s = 0 by omega), if_neg (show ¬ ¬ s = 0 by omega), if_neg cN] | rw [if_pos (show ¬ s = 0 by omega), if_pos (show ¬ s = 0 by omega), if_neg cN]
              exact ⟨by omega, rfl, rfl⟩
            · simp (disch := omega) only [iu_ne, iu_eq]
              rw [nc_s (by omega)]
              rw [if_neg cN]
            · intro h9
              simp (disch := omega) only [iu_ne, iu_eq]
              try rfl
          · have := gf a k hak
            simp (disch := omega) only [iu_ne]
            exact this
        · simp (disch := omega) only [ip_B, ip_Gt, ip_Pt, ip_St, ip_Ld, ip_A, ip_ifP, ip_P, ip_ifT, ip_ifF, iR, ip_cell hr, fl_3 hf, fl_5 hf, fl_6 hf, fl_7 hf, fl_8 hf, fl_9 hf, fl_10 hf, fl_11 hf, fl_12 hf, fl_13 hf, fl_14 hf, fl_19 hf, fl_l2 hf, fl_l3 hf, fl_l4 hf, fl_l5 hf, fl_l6 hf, fl_l7 hf, fl_l8 hf, fl_l9 hf, fl_l10 hf, fl_l11 hf, fl_l16 hf, iu_ne, iu_eq, gp, gC, gT.1, gT.2.1, gT.2.2, h6]
          repeat refine ⟨by omega, ?_⟩
          simp only [Sum.elim_inl]
          refine ⟨⟨by omega, by omega, by omega, ?_, gs, fun a k hak => ?_⟩, by omega⟩
          · rw [show fs R b + (s + 1) = p + 1 by omega]
            refine FlA_next gA (by omega) (fun a k _ _ hk => by simp (disch := omega) only [iu_ne]) (fun a k _ _ hk => by simp (disch := omega) only [iu_ne]) (fun k hk => by simp (disch := omega) only [iu_ne]) ?_ ?_ ?_ ?_
            · simp (disch := omega) only [iu_ne, iu_eq]
              refine ⟨eow.symm, enu.symm, ?_, ?_, trivial, ?_, ?_⟩
              · rw [← eH]; first | rw [if_neg (by omega)] | rw [if_pos (by omega)]
              · rw [← eG]; first | rw [if_neg (by omega)] | rw [if_pos (by omega)]
              · exact eS
              · rw [← eT]; first | rw [if_neg (by omega)] | rw [if_pos (by omega)]
            · simp (disch := omega) only [iu_ne, iu_eq]
              rw [hT_s (by omega), lT_s (by omega), ll_s (by omega), ← eH, ← eG]
              first | rw [if_neg (show ¬ ¬ s = 0 by omega), if_neg (show ¬ ¬ s = 0 by omega), if_neg cN] | rw [if_pos (show ¬ s = 0 by omega), if_pos (show ¬ s = 0 by omega), if_neg cN]
              exact ⟨by omega, rfl, rfl⟩
            · simp (disch := omega) only [iu_ne, iu_eq]
              rw [nc_s (by omega)]
              rw [if_neg cN]
            · intro h9
              simp (disch := omega) only [iu_ne, iu_eq]
              try rfl
          · have := gf a k hak
            simp (disch := omega) only [iu_ne]
            exact this
  · intro _ τ' ⟨g1, g2, g3, g4⟩
    rw [ip_ifF (by omega), ip_ifF (by omega), ip_B, ip_Gt, g1, ip_B, ip_St, fl_17 hf, fl_l14 hf, ip_P]
    refine ⟨⟨⟨by omega, by omega⟩, by omega⟩, hQ _ ?_ ?_ ?_ ?_ ?_ ?_⟩
    · rw [iu_ne (Or.inl (by omega)), g1]
    · exact g2.frame (iu_ne (Or.inl (by omega))) (fun a k _ _ _ _ _ _ => iu_ne (Or.inl (by omega)))
    · rw [iu_eq]
    · intro s hs'
      rw [iu_ne (Or.inr hs')]
      exact g4 _ _ (by omega)
    · rw [iu_ne (Or.inl (by omega)), g3]
    · intro a k hak
      rw [iu_ne (Or.inl (by omega))]
      exact g4 a k (by omega)
