/-! ===== what the rest of a SECTION bears ===== -/
def mxN (f : Int → Int) (a : Int) : Nat → Int
  | 0 => -1
  | n + 1 => if mxN f a n < f (a + n) then f (a + n) else mxN f a n
def mx (f : Int → Int) (a b : Int) : Int := mxN f a (b - a).toNat
theorem mx_0 {f : Int → Int} {a b : Int} (h : b ≤ a) : mx f a b = -1 := by
  unfold mx
  rw [show (b - a).toNat = 0 by omega]
  rfl
theorem mx_s {f : Int → Int} {a b : Int} (h : a ≤ b) : mx f a (b + 1) = if mx f a b < f b then f b else mx f a b := by
  unfold mx
  rw [show (b + 1 - a).toNat = (b - a).toNat + 1 by omega]
  show (if mxN f a (b - a).toNat < f (a + ((b - a).toNat : Int)) then _ else _) = _
  rw [show a + (((b - a).toNat : Nat) : Int) = b by omega]
theorem mx_ind {f : Int → Int} {a : Int} {P : Int → Int → Prop} (h0 : P a (-1)) (hs : ∀ b m, a ≤ b → P b m → P (b + 1) (if m < f b then f b else m)) : ∀ b, a ≤ b → P b (mx f a b) := by
  have key : ∀ k : Nat, P (a + k) (mx f a (a + k)) := by
    intro k
    induction k with
    | zero => rw [show a + ((0 : Nat) : Int) = a by omega, mx_0 (Int.le_refl a)]; exact h0
    | succ k ih =>
      have := hs (a + k) _ (by omega) ih
      rw [← mx_s (by omega)] at this
      rw [show a + ((k + 1 : Nat) : Int) = a + k + 1 by omega]
      exact this
  intro b hb
  have := key (b - a).toNat
  rwa [show a + (((b - a).toNat : Nat) : Int) = b by omega] at this
theorem mx_ge {f : Int → Int} {a b : Int} : -1 ≤ mx f a b := by
  rcases Int.le_total b a with h | h
  · rw [mx_0 h]; exact Int.le_refl _
  · exact mx_ind (f := f) (a := a) (P := fun _ m => -1 ≤ m) (Int.le_refl _) (fun b m _ h => by split <;> omega) b h
theorem mx_le {f : Int → Int} {a b M : Int} (hM : -1 ≤ M) (h : ∀ e, a ≤ e → e < b → f e ≤ M) : mx f a b ≤ M := by
  rcases Int.le_total b a with hb | hb
  · rw [mx_0 hb]; exact hM
  · exact mx_ind (f := f) (a := a) (P := fun k m => k ≤ b → m ≤ M) (fun _ => hM) (fun k m hk ih hle => by
      have := ih (by omega)
      have := h k hk (by omega)
      split <;> omega) b hb (Int.le_refl b)
theorem mx_at {f : Int → Int} {a b e : Int} (h1 : a ≤ e) (h2 : e < b) : f e ≤ mx f a b := by
  have := mx_ind (f := f) (a := a) (P := fun k m => e < k → f e ≤ m) (fun h => by omega) (fun k m hk ih hle => by
      by_cases c : e = k
      · subst c; split <;> omega
      · have := ih (by omega)
        split <;> omega) b (by omega)
  exact this h2
theorem mx_congr {f g : Int → Int} {a b : Int} (h : ∀ e, a ≤ e → e < b → f e = g e) : mx f a b = mx g a b := by
  rcases Int.le_total b a with hb | hb
  · rw [mx_0 hb, mx_0 hb]
  · exact mx_ind (f := f) (a := a) (P := fun k m => k ≤ b → m = mx g a k) (fun _ => (mx_0 (Int.le_refl a)).symm) (fun k m hk ih hle => by
      rw [ih (by omega), mx_s hk, h k hk (by omega)]) b hb (Int.le_refl b)
theorem mx_stop {f : Int → Int} {a b c : Int} (h1 : a ≤ c) (h2 : c ≤ b) (h : ∀ e, c ≤ e → e < b → f e ≤ -1) : mx f a b = mx f a c := by
  have key : ∀ k : Nat, c + k ≤ b → mx f a (c + k) = mx f a c := by
    intro k
    induction k with
    | zero => intro _; rw [show c + ((0 : Nat) : Int) = c by omega]
    | succ k ih =>
      intro hk
      have e := ih (by omega)
      have := h (c + k) (by omega) (by omega)
      have := mx_ge (f := f) (a := a) (b := c)
      rw [show c + ((k + 1 : Nat) : Int) = c + k + 1 by omega, mx_s (by omega), e, if_neg (by omega)]
  have := key (b - c).toNat (by omega)
  rwa [show c + (((b - c).toNat : Nat) : Int) = b by omega] at this
/-- the number that is found, or -1 -/
theorem mx_found {f : Int → Int} {a b : Int} (h : 0 ≤ mx f a b) : ∃ e, a ≤ e ∧ e < b ∧ f e = mx f a b := by
  rcases Int.le_total b a with hb | hb
  · rw [mx_0 hb] at h; omega
  · have := mx_ind (f := f) (a := a) (P := fun k m => 0 ≤ m → ∃ e, a ≤ e ∧ e < k ∧ f e = m) (fun h => by omega) (fun k m hk ih hle => by
      by_cases c : m < f k
      · rw [if_pos c]; exact ⟨k, hk, by omega, rfl⟩
      · rw [if_neg c] at hle ⊢
        obtain ⟨e, e1, e2, e3⟩ := ih hle
        exact ⟨e, e1, by omega, e3⟩) b hb
    exact this h
noncomputable def cand (R : aRun) (h : Int) (b : Int → Int) (p e : Int) : Int := @ite Int (0 ≤ b e ∧ en R e) (Classical.propDecidable _) (mi R p e (b e) h) (-1)
noncomputable def be (R : aRun) (s h : Int) : Nat → Int → Int
  | 0, p => if p = bg R (s + 1) then 0 else -1
  | k + 1, p => mx (cand R h (be R s h k) p) p (bg R (s + 1) + 1)
theorem be_0 {R : aRun} {s h p : Int} : be R s h 0 p = if p = bg R (s + 1) then 0 else -1 := rfl
theorem be_s {R : aRun} {s h p : Int} {k : Nat} : be R s h (k + 1) p = mx (cand R h (be R s h k) p) p (bg R (s + 1) + 1) := rfl
theorem be_ge {R : aRun} {s h p : Int} {k : Nat} : -1 ≤ be R s h k p := by
  cases k with
  | zero => rw [be_0]; split <;> omega
  | succ k => exact mx_ge
theorem mi_le {R : aRun} (hw : WF R) {p e lv h : Int} (h0 : 0 ≤ p) (he : e ≤ np R) (hl : 0 ≤ lv) (hh : 0 ≤ h) (hh2 : h ≤ 2000) : mi R p e lv h ≤ 2000 + lv := by
  have a1 := ol_in hw h0 he
  have a2 := tx_in hw h0 he
  have a3 : li R (h - tx R p e) ≤ 2000 := by
    by_cases c : 0 ≤ h - tx R p e
    · have := li_le hw.2.1 c; omega
    · have : li R (h - tx R p e) = 0 := by unfold li; rw [if_pos (by have := hw.2.1.2.2.2.2.2.2.1; omega)]
      omega
  have a4 := li_in hw.2.1 (room := h - tx R p e) (by omega)
  unfold mi
  by_cases c : h < tx R p e + (if ol R p e ≤ 0 then 0 else rs R 6)
  · rw [if_pos c]; omega
  · rw [if_neg c]
    by_cases d : ol R p e = 0
    · rw [if_pos d]
      split <;> omega
    · rw [if_neg d]
      split <;> omega
theorem be_le {R : aRun} (hw : WF R) {s h p : Int} {k : Nat} (h0 : 0 ≤ p) (hh : 0 ≤ h) (hh2 : h ≤ 2000) : be R s h k p ≤ 2000 * k := by
  have hb := bg_in hw (s + 1)
  induction k generalizing p with
  | zero => rw [be_0]; split <;> omega
  | succ k ih =>
    rw [be_s]
    refine mx_le (by omega) (fun e h1 h2 => ?_)
    have := ih (p := e) (by omega)
    unfold cand
    by_cases c : 0 ≤ be R s h k e ∧ en R e
    · rw [if_pos c]
      have := mi_le hw (p := p) (e := e) (lv := be R s h k e) h0 (by omega) c.1 hh hh2
      omega
    · rw [if_neg c]; omega
/-! more height is never worse -/
theorem mi_mono {R : aRun} (hw : WF R) {p e lv lv' h h' : Int} (h0 : 0 ≤ p) (he : e ≤ np R) (hl : lv ≤ lv') (hl0 : 0 ≤ lv) (hh : h ≤ h') : mi R p e lv h ≤ mi R p e lv' h' ∨ mi R p e lv h = -1 := by
  have a1 := ol_in hw h0 he
  have a3 := li_mono hw.2.1 (show h - tx R p e ≤ h' - tx R p e by omega)
  unfold mi
  by_cases c : h < tx R p e + (if ol R p e ≤ 0 then 0 else rs R 6)
  · exact Or.inr (if_pos c)
  · rw [if_neg c, if_neg (show ¬ h' < tx R p e + (if ol R p e ≤ 0 then 0 else rs R 6) by omega)]
    refine Or.inl ?_
    by_cases d : ol R p e = 0
    · rw [if_pos d, if_pos d]
      split <;> split <;> omega
    · rw [if_neg d, if_neg d]
      split <;> split <;> omega
theorem be_mono {R : aRun} (hw : WF R) {s h h' : Int} {k : Nat} {p : Int} (h0 : 0 ≤ p) (hh : h ≤ h') : be R s h k p ≤ be R s h' k p := by
  have hb := bg_in hw (s + 1)
  induction k generalizing p with
  | zero => rw [be_0, be_0]; exact Int.le_refl _
  | succ k ih =>
    rw [be_s, be_s]
    refine mx_le mx_ge (fun e h1 h2 => ?_)
    have hi := ih (p := e) (by omega)
    have hm := mx_at (f := cand R h' (be R s h' k) p) (a := p) (b := bg R (s + 1) + 1) h1 h2
    have hg := mx_ge (f := cand R h' (be R s h' k) p) (a := p) (b := bg R (s + 1) + 1)
    unfold cand at hm ⊢
    by_cases c : 0 ≤ be R s h k e ∧ en R e
    · rw [if_pos c]
      rw [if_pos (show 0 ≤ be R s h' k e ∧ en R e from ⟨by omega, c.2⟩)] at hm
      rcases mi_mono hw (p := p) (e := e) h0 (by omega) hi c.1 hh with q | q
      · omega
      · rw [q]; exact hg
    · rw [if_neg c]; exact hg
/-- what a column takes, by what it leaves -/
theorem mi_iff {R : aRun} (hw : WF R) {p e lv h c : Int} (h0 : 0 ≤ p) (he : e ≤ np R) (hl : 0 ≤ lv) (hc : 0 ≤ c) (hh2 : h ≤ 2000) : c ≤ mi R p e lv h ↔ (lo R p e c h ≠ -1 ∧ lo R p e c h ≤ lv) := by
  have a1 := ol_in hw h0 he
  have a2 := tx_in hw h0 he
  have a3 := li_in hw.2.1 (room := h - tx R p e) (by omega)
  have h6 := hw.2.1.2.2.2.2.2.2.1
  unfold mi lo
  by_cases y : ol R p e ≤ 0
  · have y0 : ol R p e = 0 := by omega
    rw [if_pos y, if_pos y0, if_pos y, y0]
    by_cases z : h < tx R p e + 0
    · rw [if_pos z]
      have hz : li R (h - tx R p e) = 0 := by unfold li; rw [if_pos (by omega)]
      rw [hz]
      by_cases d : 0 + c = 0
      · rw [if_pos d, if_pos (by omega)]; omega
      · rw [if_neg d, if_neg (by omega)]; omega
    · rw [if_neg z]
      by_cases d : 0 + c = 0
      · rw [if_pos d, if_neg (show ¬ h - tx R p e < 0 by omega)]
        split <;> omega
      · rw [if_neg d]
        by_cases x : 1 ≤ li R (h - tx R p e)
        · rw [if_pos x, if_neg (show ¬ li R (h - tx R p e) < 1 by omega)]
          split <;> omega
        · rw [if_neg x, if_pos (show li R (h - tx R p e) < 1 by omega)]
          omega
  · have hl2 := ll_ol hw h0 he (by omega)
    rw [if_neg y, if_neg (show ¬ ol R p e = 0 by omega), if_neg y, if_neg (show ¬ ol R p e + c = 0 by omega)]
    by_cases z : h < tx R p e + rs R 6
    · rw [if_pos z]
      have hz : li R (h - tx R p e) = 0 := by unfold li; rw [if_pos (by omega)]
      rw [hz, if_neg (show ¬ c + ol R p e - ll R e + 1 ≤ 0 by omega)]
      omega
    · rw [if_neg z]
      by_cases x : c + ol R p e - ll R e + 1 ≤ li R (h - tx R p e)
      · rw [if_pos x]
        split <;> split <;> omega
      · rw [if_neg x]
        split <;> omega
/-- a SECTION's rest FITS, by its first column -/
theorem be_iff {R : aRun} (hw : WF R) {s h p c : Int} {k : Nat} (h0 : 0 ≤ p) (hc : 0 ≤ c) (hh2 : h ≤ 2000) : c ≤ be R s h (k + 1) p ↔ ∃ e, p ≤ e ∧ e ≤ bg R (s + 1) ∧ en R e ∧ lo R p e c h ≠ -1 ∧ lo R p e c h ≤ be R s h k e := by
  have hb := bg_in hw (s + 1)
  rw [be_s]
  constructor
  · intro hm
    obtain ⟨e, e1, e2, e3⟩ := mx_found (show 0 ≤ mx (cand R h (be R s h k) p) p (bg R (s + 1) + 1) by omega)
    rw [← e3] at hm
    unfold cand at hm
    by_cases q : 0 ≤ be R s h k e ∧ en R e
    · rw [if_pos q] at hm
      have := (mi_iff hw h0 (by omega) q.1 hc hh2).mp hm
      exact ⟨e, e1, by omega, q.2, this.1, this.2⟩
    · rw [if_neg q] at hm; omega
  · intro ⟨e, e1, e2, e3, e4, e5⟩
    have hm := mx_at (f := cand R h (be R s h k) p) (a := p) (b := bg R (s + 1) + 1) (e := e) e1 (by omega)
    have hlo : 0 ≤ be R s h k e := by
      have : -1 ≤ lo R p e c h := by
        unfold lo
        split
        · split <;> omega
        · split
          · split <;> omega
          · omega
      omega
    have hcd : cand R h (be R s h k) p e = mi R p e (be R s h k e) h := by unfold cand; exact if_pos ⟨hlo, e3⟩
    rw [hcd] at hm
    have := (mi_iff hw h0 (by omega) hlo hc hh2).mpr ⟨e4, e5⟩
    omega
