/-! ===== numbers instead of words: the same computations, each sum looked at ===== -/
abbrev iMem : Type := Nat → Int → Int
def iM (α : Type) : Type := iMem → Option (α × iMem)
abbrev iR (x : Int) : Prop := -2147483648 ≤ x ∧ x ≤ 2147483647
def iP {α : Type} (a : α) : iM α := fun τ => some (a, τ)
def iF {α : Type} : iM α := fun _ => none
def iB {α β : Type} (m : iM α) (f : α → iM β) : iM β := fun τ => match m τ with
  | none => none
  | some r => f r.1 r.2
def iu (τ : iMem) (a : Nat) (k x : Int) : iMem := fun b j => if b = a ∧ j = k then x else τ b j
def iLen (a : Nat) : Int := ((qm_kd a).2 : Int)
def iA {α : Type} (x : Int) (f : Int → iM α) : iM α := fun τ => if iR x then f x τ else none
def iGt (a : Nat) (k : Int) : iM Int := fun τ => some (τ a k, τ)
def iPt (a : Nat) (k x : Int) : iM Unit := fun τ => some ((), iu τ a k x)
def iPz (a : Nat) (k x : Int) : iM Unit := fun τ => if x = 0 ∨ x = 1 then some ((), iu τ a k x) else none
def iLd (a : Nat) (i : Int) : iM Int := fun τ => if 0 ≤ i ∧ i < iLen a then some (τ a i, τ) else none
def iLr (a : Nat) (i : Int) : iM Nat := fun τ => if 0 ≤ i ∧ i < iLen a then some (qm_rf a i.toNat, τ) else none
def iSt (a : Nat) (i x : Int) : iM Unit := fun τ => if (0 ≤ i ∧ i < iLen a) ∧ a < 405 then some ((), iu τ a i x) else none
def iSz (a : Nat) (i x : Int) : iM Unit := fun τ => if ((0 ≤ i ∧ i < iLen a) ∧ a < 405) ∧ (x = 0 ∨ x = 1) then some ((), iu τ a i x) else none
def i8 (x : Int) : Int := x.bmod 256
def iSb (a : Nat) (i x : Int) : iM Unit := fun τ => if (0 ≤ i ∧ i < iLen a) ∧ a < 405 then some ((), iu τ a i (i8 x)) else none
def iDv (x y : Int) : iM Int := fun τ => if 0 ≤ x ∧ 0 < y then some (x / y, τ) else none
def iRm (x y : Int) : iM Int := fun τ => if 0 ≤ x ∧ 0 < y then some (x % y, τ) else none
def iZ (x : Int) : iM Int := fun τ => if x = 0 ∨ x = 1 then some (x, τ) else none
def iK (t : Nat) (m : iM Nat) : iM Nat := fun τ => match m τ with
  | none => none
  | some r => if (qm_kd r.1).1 = t then some r else none
def iL {S α : Type} (step : S → iM (S ⊕ α)) : Nat → S → iM α
  | 0, _ => iF
  | n + 1, s => iB (step s) (fun r => Sum.elim (fun s' => iL step n s') (fun a => iP a) r)
noncomputable def iW {S α : Type} (step : S → iM (S ⊕ α)) (s : S) : iM α := fun τ => @dite _ (∃ (n : Nat) (r : α × iMem), iL step n s τ = some r) (Classical.propDecidable _) (fun h => some (Classical.choose (Classical.choose_spec h))) (fun _ => none)
def ibAnd (x y : Int) : Int := (Int32.ofInt x &&& Int32.ofInt y).toInt
def ibOr (x y : Int) : Int := (Int32.ofInt x ||| Int32.ofInt y).toInt
def ibShr (x y : Int) : Int := (Int32.ofInt x >>> Int32.ofInt y).toInt
def ibShl (x y : Int) : Int := (Int32.ofInt x <<< Int32.ofInt y).toInt
def ibAdd (x y : Int) : Int := (Int32.ofInt x + Int32.ofInt y).toInt
def ibSub (x y : Int) : Int := (Int32.ofInt x - Int32.ofInt y).toInt
theorem iB_some {α β : Type} {m : iM α} {f : α → iM β} {τ : iMem} {r : β × iMem} (h : iB m f τ = some r) : ∃ a τ1, m τ = some (a, τ1) ∧ f a τ1 = some r := by
  unfold iB at h
  cases hm : m τ with
  | none => rw [hm] at h; cases h
  | some q => rw [hm] at h; exact ⟨q.1, q.2, rfl, h⟩
theorem iB_of {α β : Type} {m : iM α} {f : α → iM β} {τ τ1 : iMem} {a : α} (h : m τ = some (a, τ1)) : iB m f τ = f a τ1 := by
  unfold iB
  rw [h]
theorem iL_mono {S α : Type} {step : S → iM (S ⊕ α)} : ∀ (n : Nat) (s : S) (τ : iMem) (r : α × iMem), iL step n s τ = some r → iL step (n + 1) s τ = some r
  | 0, _, _, _, h => by cases h
  | n + 1, s, τ, r, h => by
    obtain ⟨q, τ1, h1, h2⟩ := iB_some h
    show iB (step s) _ τ = some r
    rw [iB_of h1]
    cases q with
    | inl s' => exact iL_mono n s' τ1 r h2
    | inr a => exact h2
theorem iL_le {S α : Type} {step : S → iM (S ⊕ α)} {n k : Nat} {s : S} {τ : iMem} {r : α × iMem} (h : iL step n s τ = some r) : iL step (n + k) s τ = some r := by
  induction k with
  | zero => exact h
  | succ k ih => exact iL_mono _ _ _ _ ih
theorem iL_det {S α : Type} {step : S → iM (S ⊕ α)} {n k : Nat} {s : S} {τ : iMem} {r q : α × iMem} (h : iL step n s τ = some r) (h' : iL step k s τ = some q) : r = q := by
  have h1 := iL_le (k := k) h
  have h2 := iL_le (k := n) h'
  rw [Nat.add_comm] at h2
  exact Option.some.inj (h1.symm.trans h2)
theorem iW_iff {S α : Type} {step : S → iM (S ⊕ α)} {s : S} {τ : iMem} {r : α × iMem} : iW step s τ = some r ↔ ∃ n, iL step n s τ = some r := by
  constructor
  · intro h
    unfold iW at h
    by_cases hn : ∃ (n : Nat) (r : α × iMem), iL step n s τ = some r
    · rw [dif_pos hn] at h
      rw [← Option.some.inj h]
      exact ⟨_, Classical.choose_spec (Classical.choose_spec hn)⟩
    · rw [dif_neg hn] at h
      cases h
  · intro ⟨n, hn⟩
    have hx : ∃ (n : Nat) (r : α × iMem), iL step n s τ = some r := ⟨n, r, hn⟩
    unfold iW
    rw [dif_pos hx]
    exact congrArg some (iL_det (Classical.choose_spec (Classical.choose_spec hx)) hn)
/-! what the numbers have to do with the words -/
def iRel (σ : qm_Mem) (τ : iMem) : Prop := ∀ (a k : Nat), τ a (k : Int) = (σ a k).toInt
abbrev ip2 {α β γ δ : Type} (f : α → γ) (g : β → δ) (p : α × β) : γ × δ := (f p.1, g p.2)
abbrev is2 {α β γ δ : Type} (f : α → γ) (g : β → δ) (p : α ⊕ β) : γ ⊕ δ := Sum.elim (fun a => Sum.inl (f a)) (fun b => Sum.inr (g b)) p
abbrev id1 {α : Type} (a : α) : α := a
def iS {α β : Type} (m : qm_M α) (n : iM β) (V : α → β) : Prop := ∀ (σ : qm_Mem) (τ : iMem), iRel σ τ → ∀ (b : β) (τ' : iMem), n τ = some (b, τ') → ∃ a σ', m σ = some (a, σ') ∧ V a = b ∧ iRel σ' τ'
theorem iRel_u {σ : qm_Mem} {τ : iMem} (h : iRel σ τ) (a k : Nat) {x : Int32} {k' x' : Int} (hk : (k : Int) = k') (hx : x.toInt = x') : iRel (qm_u σ a k x) (iu τ a k' x') := by
  intro b j
  unfold qm_u iu
  subst hk hx
  by_cases e : b = a ∧ j = k
  · rw [if_pos ⟨e.1, by rw [e.2]⟩, if_pos e]
  · rw [if_neg (fun q => e ⟨q.1, by exact Int.ofNat.inj q.2⟩), if_neg e]
    exact h b j
theorem is_P {α β : Type} {V : α → β} {a : α} {b : β} (h : V a = b) : iS (mP a) (iP b) V := by
  intro σ τ hr b' τ' e
  cases e
  exact ⟨a, σ, rfl, h, hr⟩
theorem is_F {α β : Type} {V : α → β} {m : qm_M α} : iS m iF V := by
  intro σ τ hr b' τ' e
  cases e
theorem is_B {α α' β β' : Type} {V : α → α'} {W : β → β'} {m : qm_M α} {n : iM α'} {f : α → qm_M β} {g : α' → iM β'} (h1 : iS m n V) (h2 : ∀ a, iS (f a) (g (V a)) W) : iS (mB m f) (iB n g) W := by
  intro σ τ hr b τ' e
  obtain ⟨a', τ1, e1, e2⟩ := iB_some e
  obtain ⟨a, σ1, q1, rfl, q3⟩ := h1 σ τ hr a' τ1 e1
  obtain ⟨c, σ2, p1, p2, p3⟩ := h2 a σ1 τ1 q3 b τ' e2
  exact ⟨c, σ2, (mB_of q1).trans p1, p2, p3⟩
theorem is_E {α α' β β' : Type} {V : α → α'} {W : β → β'} {m : qm_M (α ⊕ β)} {n : iM (α' ⊕ β')} {f : α → qm_M β} {g : α' → iM β'} (h1 : iS m n (is2 V W)) (h2 : ∀ a, iS (f a) (g (V a)) W) : iS (mB m (Sum.elim f mP)) (iB n (Sum.elim g iP)) W := by
  refine is_B h1 (fun a => ?_)
  cases a with
  | inl s => exact h2 s
  | inr s => exact is_P rfl
theorem is_if {α β : Type} {V : α → β} {c c' : Prop} {dc : Decidable c} {dc' : Decidable c'} {m1 m2 : qm_M α} {n1 n2 : iM β} (hc : c ↔ c') (h1 : iS m1 n1 V) (h2 : iS m2 n2 V) : iS (@ite _ c dc m1 m2) (@ite _ c' dc' n1 n2) V := by
  by_cases e : c
  · rw [if_pos e, if_pos (hc.mp e)]; exact h1
  · rw [if_neg e, if_neg (fun q => e (hc.mpr q))]; exact h2
theorem is_A {α β : Type} {V : α → β} {m : qm_M α} {x : Int} {g : Int → iM β} (h : iR x → iS m (g x) V) : iS m (iA x g) V := by
  intro σ τ hr b τ' e
  unfold iA at e
  by_cases hx : iR x
  · rw [if_pos hx] at e; exact h hx σ τ hr b τ' e
  · rw [if_neg hx] at e; cases e
theorem is_Gt {a k : Nat} {k' : Int} (hk : (k : Int) = k') : iS (mGt a k) (iGt a k') Int32.toInt := by
  intro σ τ hr b τ' e
  cases e
  subst hk
  exact ⟨σ a k, σ, rfl, (hr a k).symm, hr⟩
theorem is_Pt {a k : Nat} {k' x' : Int} {x : Int32} (hk : (k : Int) = k') (hx : x.toInt = x') : iS (mPt a k x) (iPt a k' x') id1 := by
  intro σ τ hr b τ' e
  cases e
  exact ⟨(), _, rfl, rfl, iRel_u hr a k hk hx⟩
theorem ix01 {x : Int32} {x' : Int} (hx : x.toInt = x') (h : x' = 0 ∨ x' = 1) : x = 0 ∨ x = 1 := by
  subst hx
  rcases h with h | h
  · exact Or.inl (Int32.toInt_inj.mp h)
  · exact Or.inr (Int32.toInt_inj.mp h)
theorem is_Pz {a k : Nat} {k' x' : Int} {x : Int32} (hk : (k : Int) = k') (hx : x.toInt = x') : iS (mPz a k x) (iPz a k' x') id1 := by
  intro σ τ hr b τ' e
  unfold iPz at e
  by_cases h : x' = 0 ∨ x' = 1
  · rw [if_pos h] at e
    cases e
    exact ⟨(), _, by unfold mPz; rw [if_pos (ix01 hx h)], rfl, iRel_u hr a k hk hx⟩
  · rw [if_neg h] at e; cases e
theorem iin {a : Nat} {i : Int32} {i' : Int} (hi : i.toInt = i') (h : 0 ≤ i' ∧ i' < iLen a) : qm_in a i = true ∧ (i.toNatClampNeg : Int) = i' := by
  subst hi
  unfold iLen at h
  have e : i.toNatClampNeg = i.toInt.toNat := rfl
  refine ⟨?_, by rw [e]; omega⟩
  unfold qm_in
  rw [Bool.and_eq_true, decide_eq_true_iff, decide_eq_true_iff, Int32.le_iff_toInt_le]
  exact ⟨h.1, by rw [e]; omega⟩
theorem is_Ld {a : Nat} {i : Int32} {i' : Int} (hi : i.toInt = i') : iS (mLd a i) (iLd a i') Int32.toInt := by
  intro σ τ hr b τ' e
  unfold iLd at e
  by_cases h : 0 ≤ i' ∧ i' < iLen a
  · rw [if_pos h] at e
    cases e
    obtain ⟨g1, g2⟩ := iin hi h
    exact ⟨_, σ, by unfold mLd; rw [if_pos g1], by rw [← g2]; exact (hr a _).symm, hr⟩
  · rw [if_neg h] at e; cases e
theorem is_Lr {a : Nat} {i : Int32} {i' : Int} (hi : i.toInt = i') : iS (mLr a i) (iLr a i') id1 := by
  intro σ τ hr b τ' e
  unfold iLr at e
  by_cases h : 0 ≤ i' ∧ i' < iLen a
  · rw [if_pos h] at e
    cases e
    obtain ⟨g1, g2⟩ := iin hi h
    exact ⟨_, σ, by unfold mLr; rw [if_pos g1], by rw [show i'.toNat = i.toNatClampNeg by omega], hr⟩
  · rw [if_neg h] at e; cases e
theorem iow {a : Nat} {i : Int} (h : 0 ≤ i ∧ i < iLen a) (ha : a < 405) : qm_ow a = true := by
  unfold iLen at h
  have h1 : ∀ a, a < 405 → (qm_kd a).2 ≠ 0 → a < qm_N := by decide +kernel
  exact decide_eq_true (h1 a ha (by omega))
theorem is_St {a : Nat} {i x : Int32} {i' x' : Int} (hi : i.toInt = i') (hx : x.toInt = x') : iS (mSt a i x) (iSt a i' x') id1 := by
  intro σ τ hr b τ' e
  unfold iSt at e
  by_cases h : (0 ≤ i' ∧ i' < iLen a) ∧ a < 405
  · rw [if_pos h] at e
    cases e
    obtain ⟨g1, g2⟩ := iin hi h.1
    exact ⟨(), _, by unfold mSt; rw [if_pos ⟨g1, iow h.1 h.2⟩], rfl, iRel_u hr a _ g2 hx⟩
  · rw [if_neg h] at e; cases e
theorem is_Sz {a : Nat} {i x : Int32} {i' x' : Int} (hi : i.toInt = i') (hx : x.toInt = x') : iS (mSz a i x) (iSz a i' x') id1 := by
  intro σ τ hr b τ' e
  unfold iSz at e
  by_cases h : ((0 ≤ i' ∧ i' < iLen a) ∧ a < 405) ∧ (x' = 0 ∨ x' = 1)
  · rw [if_pos h] at e
    cases e
    obtain ⟨g1, g2⟩ := iin hi h.1.1
    exact ⟨(), _, by unfold mSz; rw [if_pos ⟨⟨g1, iow h.1.1 h.1.2⟩, ix01 hx h.2⟩], rfl, iRel_u hr a _ g2 hx⟩
  · rw [if_neg h] at e; cases e
theorem ti_8 {x : Int32} {x' : Int} (hx : x.toInt = x') : (x.toInt8.toInt32).toInt = i8 x' := by
  subst hx
  unfold i8
  rw [Int8.toInt_toInt32, Int32.toInt_toInt8]
theorem is_Sb {a : Nat} {i x : Int32} {i' x' : Int} (hi : i.toInt = i') (hx : x.toInt = x') : iS (mSb a i x) (iSb a i' x') id1 := by
  intro σ τ hr b τ' e
  unfold iSb at e
  by_cases h : (0 ≤ i' ∧ i' < iLen a) ∧ a < 405
  · rw [if_pos h] at e
    cases e
    obtain ⟨g1, g2⟩ := iin hi h.1
    exact ⟨(), _, by unfold mSb; rw [if_pos ⟨g1, iow h.1 h.2⟩], rfl, iRel_u hr a _ g2 (ti_8 hx)⟩
  · rw [if_neg h] at e; cases e
theorem ti_div {x y : Int32} {x' y' : Int} (hx : x.toInt = x') (hy : y.toInt = y') (h0 : 0 ≤ x') (h1 : 0 < y') : (x / y).toInt = x' / y' := by
  subst hx hy
  have hd : 0 ≤ x.toInt / y.toInt := Int.ediv_nonneg h0 (by omega)
  have hl : x.toInt / y.toInt ≤ x.toInt := Int.ediv_le_self _ h0
  have hm := x.toInt_lt
  rw [Int32.toInt_div, Int.tdiv_eq_ediv_of_nonneg h0]
  exact Int.bmod_eq_of_le (by omega) (by omega)
theorem iy0 {y : Int32} {y' : Int} (hy : y.toInt = y') (h1 : 0 < y') : ¬ y = 0 := by
  intro e
  subst e
  have : (0 : Int32).toInt = 0 := by decide
  omega
theorem is_Dv {x y : Int32} {x' y' : Int} (hx : x.toInt = x') (hy : y.toInt = y') : iS (mDv x y) (iDv x' y') Int32.toInt := by
  intro σ τ hr b τ' e
  unfold iDv at e
  by_cases h : 0 ≤ x' ∧ 0 < y'
  · rw [if_pos h] at e
    cases e
    exact ⟨_, σ, by unfold mDv; rw [if_neg (iy0 hy h.2)], ti_div hx hy h.1 h.2, hr⟩
  · rw [if_neg h] at e; cases e
theorem ti_add {x y : Int32} {x' y' : Int} (hx : x.toInt = x') (hy : y.toInt = y') (h : iR (x' + y')) : (x + y).toInt = x' + y' := by
  subst hx hy
  rw [Int32.toInt_add]
  exact Int.bmod_eq_of_le (by omega) (by omega)
theorem ti_sub {x y : Int32} {x' y' : Int} (hx : x.toInt = x') (hy : y.toInt = y') (h : iR (x' - y')) : (x - y).toInt = x' - y' := by
  subst hx hy
  rw [Int32.toInt_sub]
  exact Int.bmod_eq_of_le (by omega) (by omega)
theorem ti_mul {x y : Int32} {x' y' : Int} (hx : x.toInt = x') (hy : y.toInt = y') (h : iR (x' * y')) : (x * y).toInt = x' * y' := by
  subst hx hy
  rw [Int32.toInt_mul]
  exact Int.bmod_eq_of_le (by omega) (by omega)
theorem is_Rm {x y : Int32} {x' y' : Int} (hx : x.toInt = x') (hy : y.toInt = y') : iS (mRm x y) (iRm x' y') Int32.toInt := by
  intro σ τ hr b τ' e
  unfold iRm at e
  by_cases h : 0 ≤ x' ∧ 0 < y'
  · rw [if_pos h] at e
    cases e
    refine ⟨_, σ, by unfold mRm; rw [if_neg (iy0 hy h.2)], ?_, hr⟩
    have hd := ti_div hx hy h.1 h.2
    have hm := x.toInt_lt
    have h1 : x' / y' * y' + x' % y' = x' := Int.ediv_mul_add_emod x' y'
    have h2 := Int.emod_nonneg x' (show y' ≠ 0 by omega)
    have h3 : 0 ≤ x' / y' := Int.ediv_nonneg h.1 (by omega)
    have h4 : 0 ≤ x' / y' * y' := Int.mul_nonneg h3 (by omega)
    rw [ti_sub hx (ti_mul hd hy ⟨by omega, by omega⟩) ⟨by omega, by omega⟩]
    omega
  · rw [if_neg h] at e; cases e
theorem is_Z {x : Int32} {x' : Int} (hx : x.toInt = x') : iS (mZ x) (iZ x') Int32.toInt := by
  intro σ τ hr b τ' e
  unfold iZ at e
  by_cases h : x' = 0 ∨ x' = 1
  · rw [if_pos h] at e
    cases e
    exact ⟨x, σ, by unfold mZ; rw [if_pos (ix01 hx h)], hx, hr⟩
  · rw [if_neg h] at e; cases e
theorem is_K {t : Nat} {m : qm_M Nat} {n : iM Nat} (h : iS m n id1) : iS (mK t m) (iK t n) id1 := by
  intro σ τ hr b τ' e
  unfold iK at e
  cases hn : n τ with
  | none => rw [hn] at e; cases e
  | some q =>
    rw [hn] at e
    obtain ⟨a, σ1, q1, q2, q3⟩ := h σ τ hr q.1 q.2 hn
    have q2 : a = q.1 := q2
    by_cases hk : (qm_kd q.1).1 = t
    · have e' : some q = some (b, τ') := by simpa only [hk, if_true] using e
      cases e'
      refine ⟨a, σ1, ?_, q2, q3⟩
      unfold mK
      rw [q1]
      exact if_pos (by rw [q2]; exact hk)
    · have e' : (none : Option (Nat × iMem)) = some (b, τ') := by simpa only [hk, if_false] using e
      cases e'
theorem is_W {S S' α α' : Type} {V : S → S'} {W : α → α'} {step : S → qm_M (S ⊕ α)} {step' : S' → iM (S' ⊕ α')} {s : S} {s' : S'} (h : ∀ s, iS (step s) (step' (V s)) (is2 V W)) (h0 : V s = s') : iS (mW step s) (iW step' s') W := by
  subst h0
  have key : ∀ (n : Nat) (s : S) (σ : qm_Mem) (τ : iMem), iRel σ τ → ∀ (b : α') (τ' : iMem), iL step' n (V s) τ = some (b, τ') → ∃ a σ', mL step n s σ = some (a, σ') ∧ W a = b ∧ iRel σ' τ' := by
    intro n
    induction n with
    | zero => intro s σ τ _ b τ' e; cases e
    | succ n ih =>
      intro s σ τ hr b τ' e
      obtain ⟨q, τ1, e1, e2⟩ := iB_some e
      obtain ⟨a, σ1, q1, rfl, q3⟩ := h s σ τ hr q τ1 e1
      cases a with
      | inl s1 =>
        obtain ⟨c, σ2, p1, p2, p3⟩ := ih s1 σ1 τ1 q3 b τ' e2
        exact ⟨c, σ2, (mB_of q1).trans p1, p2, p3⟩
      | inr c =>
        cases e2
        exact ⟨c, σ1, (mB_of q1).trans rfl, rfl, q3⟩
  intro σ τ hr b τ' e
  obtain ⟨n, hn⟩ := iW_iff.mp e
  obtain ⟨a, σ', p1, p2, p3⟩ := key n s σ τ hr b τ' hn
  exact ⟨a, σ', mW_iff.mpr ⟨n, p1⟩, p2, p3⟩
theorem ti_lt {x y : Int32} {x' y' : Int} (hx : x.toInt = x') (hy : y.toInt = y') : x < y ↔ x' < y' := by
  subst hx hy
  exact Int32.lt_iff_toInt_lt
theorem ti_le {x y : Int32} {x' y' : Int} (hx : x.toInt = x') (hy : y.toInt = y') : x ≤ y ↔ x' ≤ y' := by
  subst hx hy
  exact Int32.le_iff_toInt_le
theorem ti_eq {x y : Int32} {x' y' : Int} (hx : x.toInt = x') (hy : y.toInt = y') : x = y ↔ x' = y' := by
  subst hx hy
  exact Int32.toInt_inj.symm
theorem ti_not {c c' : Prop} (h : c ↔ c') : ¬ c ↔ ¬ c' := not_congr h
theorem ti_and {x y : Int32} {x' y' : Int} (hx : x.toInt = x') (hy : y.toInt = y') : (x &&& y).toInt = ibAnd x' y' := by
  subst hx hy
  unfold ibAnd
  rw [Int32.ofInt_toInt, Int32.ofInt_toInt]
theorem ti_or {x y : Int32} {x' y' : Int} (hx : x.toInt = x') (hy : y.toInt = y') : (x ||| y).toInt = ibOr x' y' := by
  subst hx hy
  unfold ibOr
  rw [Int32.ofInt_toInt, Int32.ofInt_toInt]
theorem ti_shr {x y : Int32} {x' y' : Int} (hx : x.toInt = x') (hy : y.toInt = y') : (x >>> y).toInt = ibShr x' y' := by
  subst hx hy
  unfold ibShr
  rw [Int32.ofInt_toInt, Int32.ofInt_toInt]
theorem ti_shl {x y : Int32} {x' y' : Int} (hx : x.toInt = x') (hy : y.toInt = y') : (x <<< y).toInt = ibShl x' y' := by
  subst hx hy
  unfold ibShl
  rw [Int32.ofInt_toInt, Int32.ofInt_toInt]
theorem ti_wadd {x y : Int32} {x' y' : Int} (hx : x.toInt = x') (hy : y.toInt = y') : (x + y).toInt = ibAdd x' y' := by
  subst hx hy
  unfold ibAdd
  rw [Int32.ofInt_toInt, Int32.ofInt_toInt]
theorem ti_wsub {x y : Int32} {x' y' : Int} (hx : x.toInt = x') (hy : y.toInt = y') : (x - y).toInt = ibSub x' y' := by
  subst hx hy
  unfold ibSub
  rw [Int32.ofInt_toInt, Int32.ofInt_toInt]
theorem ib_self {x : Int} (h : iR x) : (Int32.ofInt x).toInt = x := Int32.toInt_ofInt_of_le (by omega) (by omega)
theorem ibAdd_eq {x y : Int} (h1 : iR x) (h2 : iR y) (h : iR (x + y)) : ibAdd x y = x + y := ti_add (ib_self h1) (ib_self h2) h
theorem ibSub_eq {x y : Int} (h1 : iR x) (h2 : iR y) (h : iR (x - y)) : ibSub x y = x - y := ti_sub (ib_self h1) (ib_self h2) h
theorem tl_len (a : Nat) : (Int32.ofNat (qm_kd a).2).toInt = iLen a := by
  have h : ∀ (l : List (Nat × Nat × Nat)), (∀ q ∈ l, q.2.2 < 100000) → ∀ i, (qm_kl l i).2 < 100000 := by
    intro l
    induction l with
    | nil => intro _ i; exact Nat.lt_of_lt_of_le (Nat.zero_lt_succ 0) (by decide)
    | cons q l ih =>
      intro hq i
      obtain ⟨c, t, n⟩ := q
      unfold qm_kl
      by_cases e : i < c
      · rw [if_pos e]; exact hq (c, t, n) List.mem_cons_self
      · rw [if_neg e]; exact ih (fun q h => hq q (List.mem_cons_of_mem _ h)) _
  have hk : (qm_kd a).2 < 100000 := h qm_runs (by decide +kernel) a
  unfold iLen
  exact Int32.toInt_ofNat_of_lt (Nat.lt_of_lt_of_le hk (by decide))
theorem pinl {α α' β β' : Type} {V : α → α'} {W : β → β'} {a : α} {a' : α'} (h : V a = a') : is2 V W (Sum.inl a) = Sum.inl a' := congrArg Sum.inl h
theorem pinr {α α' β β' : Type} {V : α → α'} {W : β → β'} {b : β} {b' : β'} (h : W b = b') : is2 V W (Sum.inr b) = Sum.inr b' := congrArg Sum.inr h
theorem ppair {α α' β β' : Type} {V : α → α'} {W : β → β'} {a : α} {b : β} {a' : α'} {b' : β'} (h1 : V a = a') (h2 : W b = b') : ip2 V W (a, b) = (a', b') := by subst h1 h2; rfl
/-! what is given -/
def iz_Math_max (x y : Int) : iM Int := iP (if x < y then y else x)
theorem is_Math_max {x y : Int32} {x' y' : Int} (hx : x.toInt = x') (hy : y.toInt = y') : iS (jf_Math_max x y) (iz_Math_max x' y') Int32.toInt := by
  unfold jf_Math_max iz_Math_max
  refine is_P ?_
  subst hx hy
  by_cases h : x < y
  · rw [if_pos h, if_pos (Int32.lt_iff_toInt_lt.mp h)]
  · rw [if_neg h, if_neg (fun q => h (Int32.lt_iff_toInt_lt.mpr q))]
def iz_Math_min (x y : Int) : iM Int := iP (if y < x then y else x)
theorem is_Math_min {x y : Int32} {x' y' : Int} (hx : x.toInt = x') (hy : y.toInt = y') : iS (jf_Math_min x y) (iz_Math_min x' y') Int32.toInt := by
  unfold jf_Math_min iz_Math_min
  refine is_P ?_
  subst hx hy
  by_cases h : y < x
  · rw [if_pos h, if_pos (Int32.lt_iff_toInt_lt.mp h)]
  · rw [if_neg h, if_neg (fun q => h (Int32.lt_iff_toInt_lt.mpr q))]
/-! texts -/
theorem iq_ln (a : Nat) : qs_ln a < 200 := by
  have h : ∀ x ∈ qs_len, x < 200 := by decide +kernel
  unfold qs_ln
  rw [List.getD_eq_getElem?_getD]
  cases e : qs_len[a - 408]? with
  | none => exact Nat.lt_of_lt_of_le (Nat.zero_lt_succ 0) (by decide)
  | some v => exact h v (List.mem_of_getElem? e)
theorem iq_ch (a j : Nat) : 0 ≤ (qs_ch a j).toInt ∧ (qs_ch a j).toInt ≤ 127 := by
  have h : ∀ l ∈ qs_byt, ∀ x ∈ l, 0 ≤ (x : Int32).toInt ∧ x.toInt ≤ 127 := by decide +kernel
  unfold qs_ch
  rw [List.getD_eq_getElem?_getD, List.getD_eq_getElem?_getD]
  cases e : qs_byt[a - 408]? with
  | none =>
    show 0 ≤ (([] : List Int32)[j]?.getD 0).toInt ∧ (([] : List Int32)[j]?.getD 0).toInt ≤ 127
    rw [List.getElem?_nil]
    exact ⟨by decide, by decide⟩
  | some l =>
    show 0 ≤ (l[j]?.getD 0).toInt ∧ (l[j]?.getD 0).toInt ≤ 127
    cases e2 : l[j]? with
    | none => exact ⟨by decide, by decide⟩
    | some v => exact h l (List.mem_of_getElem? e) v (List.mem_of_getElem? e2)
def iCh (a : Nat) (k : Int) : Int := (qs_ch a k.toNat).toInt
def iz_String_length (a : Nat) : iM Int := iP (qs_ln a : Int)
theorem is_String_length {a : Nat} : iS (jf_String_length a) (iz_String_length a) Int32.toInt := by
  intro σ τ hr b τ' e
  have e' := Option.some.inj e
  have eb : b = (qs_ln a : Int) := (congrArg Prod.fst e').symm
  have et : τ' = τ := (congrArg Prod.snd e').symm
  subst eb et
  refine ⟨Int32.ofNat (qs_ln a) >>> ((0 : Int32) &&& 31), σ, rfl, ?_, hr⟩
  have h := iq_ln a
  have e1 : ∀ n, n < 200 → (Int32.ofNat n >>> ((0 : Int32) &&& 31)).toInt = (n : Int) := by decide +kernel
  exact e1 _ h
def iz_String_charAt (a : Nat) (k : Int) : iM Int := fun τ => if 0 ≤ k ∧ k < (qs_ln a : Int) then some (iCh a k, τ) else none
theorem iq_cv (y : Int32) (h : 0 ≤ y.toInt ∧ y.toInt ≤ 127) : ((y &&& 255).toUInt32 % 65536).toInt32 = y ∧ narrow .char (.int y) = .int y := by
  have e1 : ∀ n, n < 128 → ((Int32.ofNat n &&& 255).toUInt32 % 65536).toInt32 = Int32.ofNat n ∧ narrow .char (.int (Int32.ofNat n)) = .int (Int32.ofNat n) := by decide +kernel
  have e2 : Int32.ofNat y.toInt.toNat = y := by
    rw [← Int32.toInt_inj, Int32.toInt_ofNat_of_lt (by omega)]
    omega
  have := e1 y.toInt.toNat (by omega)
  rwa [e2] at this
theorem is_String_charAt {a : Nat} {k : Int32} {k' : Int} (hk : k.toInt = k') : iS (jf_String_charAt a k) (iz_String_charAt a k') Int32.toInt := by
  intro σ τ hr b τ' e
  unfold iz_String_charAt at e
  by_cases h : 0 ≤ k' ∧ k' < (qs_ln a : Int)
  · rw [if_pos h] at e
    rw [Option.some.injEq, Prod.mk.injEq] at e
    obtain ⟨eb, et⟩ := e
    subst hk eb et
    have hl := iq_ln a
    have hn : (Int32.ofNat (qs_ln a)).toInt = (qs_ln a : Int) := Int32.toInt_ofNat_of_lt (by omega)
    have c1 : ¬ k < 0 := fun q => by
      have := Int32.lt_iff_toInt_lt.mp q
      have z : (0 : Int32).toInt = 0 := by decide
      omega
    have c2 : k < Int32.ofNat (qs_ln a) := by
      rw [Int32.lt_iff_toInt_lt, hn]; exact h.2
    have c3 : qs_inb k (qs_ln a) = true := by
      unfold qs_inb
      have : ¬ qs_ln a ≤ k.toNatClampNeg := by
        show ¬ qs_ln a ≤ k.toInt.toNat
        omega
      simp [c1, this]
    obtain ⟨v1, v2⟩ := iq_cv (qs_ch a k.toNatClampNeg) (iq_ch _ _)
    refine ⟨qs_ch a k.toNatClampNeg, σ, ?_, by unfold iCh; rfl, hr⟩
    have e3 : qs_cv a k = qs_ch a k.toNatClampNeg := v1
    have e4 : mCh (qs_ch a k.toNatClampNeg) σ = some (qs_ch a k.toNatClampNeg, σ) := by
      unfold mCh
      exact if_pos v2
    have a0 : jf_String_isLatin1 a σ = some (1, σ) := by
      unfold jf_String_isLatin1
      rw [if_neg (by decide), if_neg (by decide)]
      rfl
    have a1 : jf_Precond_checkIndex k (Int32.ofNat (qs_ln a)) σ = some (k, σ) := by
      unfold jf_Precond_checkIndex
      rw [if_neg c1, if_pos c2]
      rfl
    have a2 : jf_String_checkIndex k (Int32.ofNat (qs_ln a)) σ = some ((), σ) := by
      unfold jf_String_checkIndex
      rw [mB_of a1]
      rfl
    have a3 : jf_Latin1_charAt a k σ = some (qs_ch a k.toNatClampNeg, σ) := by
      unfold jf_Latin1_charAt
      rw [mB_of a2, if_pos c3, e3]
      rfl
    unfold jf_String_charAt
    rw [mB_of a0, if_neg (by decide), mB_of a3, mB_of e4]
    rfl
  · rw [if_neg h] at e; cases e
