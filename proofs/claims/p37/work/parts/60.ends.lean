/-! ===== what a computation of numbers ends with ===== -/
def ip {α : Type} (m : iM α) (Q : α → iMem → Prop) (τ : iMem) : Prop := ∃ a τ', m τ = some (a, τ') ∧ Q a τ'
theorem ip_eq {α : Type} {m : iM α} {Q : α → iMem → Prop} {τ τ' : iMem} {a : α} (h : m τ = some (a, τ')) : ip m Q τ ↔ Q a τ' := by
  constructor
  · intro ⟨b, s, h1, h2⟩
    rw [h] at h1
    cases h1
    exact h2
  · intro h2
    exact ⟨a, τ', h, h2⟩
theorem ip_no {α : Type} {m : iM α} {Q : α → iMem → Prop} {τ : iMem} (h : m τ = none) : ¬ ip m Q τ := by
  intro ⟨b, s, h1, _⟩
  rw [h] at h1
  cases h1
theorem ip_cond {α : Type} {m : iM α} {Q : α → iMem → Prop} {τ τ' : iMem} {a : α} {c : Prop} [hc : Decidable c] (h : m τ = if c then some (a, τ') else none) : ip m Q τ ↔ c ∧ Q a τ' := by
  by_cases e : c
  · rw [if_pos e] at h
    rw [ip_eq h]
    exact ⟨fun q => ⟨e, q⟩, fun q => q.2⟩
  · rw [if_neg e] at h
    exact ⟨fun q => absurd q (ip_no h), fun q => absurd q.1 e⟩
theorem ip_P {α : Type} {Q : α → iMem → Prop} {τ : iMem} {a : α} : ip (iP a) Q τ ↔ Q a τ := ip_eq rfl
theorem ip_B {α β : Type} {m : iM α} {f : α → iM β} {Q : β → iMem → Prop} {τ : iMem} : ip (iB m f) Q τ ↔ ip m (fun a τ' => ip (f a) Q τ') τ := by
  constructor
  · intro ⟨b, s, h1, h2⟩
    obtain ⟨a, s1, g1, g2⟩ := iB_some h1
    exact ⟨a, s1, g1, b, s, g2, h2⟩
  · intro ⟨a, s1, g1, b, s, g2, h2⟩
    exact ⟨b, s, (iB_of g1).trans g2, h2⟩
theorem ip_mono {α : Type} {m : iM α} {Q Q' : α → iMem → Prop} {τ : iMem} (h : ip m Q τ) (k : ∀ a τ', Q a τ' → Q' a τ') : ip m Q' τ := by
  obtain ⟨a, s, h1, h2⟩ := h
  exact ⟨a, s, h1, k a s h2⟩
theorem ip_bind {α β : Type} {m : iM α} {f : α → iM β} {R : α → iMem → Prop} {Q : β → iMem → Prop} {τ : iMem} (h : ip m R τ) (k : ∀ a τ', R a τ' → ip (f a) Q τ') : ip (iB m f) Q τ := ip_B.mpr (ip_mono h k)
theorem ip_if {α : Type} {c : Prop} {hc : Decidable c} {m1 m2 : iM α} {Q : α → iMem → Prop} {τ : iMem} : ip (@ite _ c hc m1 m2) Q τ ↔ (c → ip m1 Q τ) ∧ (¬ c → ip m2 Q τ) := by
  by_cases h : c
  · rw [if_pos h]
    exact ⟨fun q => ⟨fun _ => q, fun g => absurd h g⟩, fun q => q.1 h⟩
  · rw [if_neg h]
    exact ⟨fun q => ⟨fun g => absurd g h, fun _ => q⟩, fun q => q.2 h⟩
theorem ip_ifT {α : Type} {c : Prop} {hc : Decidable c} {m1 m2 : iM α} {Q : α → iMem → Prop} {τ : iMem} (h : c) : ip (@ite _ c hc m1 m2) Q τ ↔ ip m1 Q τ := by rw [if_pos h]
theorem ip_ifF {α : Type} {c : Prop} {hc : Decidable c} {m1 m2 : iM α} {Q : α → iMem → Prop} {τ : iMem} (h : ¬ c) : ip (@ite _ c hc m1 m2) Q τ ↔ ip m2 Q τ := by rw [if_neg h]
theorem ip_A {α : Type} {x : Int} {f : Int → iM α} {Q : α → iMem → Prop} {τ : iMem} : ip (iA x f) Q τ ↔ iR x ∧ ip (f x) Q τ := by
  by_cases e : iR x
  · have h : iA x f τ = f x τ := if_pos e
    constructor
    · intro ⟨a, s, h1, h2⟩; exact ⟨e, a, s, h ▸ h1, h2⟩
    · intro ⟨_, a, s, h1, h2⟩; exact ⟨a, s, h.trans h1, h2⟩
  · exact ⟨fun q => absurd q (ip_no (if_neg e)), fun q => absurd q.1 e⟩
section
variable {τ : iMem} {a : Nat} {k x y i : Int}
theorem ip_Gt {Q : Int → iMem → Prop} : ip (iGt a k) Q τ ↔ Q (τ a k) τ := ip_eq rfl
theorem ip_Pt {Q : Unit → iMem → Prop} : ip (iPt a k x) Q τ ↔ Q () (iu τ a k x) := ip_eq rfl
theorem ip_Pz {Q : Unit → iMem → Prop} : ip (iPz a k x) Q τ ↔ (x = 0 ∨ x = 1) ∧ Q () (iu τ a k x) := ip_cond rfl
theorem ip_Ld {Q : Int → iMem → Prop} : ip (iLd a i) Q τ ↔ (0 ≤ i ∧ i < iLen a) ∧ Q (τ a i) τ := ip_cond rfl
theorem ip_Lr {Q : Nat → iMem → Prop} : ip (iLr a i) Q τ ↔ (0 ≤ i ∧ i < iLen a) ∧ Q (qm_rf a i.toNat) τ := ip_cond rfl
theorem ip_St {Q : Unit → iMem → Prop} : ip (iSt a i x) Q τ ↔ ((0 ≤ i ∧ i < iLen a) ∧ a < 405) ∧ Q () (iu τ a i x) := ip_cond rfl
theorem ip_Sz {Q : Unit → iMem → Prop} : ip (iSz a i x) Q τ ↔ (((0 ≤ i ∧ i < iLen a) ∧ a < 405) ∧ (x = 0 ∨ x = 1)) ∧ Q () (iu τ a i x) := ip_cond rfl
theorem ip_Sb {Q : Unit → iMem → Prop} : ip (iSb a i x) Q τ ↔ ((0 ≤ i ∧ i < iLen a) ∧ a < 405) ∧ Q () (iu τ a i (i8 x)) := ip_cond rfl
theorem ip_Dv {Q : Int → iMem → Prop} : ip (iDv x y) Q τ ↔ (0 ≤ x ∧ 0 < y) ∧ Q (x / y) τ := ip_cond rfl
theorem ip_Rm {Q : Int → iMem → Prop} : ip (iRm x y) Q τ ↔ (0 ≤ x ∧ 0 < y) ∧ Q (x % y) τ := ip_cond rfl
theorem ip_Z {Q : Int → iMem → Prop} : ip (iZ x) Q τ ↔ (x = 0 ∨ x = 1) ∧ Q x τ := ip_cond rfl
theorem ip_K {t : Nat} {m : iM Nat} {Q : Nat → iMem → Prop} : ip (iK t m) Q τ ↔ ip m (fun r τ' => (qm_kd r).1 = t ∧ Q r τ') τ := by
  cases hm : m τ with
  | none => exact ⟨fun q => absurd q (ip_no (by unfold iK; rw [hm])), fun q => absurd q (ip_no hm)⟩
  | some r =>
    rw [ip_eq (m := m) (a := r.1) (τ' := r.2) hm]
    exact ip_cond (by unfold iK; rw [hm])
theorem ip_max {Q : Int → iMem → Prop} : ip (iz_Math_max x y) Q τ ↔ Q (if x < y then y else x) τ := ip_eq rfl
theorem ip_min {Q : Int → iMem → Prop} : ip (iz_Math_min x y) Q τ ↔ Q (if y < x then y else x) τ := ip_eq rfl
end
/-- a loop: what holds at each turn, and what becomes less -/
theorem ip_W {S α : Type} {step : S → iM (S ⊕ α)} {Q : α → iMem → Prop} (I : S → iMem → Prop) (μ : S → iMem → Nat) (h : ∀ s τ, I s τ → ip (step s) (fun r τ' => Sum.elim (fun s' => I s' τ' ∧ μ s' τ' < μ s τ) (fun a => Q a τ') r) τ) {s : S} {τ : iMem} (h0 : I s τ) : ip (iW step s) Q τ := by
  have key : ∀ (n : Nat) (s : S) (τ : iMem), I s τ → μ s τ < n → ∃ k a τ', iL step k s τ = some (a, τ') ∧ Q a τ' := by
    intro n
    induction n with
    | zero => intro s τ _ hn; exact absurd hn (Nat.not_lt_zero _)
    | succ n ih =>
      intro s τ hI hn
      obtain ⟨r, τ1, h1, h2⟩ := h s τ hI
      cases r with
      | inl s' =>
        obtain ⟨k, a, τ2, g1, g2⟩ := ih s' τ1 h2.1 (Nat.lt_of_lt_of_le h2.2 (Nat.le_of_lt_succ hn))
        exact ⟨k + 1, a, τ2, (iB_of h1).trans g1, g2⟩
      | inr a => exact ⟨1, a, τ1, (iB_of h1).trans rfl, h2⟩
  obtain ⟨k, a, τ', h1, h2⟩ := key _ s τ h0 (Nat.lt_succ_self _)
  exact ⟨a, τ', iW_iff.mpr ⟨k, h1⟩, h2⟩
/-! the memory -/
theorem iu_at {τ : iMem} {a b : Nat} {k j x : Int} : iu τ a k x b j = if b = a ∧ j = k then x else τ b j := rfl
theorem iu_eq {τ : iMem} {a : Nat} {k x : Int} : iu τ a k x a k = x := if_pos ⟨rfl, rfl⟩
theorem iu_ne {τ : iMem} {a b : Nat} {k j x : Int} (h : b ≠ a ∨ j ≠ k) : iu τ a k x b j = τ b j := if_neg (fun q => h.elim (fun e => e q.1) (fun e => e q.2))
/-- but for these cells the memory is the same -/
def iF_ (A : Nat → Int → Prop) (τ τ' : iMem) : Prop := ∀ b j, ¬ A b j → τ' b j = τ b j
/-! sums -/
def smN (f : Int → Int) : Nat → Int
  | 0 => 0
  | n + 1 => smN f n + f n
def sI (f : Int → Int) (n : Int) : Int := smN f n.toNat
theorem sI_le {f : Int → Int} {n : Int} (h : n ≤ 0) : sI f n = 0 := by
  unfold sI
  rw [Int.toNat_of_nonpos h]
  rfl
theorem sI_0 {f : Int → Int} : sI f 0 = 0 := rfl
theorem sI_s {f : Int → Int} {n : Int} (h : 0 ≤ n) : sI f (n + 1) = sI f n + f n := by
  unfold sI
  rw [show (n + 1).toNat = n.toNat + 1 by omega]
  show smN f n.toNat + f (n.toNat : Int) = _
  rw [show ((n.toNat : Nat) : Int) = n by omega]
theorem sI_ind {f : Int → Int} {P : Int → Int → Prop} (h0 : P 0 0) (hs : ∀ n s, 0 ≤ n → P n s → P (n + 1) (s + f n)) : ∀ n, 0 ≤ n → P n (sI f n) := by
  have key : ∀ k : Nat, P (k : Int) (sI f k) := by
    intro k
    induction k with
    | zero => exact h0
    | succ k ih =>
      have := hs k _ (by omega) ih
      rw [← sI_s (by omega)] at this
      exact this
  intro n hn
  have := key n.toNat
  rwa [show ((n.toNat : Nat) : Int) = n by omega] at this
theorem sI_congr {f g : Int → Int} {n : Int} (h : ∀ i, 0 ≤ i → i < n → f i = g i) : sI f n = sI g n := by
  rcases Int.le_total n 0 with hn | hn
  · rw [sI_le hn, sI_le hn]
  · have := sI_ind (f := f) (P := fun k s => k ≤ n → s = sI g k) (fun _ => rfl) (fun k s hk ih hle => by
      rw [ih (by omega), sI_s hk, h k hk (by omega)]) n hn
    exact this (Int.le_refl n)
theorem sI_bound {f : Int → Int} {n lo hi : Int} (h : ∀ i, 0 ≤ i → i < n → lo ≤ f i ∧ f i ≤ hi) (hn : 0 ≤ n) : lo * n ≤ sI f n ∧ sI f n ≤ hi * n := by
  have := sI_ind (f := f) (P := fun k s => k ≤ n → lo * k ≤ s ∧ s ≤ hi * k) (fun _ => ⟨by omega, by omega⟩) (fun k s hk ih hle => by
      obtain ⟨h1, h2⟩ := ih (by omega)
      obtain ⟨h3, h4⟩ := h k hk (by omega)
      rw [Int.mul_add, Int.mul_add, Int.mul_one, Int.mul_one]
      omega) n hn
  exact this (Int.le_refl n)
theorem sI_mono {f : Int → Int} {a b : Int} (ha : 0 ≤ a) (hb : a ≤ b) (h : ∀ i, a ≤ i → i < b → 0 ≤ f i) : sI f a ≤ sI f b := by
  have key : ∀ d : Nat, a + d ≤ b → sI f a ≤ sI f (a + d) := by
    intro d
    induction d with
    | zero => intro _; rw [show a + ((0 : Nat) : Int) = a by omega]; exact Int.le_refl _
    | succ d ih =>
      intro hd
      have h1 := ih (by omega)
      rw [show a + ((d + 1 : Nat) : Int) = (a + d) + 1 by omega, sI_s (by omega)]
      have := h (a + d) (by omega) (by omega)
      omega
  have := key (b - a).toNat (by omega)
  rwa [show a + (((b - a).toNat : Nat) : Int) = b by omega] at this
/-- where a sum of 0s and more comes to -/
theorem sI_zero {f : Int → Int} {n : Int} (h : ∀ i, 0 ≤ i → i < n → f i = 0) : sI f n = 0 := by
  have h2 : ∀ m : Int, sI (fun _ => 0) m = 0 := by
    intro m
    rcases Int.le_total m 0 with hm | hm
    · exact sI_le hm
    · exact sI_ind (f := fun _ => 0) (P := fun _ s => s = 0) rfl (fun _ s _ e => by omega) m hm
  rw [sI_congr (g := fun _ => 0) h, h2]
