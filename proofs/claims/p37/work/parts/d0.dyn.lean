/-! ===== the law's side: a memory that grows, its cells by their addresses; numbers whole ===== -/
abbrev yD : Type := Nat × Nat × (Nat → Nat × Nat) × (Nat → Int → Int) × (Nat → Int → Option Nat)
abbrev yW : Type := iMem × yD
abbrev w_sz (w : yW) : Nat := w.2.1
abbrev w_sl (w : yW) : Nat := w.2.2.1
abbrev w_kd (w : yW) : Nat → Nat × Nat := w.2.2.2.1
abbrev w_iv (w : yW) : Nat → Int → Int := w.2.2.2.2.1
abbrev w_rv (w : yW) : Nat → Int → Option Nat := w.2.2.2.2.2
def yM (α : Type) : Type := yW → Option (α × yW)
def yP {α : Type} (a : α) : yM α := fun w => some (a, w)
def yF {α : Type} : yM α := fun _ => none
def yB {α β : Type} (m : yM α) (f : α → yM β) : yM β := fun w => match m w with
  | none => none
  | some r => f r.1 r.2
def yL {S α : Type} (step : S → yM (S ⊕ α)) : Nat → S → yM α
  | 0, _ => yF
  | n + 1, s => yB (step s) (fun r => Sum.elim (fun s' => yL step n s') (fun a => yP a) r)
noncomputable def yLp {S α : Type} (step : S → yM (S ⊕ α)) (s : S) : yM α := fun w => @dite _ (∃ (n : Nat) (r : α × yW), yL step n s w = some r) (Classical.propDecidable _) (fun h => some (Classical.choose (Classical.choose_spec h))) (fun _ => none)
def y_iv (w : yW) (iv : Nat → Int → Int) : yW := (w.1, w_sz w, w_sl w, w_kd w, iv, w_rv w)
def y_rv (w : yW) (rv : Nat → Int → Option Nat) : yW := (w.1, w_sz w, w_sl w, w_kd w, w_iv w, rv)
def yur (rv : Nat → Int → Option Nat) (a : Nat) (k : Int) (r : Option Nat) : Nat → Int → Option Nat := fun b j => if b = a ∧ j = k then r else rv b j
def ynew (w : yW) (kd : Nat × Nat) (n : Nat) (row : Int → Int) : yW := (w.1, w_sz w + 1, w_sl w + n, (fun a => if a = w_sz w then kd else w_kd w a), (fun a k => if a = w_sz w then row k else w_iv w a k), fun a k => if a = w_sz w then none else w_rv w a k)
def yR (x : Int) : yM Unit := fun w => if iR x then some ((), w) else none
def yR2 (x y : Int) : yM Unit := fun w => if iR x ∧ iR y then some ((), w) else none
def yDv (x y : Int) : yM Int := fun w => if (iR x ∧ iR y) ∧ y ≠ 0 ∧ y ≠ -1 then some (x.tdiv y, w) else none
def yRm (x y : Int) : yM Int := fun w => if (iR x ∧ iR y) ∧ y ≠ 0 ∧ y ≠ -1 then some (x.tmod y, w) else none
abbrev yck (t t' : Nat) : Prop := t' = t ∨ (t = 22 ∧ t' = 36)
def yGt (t : Nat) (a : Option Nat) (k : Int) : yM Int := fun w => match a with
  | none => none
  | some p => if yck t (w_kd w p).1 then some (w_iv w p k, w) else none
def yGr (t : Nat) (a : Option Nat) (k : Int) : yM (Option Nat) := fun w => match a with
  | none => none
  | some p => if yck t (w_kd w p).1 then some (w_rv w p k, w) else none
def yPt (t : Nat) (a : Option Nat) (k x : Int) : yM Unit := fun w => match a with
  | none => none
  | some p => if (w_kd w p).1 = t then some ((), y_iv w (iu (w_iv w) p k x)) else none
def yPz (t : Nat) (a : Option Nat) (k x : Int) : yM Unit := fun w => match a with
  | none => none
  | some p => if (w_kd w p).1 = t ∧ (x = 0 ∨ x = 1) then some ((), y_iv w (iu (w_iv w) p k x)) else none
def yPr (t : Nat) (a : Option Nat) (k : Int) (r : Option Nat) : yM Unit := fun w => match a with
  | none => none
  | some p => if (w_kd w p).1 = t then some ((), y_rv w (yur (w_rv w) p k r)) else none
def yLd (t : Nat) (a : Option Nat) (i : Int) : yM Int := fun w => match a with
  | none => none
  | some p => if ((w_kd w p).1 = t ∨ (w_kd w p).1 = t + 30) ∧ 0 ≤ i ∧ i < ((w_kd w p).2 : Int) ∧ (w_kd w p).2 ≤ 100000 then some (w_iv w p i, w) else none
def ySt (a : Option Nat) (i x : Int) : yM Unit := fun w => match a with
  | none => none
  | some p => if (w_kd w p).1 = 1 ∧ 0 ≤ i ∧ i < ((w_kd w p).2 : Int) ∧ (w_kd w p).2 ≤ 100000 then some ((), y_iv w (iu (w_iv w) p i x)) else none
def ySb (a : Option Nat) (i x : Int) : yM Unit := fun w => match a with
  | none => none
  | some p => if (w_kd w p).1 = 3 ∧ 0 ≤ i ∧ i < ((w_kd w p).2 : Int) ∧ (w_kd w p).2 ≤ 100000 then some ((), y_iv w (iu (w_iv w) p i (i8 x))) else none
def yLr (t : Nat) (a : Option Nat) (i : Int) : yM (Option Nat) := fun w => match a with
  | none => none
  | some p => if (w_kd w p).1 = t ∧ 0 ≤ i ∧ i < ((w_kd w p).2 : Int) ∧ (w_kd w p).2 ≤ 100000 then some (w_rv w p i, w) else none
def ySr (t t' : Nat) (a : Option Nat) (i : Int) (r : Option Nat) : yM Unit := fun w => match a, r with
  | some p, some q => if ((w_kd w p).1 = t ∧ (w_kd w q).1 = t') ∧ 0 ≤ i ∧ i < ((w_kd w p).2 : Int) ∧ (w_kd w p).2 ≤ 100000 then some ((), y_rv w (yur (w_rv w) p i (some q))) else none
  | _, _ => none
def yLn (a : Option Nat) : yM Int := fun w => match a with
  | none => none
  | some p => if (w_kd w p).1 = 1 ∨ (w_kd w p).1 = 3 ∨ (w_kd w p).1 = 4 ∨ (w_kd w p).1 = 7 ∨ (w_kd w p).1 = 31 ∨ (w_kd w p).1 = 33 then some (((w_kd w p).2 : Int), w) else none
def yNo (t : Nat) : yM (Option Nat) := fun w => some (some (w_sz w), ynew w (t, 0) (qm_nf (t - 10)) (fun _ => 0))
def yNa (t : Nat) (n : Int) : yM (Option Nat) := fun w => if 0 ≤ n ∧ n ≤ 100000 then some (some (w_sz w), ynew w (t, n.toNat) n.toNat (fun _ => 0)) else none
def yCl (a : Option Nat) : yM (Option Nat) := fun w => match a with
  | none => none
  | some p => if (w_kd w p).1 = 1 then some (some (w_sz w), ynew w (w_kd w p) (w_kd w p).2 (w_iv w p)) else none
def ycpy (iv : Nat → Int → Int) (p q : Nat) (sp dp n : Int) : Nat → Int → Int := fun a k => if a = q ∧ dp ≤ k ∧ k < dp + n then iv p (sp + (k - dp)) else iv a k
noncomputable def yCp (t : Nat) (a : Option Nat) (sp : Int) (b : Option Nat) (dp n : Int) : yM Unit := fun w => match a, b with
  | some p, some q => @ite _ ((((w_kd w p).1 = t ∨ (w_kd w p).1 = t + 30) ∧ (w_kd w q).1 = t ∧ p ≠ q) ∧ (0 ≤ sp ∧ 0 ≤ dp ∧ 0 ≤ n) ∧ (sp + n ≤ ((w_kd w p).2 : Int) ∧ dp + n ≤ ((w_kd w q).2 : Int)) ∧ ((w_kd w p).2 ≤ 100000 ∧ (w_kd w q).2 ≤ 100000) ∧ (t = 3 → ∀ i, 0 ≤ i → i < n → -128 ≤ w_iv w p (sp + i) ∧ w_iv w p (sp + i) ≤ 127)) (Classical.propDecidable _) (some ((), y_iv w (ycpy (w_iv w) p q sp dp n))) none
  | _, _ => none
/-- a call: what was made isn't less behind it -/
def yK {α : Type} (m : yM α) : yM α := fun w => match m w with
  | none => none
  | some r => if w_sz w ≤ w_sz r.2 ∧ w_sl w ≤ w_sl r.2 then some r else none
/-- a call of the object under test -/
def yC {α : Type} (xs : List Int) (m : iM α) : yM α := fun w => if ∀ x ∈ xs, iR x then (match m w.1 with
  | none => none
  | some r => some (r.1, (r.2, w.2))) else none
theorem yB_some {α β : Type} {m : yM α} {f : α → yM β} {w : yW} {r : β × yW} (h : yB m f w = some r) : ∃ a w1, m w = some (a, w1) ∧ f a w1 = some r := by
  unfold yB at h
  cases hm : m w with
  | none => rw [hm] at h; cases h
  | some q => rw [hm] at h; exact ⟨q.1, q.2, rfl, h⟩
theorem yB_of {α β : Type} {m : yM α} {f : α → yM β} {w w1 : yW} {a : α} (h : m w = some (a, w1)) : yB m f w = f a w1 := by
  unfold yB
  rw [h]
theorem yL_mono {S α : Type} {step : S → yM (S ⊕ α)} : ∀ (n : Nat) (s : S) (w : yW) (r : α × yW), yL step n s w = some r → yL step (n + 1) s w = some r
  | 0, _, _, _, h => by cases h
  | n + 1, s, w, r, h => by
    obtain ⟨q, w1, h1, h2⟩ := yB_some h
    show yB (step s) _ w = some r
    rw [yB_of h1]
    cases q with
    | inl s' => exact yL_mono n s' w1 r h2
    | inr a => exact h2
theorem yL_le {S α : Type} {step : S → yM (S ⊕ α)} {n k : Nat} {s : S} {w : yW} {r : α × yW} (h : yL step n s w = some r) : yL step (n + k) s w = some r := by
  induction k with
  | zero => exact h
  | succ k ih => exact yL_mono _ _ _ _ ih
theorem yL_det {S α : Type} {step : S → yM (S ⊕ α)} {n k : Nat} {s : S} {w : yW} {r q : α × yW} (h : yL step n s w = some r) (h' : yL step k s w = some q) : r = q := by
  have h1 := yL_le (k := k) h
  have h2 := yL_le (k := n) h'
  rw [Nat.add_comm] at h2
  exact Option.some.inj (h1.symm.trans h2)
theorem yLp_iff {S α : Type} {step : S → yM (S ⊕ α)} {s : S} {w : yW} {r : α × yW} : yLp step s w = some r ↔ ∃ n, yL step n s w = some r := by
  constructor
  · intro h
    unfold yLp at h
    by_cases hn : ∃ (n : Nat) (r : α × yW), yL step n s w = some r
    · rw [dif_pos hn] at h
      rw [← Option.some.inj h]
      exact ⟨_, Classical.choose_spec (Classical.choose_spec hn)⟩
    · rw [dif_neg hn] at h
      cases h
  · intro ⟨n, hn⟩
    have hx : ∃ (n : Nat) (r : α × yW), yL step n s w = some r := ⟨n, r, hn⟩
    unfold yLp
    rw [dif_pos hx]
    exact congrArg some (yL_det (Classical.choose_spec (Classical.choose_spec hx)) hn)
/-! the machine's side -/
abbrev yi (x : Int) : Value := .int (Int32.ofInt x)
/-- base; what is read alone: kinds, numbers, references; places: texts 0 to 19, DigitOnes 20, DigitTens 21, the script 22 -/
abbrev yY : Type := Nat × (Nat → Nat × Nat) × (Nat → Int → Int) × (Nat → Int → Option Nat) × (Nat → Nat)
abbrev y_ad (Y : yY) (i : Nat) : Nat := Y.2.2.2.2 i
def yA (Y : yY) : Nat → Prop := fun q => Y.1 ≤ q
def y_fs (w : yW) (t p : Nat) : List Value := (List.range (qm_nf t)).map (fun k => if qm_ft t k = true then va_rf (w_rv w p (k : Int)) else yi (w_iv w p (k : Int)))
def yE (G : qm_G) (w : yW) (p : Nat) : Option va_E :=
  if (w_kd w p).1 = 1 ∨ (w_kd w p).1 = 3 then some (.inl (G.2.2 (w_kd w p).1, (w_kd w p).2, .inl (fun j => Int32.ofInt (w_iv w p (j : Int)))))
  else if (w_kd w p).1 = 4 ∨ (w_kd w p).1 = 7 then some (.inl (G.2.2 (w_kd w p).1, (w_kd w p).2, .inr (.inr (.inr (.inr (fun j => w_rv w p (j : Int)))))))
  else if 19 ≤ (w_kd w p).1 ∧ (w_kd w p).1 ≤ 22 then some (.inr ((w_kd w p).1 - 10, y_fs w ((w_kd w p).1 - 10) p))
  else none
def yH (G : qm_G) (w : yW) (H : Heap) : Prop := w_sz w ≤ H.size ∧ ∀ (p : Nat) (e : va_E), yE G w p = some e → va_at G.2.1 qm_cl (p, e) H
def yQ (G : qm_G) (κ : iMem) (H : Heap) : Prop := ∃ σ, iRel σ κ ∧ qm_H G σ H
def yI (Y : yY) (w : yW) : Prop := (∀ p, (w_kd w p).1 ≠ 0 → p < w_sz w) ∧ (∀ p, p < Y.1 → w_kd w p = Y.2.1 p ∧ w_iv w p = Y.2.2.1 p ∧ w_rv w p = Y.2.2.2.1 p) ∧ (∀ p, Y.1 ≤ p → (w_kd w p).1 < 30) ∧ (∀ p, Y.1 ≤ p → (w_kd w p).1 ≠ 0 → Y.1 + 367 ≤ p) ∧ Y.1 + 367 ≤ w_sz w
/-- what is read alone stands where it stood -/
def ys_all : List (String × Nat × String × Nat) := [(qr_LRun, 38, "columns", 1), (qr_LRun, 40, "height", 2), (qr_LRun, 42, "orphans", 3), (qr_LRun, 44, "widows", 4), (qr_LRun, 46, "follow", 5), (qr_LRun, 48, "note", 6), (qr_LRun, 50, "rule", 7), (qr_LRun, 52, "room", 8), (qr_LRun, 54, "lines", 9), (qr_LRun, 56, "solid", 10), (qr_LRun, 58, "head", 11), (qr_LRun, 60, "table", 12), (qr_LRun, 62, "span", 13), (qr_LRun, 69, ";", 14), (qr_LRun, 71, "", 15), (qr_LRun, 83, " tied", 16), (qr_LRun, 85, " whole", 17), (qr_LRun, 87, " space ", 18), (qr_LRun, 89, " mark ", 19)]
def ys_nw : List Cond := [.castable "[I" "java/lang/Cloneable", .castable "[B" "java/lang/Cloneable", .selects "java/lang/StringBuilder" ⟨"java/lang/AbstractStringBuilder", "ensureCapacityInternal", "(I)V"⟩ ⟨"java/lang/AbstractStringBuilder", "ensureCapacityInternal", "(I)V"⟩, .selects "java/lang/StringBuilder" ⟨"java/lang/AbstractStringBuilder", "inflateIfNeededFor", "(Ljava/lang/String;)V"⟩ ⟨"java/lang/AbstractStringBuilder", "inflateIfNeededFor", "(Ljava/lang/String;)V"⟩, .selects "java/lang/StringBuilder" ⟨"java/lang/AbstractStringBuilder", "putStringAt", "(ILjava/lang/String;)V"⟩ ⟨"java/lang/AbstractStringBuilder", "putStringAt", "(ILjava/lang/String;)V"⟩]
def y_len : MethodName := ⟨"java/lang/CharSequence", "length", "()I"⟩
def y_chr : MethodName := ⟨"java/lang/CharSequence", "charAt", "(I)C"⟩
def yZ (Y : yY) (A : Nat → Prop) (U : State) (H : Heap) : Prop :=
  (∀ p, (Y.2.1 p).1 = 0 ∨ (Y.2.1 p).1 = 31 ∨ (Y.2.1 p).1 = 33 ∨ (Y.2.1 p).1 = 36) ∧
  (∀ p, (Y.2.1 p).1 = 31 → va_T .int p (Y.2.1 p).2 (fun j => yi (Y.2.2.1 p (j : Int))) A U H) ∧
  (∀ p, (Y.2.1 p).1 = 33 → va_T .byte p (Y.2.1 p).2 (fun j => yi (Y.2.2.1 p (j : Int))) A U H) ∧
  (∀ p, (Y.2.1 p).1 = 36 → va_O "java/lang/String" p A U H ∧ va_OF "java/lang/String" "value" "[B" (va_rf (Y.2.2.2.1 p 0)) p A U H ∧ va_OF "java/lang/String" "coder" "B" (yi (Y.2.2.1 p 1)) p A U H) ∧
  (va_Z "java/lang/Integer" "DigitOnes" "[B" (.ref (y_ad Y 20)) A U H ∧ va_Z "java/lang/Integer" "DigitTens" "[B" (.ref (y_ad Y 21)) A U H) ∧
  (∀ r ∈ ys_all, vk_R r.1 r.2.1 r.2.2.1 (y_ad Y r.2.2.2) U) ∧
  (va_Fw "java/lang/String" y_len jy_String_length U ∧ va_Fw "java/lang/String" y_chr jy_String_charAt U) ∧ (∀ c ∈ ys_nw, va_Nw c U) ∧ (va_AO "java/lang/String" U ∧ (Cond.arrayOver (.array .int)).before #[] U = true)
def yGG (G : qm_G) (Y : yY) : Prop := qm_GI G ∧ ∀ i, i < qm_N → Y.1 ≤ G.1 i ∧ G.1 i < Y.1 + 367
/-- the cells and the slots at the end, the slots at the start -/
abbrev yFn : Type := Nat × Nat × Nat
def y_ok (X : qm_X) (Y : yY) (Fn : yFn) (own : String) (cc : ByteArray) (nL f lo : Nat) (l : List qm_I) : Prop :=
  qm_ok X own cc nL f lo l ∧ qx_A X = yA Y ∧ Y.1 ≤ (qx_s X).heap.size ∧ yGG (qx_G X) Y ∧ ((qx_R X).cells = Fn.1 - (qx_s X).heap.size ∧ (qx_R X).slots = Fn.2.1 - Fn.2.2) ∧ yZ Y (yA Y) (qx_s X) (qx_s X).heap
def yV (X : qm_X) (Y : yY) (Fn : yFn) (w : yW) (H : Heap) (locs : List Loc) : Prop :=
  (yI Y w ∧ ((qx_s X).heap.size ≤ w_sz w ∧ Fn.2.2 ≤ w_sl w)) ∧ yQ (qx_G X) w.1 H ∧ yH (qx_G X) w H ∧ va_S (yA Y) (qx_s X).heap H locs
abbrev yq (X : qm_X) (H : Heap) (locs : List Loc) (ce sl : Nat) (g : JFrame) : Prop := W (qx_p X) (qx_l X) (qx_e X) (qx_R X) (qx_s X) (qx_m X) (qx_args X) (qx_below X) (qx_meth X) (qx_c X) H locs ce sl (qx_Q X) g
def yJ (X : qm_X) (Y : yY) (Fn : yFn) (pc : Nat) (ρ : List (Option Value)) (st : List Value) (w : yW) : Prop :=
  (w_sz w ≤ Fn.1 ∧ w_sl w ≤ Fn.2.1) ∧ ∀ (H : Heap) (locs : List Loc) (ls : Array Slot), yV X Y Fn w H locs → qm_L ls (qx_c X).maxLocals ρ → yq X H locs (w_sz w - (qx_s X).heap.size) (w_sl w - Fn.2.2) (F0 (qx_m X) pc ls st)
def yb {α : Type} (X : qm_X) (Y : yY) (Fn : yFn) (m : yM α) (pc : Nat) (ρ : List (Option Value)) (st : List Value) (κ : α → yW → Prop) : Prop :=
  ∀ (w : yW) (a : α) (w' : yW), m w = some (a, w') → κ a w' → yJ X Y Fn pc ρ st w
theorem yi_toInt {x : Int} (h : iR x) : (Int32.ofInt x).toInt = x := by
  rw [Int32.toInt_ofInt]
  exact Int.bmod_eq_of_le (by have : Int32.size = 4294967296 := rfl; omega) (by have : Int32.size = 4294967296 := rfl; omega)
theorem yi_add (x y : Int) : Int32.ofInt x + Int32.ofInt y = Int32.ofInt (x + y) := (Int32.ofInt_add x y).symm
theorem yi_sub (x y : Int) : Int32.ofInt x - Int32.ofInt y = Int32.ofInt (x - y) := (Int32.ofInt_sub x y).symm
theorem yi_mul (x y : Int) : Int32.ofInt x * Int32.ofInt y = Int32.ofInt (x * y) := (Int32.ofInt_mul x y).symm
theorem yi_neg (x : Int) : - Int32.ofInt x = Int32.ofInt (-x) := (Int32.ofInt_neg x).symm
theorem yi_of (x : Int32) : Int32.ofInt x.toInt = x := Int32.ofInt_toInt x
def ybAnd (x y : Int) : Int := (Int32.ofInt x &&& Int32.ofInt y).toInt
def ybOr (x y : Int) : Int := (Int32.ofInt x ||| Int32.ofInt y).toInt
def ybShl (x y : Int) : Int := (Int32.ofInt x <<< (Int32.ofInt y &&& 31)).toInt
def ybShr (x y : Int) : Int := (Int32.ofInt x >>> (Int32.ofInt y &&& 31)).toInt
def ybUshr (x y : Int) : Int := ((Int32.ofInt x).toUInt32 >>> ((Int32.ofInt y).toUInt32 &&& Int32.toUInt32 31)).toInt32.toInt
def ybC (x : Int) : Int := ((Int32.ofInt x).toUInt32 % 65536).toInt32.toInt
def ybB (x : Int) : Int := (Int32.ofInt x).toInt8.toInt32.toInt
