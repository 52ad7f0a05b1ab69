def qm_tb : List Cond := lw_tbl.filter goodWord
abbrev qm_Mem : Type := Nat → Nat → Int32
def qm_M (α : Type) : Type := qm_Mem → Option (α × qm_Mem)
def mP {α : Type} (a : α) : qm_M α := fun σ => some (a, σ)
def mF {α : Type} : qm_M α := fun _ => none
def mB {α β : Type} (m : qm_M α) (f : α → qm_M β) : qm_M β := fun σ => match m σ with
  | none => none
  | some r => f r.1 r.2
def qm_u (σ : qm_Mem) (a k : Nat) (x : Int32) : qm_Mem := fun b j => if b = a ∧ j = k then x else σ b j
/-- an index within a row -/
def qm_in (a : Nat) (i : Int32) : Bool := decide (0 ≤ i) && decide (i.toNatClampNeg < (qm_kd a).2)
def qm_ow (a : Nat) : Bool := decide (a < qm_N)
def mGt (a k : Nat) : qm_M Int32 := fun σ => some (σ a k, σ)
def mPt (a k : Nat) (x : Int32) : qm_M Unit := fun σ => some ((), qm_u σ a k x)
def mPz (a k : Nat) (x : Int32) : qm_M Unit := fun σ => if x = 0 ∨ x = 1 then some ((), qm_u σ a k x) else none
def mLd (a : Nat) (i : Int32) : qm_M Int32 := fun σ => if qm_in a i = true then some (σ a i.toNatClampNeg, σ) else none
def mLr (a : Nat) (i : Int32) : qm_M Nat := fun σ => if qm_in a i = true then some (qm_rf a i.toNatClampNeg, σ) else none
def mSt (a : Nat) (i x : Int32) : qm_M Unit := fun σ => if qm_in a i = true ∧ qm_ow a = true then some ((), qm_u σ a i.toNatClampNeg x) else none
def mSz (a : Nat) (i x : Int32) : qm_M Unit := fun σ => if (qm_in a i = true ∧ qm_ow a = true) ∧ (x = 0 ∨ x = 1) then some ((), qm_u σ a i.toNatClampNeg x) else none
def mSb (a : Nat) (i x : Int32) : qm_M Unit := fun σ => if qm_in a i = true ∧ qm_ow a = true then some ((), qm_u σ a i.toNatClampNeg x.toInt8.toInt32) else none
def mDv (x y : Int32) : qm_M Int32 := fun σ => if y = 0 then none else some (x / y, σ)
def mRm (x y : Int32) : qm_M Int32 := fun σ => if y = 0 then none else some (x - x / y * y, σ)
def mZ (x : Int32) : qm_M Int32 := fun σ => if x = 0 ∨ x = 1 then some (x, σ) else none
def mK (t : Nat) (m : qm_M Nat) : qm_M Nat := fun σ => match m σ with
  | none => none
  | some r => if (qm_kd r.1).1 = t then some r else none
def mL {S α : Type} (step : S → qm_M (S ⊕ α)) : Nat → S → qm_M α
  | 0, _ => mF
  | n + 1, s => mB (step s) (fun r => Sum.elim (fun s' => mL step n s') (fun a => mP a) r)
noncomputable def mW {S α : Type} (step : S → qm_M (S ⊕ α)) (s : S) : qm_M α := fun σ => @dite _ (∃ (n : Nat) (r : α × qm_Mem), mL step n s σ = some r) (Classical.propDecidable _) (fun h => some (Classical.choose (Classical.choose_spec h))) (fun _ => none)
theorem mB_some {α β : Type} {m : qm_M α} {f : α → qm_M β} {σ : qm_Mem} {r : β × qm_Mem} (h : mB m f σ = some r) : ∃ a σ1, m σ = some (a, σ1) ∧ f a σ1 = some r := by
  unfold mB at h
  cases hm : m σ with
  | none => rw [hm] at h; cases h
  | some q => rw [hm] at h; exact ⟨q.1, q.2, rfl, h⟩
theorem mB_of {α β : Type} {m : qm_M α} {f : α → qm_M β} {σ σ1 : qm_Mem} {a : α} (h : m σ = some (a, σ1)) : mB m f σ = f a σ1 := by
  unfold mB
  rw [h]
theorem mL_mono {S α : Type} {step : S → qm_M (S ⊕ α)} : ∀ (n : Nat) (s : S) (σ : qm_Mem) (r : α × qm_Mem), mL step n s σ = some r → mL step (n + 1) s σ = some r
  | 0, _, _, _, h => by cases h
  | n + 1, s, σ, r, h => by
    obtain ⟨q, σ1, h1, h2⟩ := mB_some h
    show mB (step s) _ σ = some r
    rw [mB_of h1]
    cases q with
    | inl s' => exact mL_mono n s' σ1 r h2
    | inr a => exact h2
theorem mL_le {S α : Type} {step : S → qm_M (S ⊕ α)} {n k : Nat} {s : S} {σ : qm_Mem} {r : α × qm_Mem} (h : mL step n s σ = some r) : mL step (n + k) s σ = some r := by
  induction k with
  | zero => exact h
  | succ k ih => exact mL_mono _ _ _ _ ih
theorem mL_det {S α : Type} {step : S → qm_M (S ⊕ α)} {n k : Nat} {s : S} {σ : qm_Mem} {r q : α × qm_Mem} (h : mL step n s σ = some r) (h' : mL step k s σ = some q) : r = q := by
  have h1 := mL_le (k := k) h
  have h2 := mL_le (k := n) h'
  rw [Nat.add_comm] at h2
  exact Option.some.inj (h1.symm.trans h2)
theorem mW_iff {S α : Type} {step : S → qm_M (S ⊕ α)} {s : S} {σ : qm_Mem} {r : α × qm_Mem} : mW step s σ = some r ↔ ∃ n, mL step n s σ = some r := by
  constructor
  · intro h
    unfold mW at h
    by_cases hn : ∃ (n : Nat) (r : α × qm_Mem), mL step n s σ = some r
    · rw [dif_pos hn] at h
      rw [← Option.some.inj h]
      exact ⟨_, Classical.choose_spec (Classical.choose_spec hn)⟩
    · rw [dif_neg hn] at h
      cases h
  · intro ⟨n, hn⟩
    have hx : ∃ (n : Nat) (r : α × qm_Mem), mL step n s σ = some r := ⟨n, r, hn⟩
    unfold mW
    rw [dif_pos hx]
    exact congrArg some (mL_det (Classical.choose_spec (Classical.choose_spec hx)) hn)
/-! the machine's side -/
abbrev qm_G : Type := (Nat → Nat) × va_G × (Nat → ClassId)
abbrev qm_X : Type := Program × Launch × Env × Room × State × MethodId × Array Value × List Frame × Method × Code × qm_G × (Nat → Prop) × Nat × Nat × (State → Prop)
abbrev qx_p (X : qm_X) : Program := X.1
abbrev qx_l (X : qm_X) : Launch := X.2.1
abbrev qx_e (X : qm_X) : Env := X.2.2.1
abbrev qx_R (X : qm_X) : Room := X.2.2.2.1
abbrev qx_s (X : qm_X) : State := X.2.2.2.2.1
abbrev qx_m (X : qm_X) : MethodId := X.2.2.2.2.2.1
abbrev qx_args (X : qm_X) : Array Value := X.2.2.2.2.2.2.1
abbrev qx_below (X : qm_X) : List Frame := X.2.2.2.2.2.2.2.1
abbrev qx_meth (X : qm_X) : Method := X.2.2.2.2.2.2.2.2.1
abbrev qx_c (X : qm_X) : Code := X.2.2.2.2.2.2.2.2.2.1
abbrev qx_G (X : qm_X) : qm_G := X.2.2.2.2.2.2.2.2.2.2.1
abbrev qx_A (X : qm_X) : Nat → Prop := X.2.2.2.2.2.2.2.2.2.2.2.1
abbrev qx_cells (X : qm_X) : Nat := X.2.2.2.2.2.2.2.2.2.2.2.2.1
abbrev qx_slots (X : qm_X) : Nat := X.2.2.2.2.2.2.2.2.2.2.2.2.2.1
abbrev qx_Q (X : qm_X) : State → Prop := X.2.2.2.2.2.2.2.2.2.2.2.2.2.2
abbrev qx_W (X : qm_X) (H : Heap) (locs : List Loc) (g : JFrame) : Prop := W (qx_p X) (qx_l X) (qx_e X) (qx_R X) (qx_s X) (qx_m X) (qx_args X) (qx_below X) (qx_meth X) (qx_c X) H locs (qx_cells X) (qx_slots X) (qx_Q X) g
abbrev qx_ad (X : qm_X) (i : Nat) : Nat := (qx_G X).1 i
def qm_nf (t : Nat) : Nat := match qm_cl[t]? with
  | some r => r.2.2
  | none => 0
def qm_ft (t k : Nat) : Bool := match qm_ftl[t]? with
  | some r => r.getD k false
  | none => false
def qm_vl (G : qm_G) (t i : Nat) (σ : qm_Mem) (k : Nat) : Value := if qm_ft t k = true then .ref (G.1 (qm_rf i k)) else .int (σ i k)
def qm_fs (G : qm_G) (t i : Nat) (σ : qm_Mem) : List Value := (List.range (qm_nf t)).map (qm_vl G t i σ)
def qm_E (G : qm_G) (σ : qm_Mem) (i : Nat) : Option va_E :=
  if ((qm_kd i).1 = 1 ∨ (qm_kd i).1 = 2 ∨ (qm_kd i).1 = 3) ∧ i < qm_N then some (.inl (G.2.2 (qm_kd i).1, (qm_kd i).2, .inl (σ i)))
  else if (qm_kd i).1 = 4 ∨ (qm_kd i).1 = 5 then some (.inl (G.2.2 (qm_kd i).1, (qm_kd i).2, .inr (.inr (.inr (.inr (fun j => some (G.1 (qm_rf i j))))))))
  else if 10 ≤ (qm_kd i).1 then some (.inr ((qm_kd i).1 - 10, qm_fs G ((qm_kd i).1 - 10) i σ))
  else none
/-- the class's own rows of numbers: SETTING_FIRST, SETTING_LEAST, SETTING_MOST -/
def qm_sv (i j : Nat) : Int32 := (([[2, 60, 2, 2, 2, 1, 1, 0], [1, 10, 1, 1, 0, 1, 0, 0], [5, 400, 9, 9, 9, 3, 9, 60]] : List (List Int32)).getD (i - 405) []).getD j 0
def qm_H (G : qm_G) (σ : qm_Mem) (H : Heap) : Prop := (∀ (i : Nat) (e : va_E), qm_E G σ i = some e → va_at G.2.1 qm_cl (G.1 i, e) H) ∧ ∀ i, 405 ≤ i → i < 408 → ∀ j, j < 8 → σ i j = qm_sv i j
def qm_tys (G : qm_G) : List (ClassId × FieldType) := [(G.2.2 1, .int), (G.2.2 2, .boolean), (G.2.2 3, .byte), (G.2.2 4, .array .int), (G.2.2 5, .object "ColumnsLevelled$Run"), (G.2.2 7, .object "java/lang/String")]
def qm_nw : List Cond := [.fieldLinkNest "ColumnsLevelled$Run" 31 "ColumnsLevelled" "SETTING_FIRST" "[I" "ColumnsLevelled",
  .fieldLinkNest "ColumnsLevelled$Teller" 120 "ColumnsLevelled" "SETTING_LEAST" "[I" "ColumnsLevelled",
  .fieldLinkNest "ColumnsLevelled$Teller" 123 "ColumnsLevelled" "SETTING_MOST" "[I" "ColumnsLevelled",
  .fieldLinkNest "ColumnsLevelled$Run" 21 "ColumnsLevelled" "SETTING_LEAST" "[I" "ColumnsLevelled",
  .fieldLinkNest "ColumnsLevelled$Run" 24 "ColumnsLevelled" "SETTING_MOST" "[I" "ColumnsLevelled",
  .fieldLinkNest "ColumnsLevelledLaw$Flat" 56 "ColumnsLevelledLaw$Run" "set" "[I" "ColumnsLevelledLaw",
  .fieldLinkNest "ColumnsLevelledLaw" 48 "ColumnsLevelledLaw$Run" "set" "[I" "ColumnsLevelledLaw",
  .fieldLinkNest "ColumnsLevelledLaw$Flat" 38 "ColumnsLevelledLaw$Run" "many" "I" "ColumnsLevelledLaw",
  .fieldLinkNest "ColumnsLevelledLaw" 36 "ColumnsLevelledLaw$Run" "many" "I" "ColumnsLevelledLaw",
  .fieldLinkNest "ColumnsLevelledLaw$Flat" 47 "ColumnsLevelledLaw$Run" "block" "[[I" "ColumnsLevelledLaw",
  .fieldLinkNest "ColumnsLevelledLaw" 52 "ColumnsLevelledLaw$Run" "block" "[[I" "ColumnsLevelledLaw",
  .fieldLinkNest "ColumnsLevelledLaw$Flat" 53 "ColumnsLevelledLaw$Run" "mark" "[[I" "ColumnsLevelledLaw",
  .fieldLinkNest "ColumnsLevelledLaw" 59 "ColumnsLevelledLaw$Run" "mark" "[[I" "ColumnsLevelledLaw",
  .fieldLinkNest "ColumnsLevelledLaw" 68 "ColumnsLevelledLaw$Flat" "block" "[I" "ColumnsLevelledLaw",
  .fieldLinkNest "ColumnsLevelledLaw" 70 "ColumnsLevelledLaw$Flat" "number" "[I" "ColumnsLevelledLaw",
  .fieldLinkNest "ColumnsLevelledLaw" 73 "ColumnsLevelledLaw$Flat" "high" "[I" "ColumnsLevelledLaw",
  .fieldLinkNest "ColumnsLevelledLaw" 76 "ColumnsLevelledLaw$Flat" "space" "[I" "ColumnsLevelledLaw",
  .fieldLinkNest "ColumnsLevelledLaw" 62 "ColumnsLevelledLaw$Flat" "note" "[I" "ColumnsLevelledLaw",
  .fieldLinkNest "ColumnsLevelledLaw" 79 "ColumnsLevelledLaw$Flat" "section" "[I" "ColumnsLevelledLaw",
  .fieldLinkNest "ColumnsLevelledLaw" 86 "ColumnsLevelledLaw$Flat" "first" "[I" "ColumnsLevelledLaw",
  .fieldLinkNest "ColumnsLevelledLaw" 91 "ColumnsLevelledLaw$Flat" "span" "[I" "ColumnsLevelledLaw",
  .fieldLinkNest "ColumnsLevelledLaw" 42 "ColumnsLevelledLaw$Flat" "pieces" "I" "ColumnsLevelledLaw",
  .fieldLinkNest "ColumnsLevelledLaw" 45 "ColumnsLevelledLaw$Flat" "sections" "I" "ColumnsLevelledLaw",
  .methodLinkNest "ColumnsLevelled$Teller" 73 ⟨"ColumnsLevelled", "at", "([II)I"⟩ "ColumnsLevelled",
  .methodLinkNest "ColumnsLevelled$Press" 88 ⟨"ColumnsLevelled", "at", "([II)I"⟩ "ColumnsLevelled",
  .methodLinkNest "ColumnsLevelled$Fitter" 78 ⟨"ColumnsLevelled", "at", "([II)I"⟩ "ColumnsLevelled",
  .methodLinkNest "ColumnsLevelledLaw" 100 ⟨"ColumnsLevelledLaw$Run", "<init>", "()V"⟩ "ColumnsLevelledLaw",
  .methodLinkNest "ColumnsLevelledLaw$Run" 95 ⟨"ColumnsLevelledLaw", "cell", "([II)I"⟩ "ColumnsLevelledLaw"]
def qm_sts : List (String × String × String × Nat) := [("ColumnsLevelled", "SETTING_FIRST", "[I", 405), ("ColumnsLevelled", "SETTING_LEAST", "[I", 406), ("ColumnsLevelled", "SETTING_MOST", "[I", 407)]
def qm_K (G : qm_G) (U : State) : Prop := va_K G.2.1 qm_cl (qm_tys G) U ∧ ∀ w ∈ qm_nw, va_Nw w U
/-- the text of the class: its place 408, its bytes at 426 -/
def qm_S (G : qm_G) (A : Nat → Prop) (U : State) (H : Heap) : Prop :=
  vk_S 1 qs_len qs_byt (fun i => G.1 (408 + i)) (fun i => G.1 (426 + i)) A U H ∧ (∀ r ∈ qs_all, vk_R r.1 r.2.1 r.2.2.1 (G.1 r.2.2.2) U) ∧ va_Z "java/lang/String" "COMPACT_STRINGS" "Z" (.int 1) A U H ∧ va_Zq "jdk/internal/util/Preconditions" "SIOOBE_FORMATTER" "Ljava/util/function/BiFunction;" A U H ∧ ∀ i, 405 ≤ i → i < 408 → va_T .int (G.1 i) 8 (fun j => .int (qm_sv i j)) A U H
def qm_Z (G : qm_G) (A : Nat → Prop) (U : State) (H : Heap) : Prop := (∀ q ∈ qm_sts, va_Z q.1 q.2.1 q.2.2.1 (.ref (G.1 q.2.2.2)) A U H) ∧ qm_S G A U H
def qm_A (G : qm_G) (sz : Nat) : Nat → Prop := fun q => (∃ i, i < qm_N ∧ q = G.1 i) ∨ sz ≤ q
/-- the addresses of what is written are apart from all others -/
def qm_GI (G : qm_G) : Prop := ∀ i a : Nat, (qm_kd i).1 ≠ 0 → a < qm_N → G.1 i = G.1 a → i = a
abbrev qm_I : Type := Nat × Instr × Nat × Nat
def qm_nth : List qm_I → Nat → Option qm_I
  | [], _ => none
  | a :: _, 0 => some a
  | _ :: l, k + 1 => qm_nth l k
def qm_D (b : ByteArray) (l : List qm_I) : Prop := ∀ (k : Nat) (q : qm_I), qm_nth l k = some q → decode b q.1 = .ok (q.2.1, q.2.2.1) ∧ q.1 + q.2.2.1 = q.2.2.2
def qm_Db (b : ByteArray) (l : List qm_I) : Bool := l.all (fun q => decide (decode b q.1 = .ok (q.2.1, q.2.2.1)) && decide (q.1 + q.2.2.1 = q.2.2.2))
theorem qm_D_of : ∀ {b : ByteArray} {l : List qm_I}, qm_Db b l = true → qm_D b l
  | _, [], _ => fun k q h => by cases k <;> cases h
  | b, a :: l, h => by
    unfold qm_Db at h
    rw [List.all_cons, Bool.and_eq_true, Bool.and_eq_true] at h
    intro k q hq
    cases k with
    | zero =>
      have e : a = q := Option.some.inj hq
      subst e
      exact ⟨of_decide_eq_true h.1.1, of_decide_eq_true h.1.2⟩
    | succ k => exact qm_D_of (b := b) (l := l) h.2 k q hq
/-- what holds in a method -/
def qm_ok (X : qm_X) (own : String) (cc : ByteArray) (nL f lo : Nat) (l : List qm_I) : Prop :=
  ((qx_p X).tables.exec = Jvm.exec ∧ (qx_c X).code = cc ∧ (qx_c X).maxLocals = nL ∧ (qx_s X).vm.findClass own = some (qx_m X).cls ∧ ∀ w ∈ qm_tb, w.before (qx_args X) (qx_s X) = true) ∧
  qm_D cc l ∧ (qx_meth X).locks = false ∧ qm_K (qx_G X) (qx_s X) ∧ qm_Z (qx_G X) (qx_A X) (qx_s X) (qx_s X).heap ∧ qm_GI (qx_G X) ∧
  ((∀ i, i < qm_N → qx_A X (qx_ad X i)) ∧ ∀ q, (qx_s X).heap.size ≤ q → qx_A X q) ∧ (qx_R X).frames = f ∧ (qx_R X).locals = lo ∧ qx_cells X ≤ (qx_R X).cells ∧ qx_slots X ≤ (qx_R X).slots
/-- the places of a method's frame -/
def qm_L (ls : Array Slot) (n : Nat) (ρ : List (Option Value)) : Prop := ls.size = n ∧ lv_wf ls ∧ ∀ (i : Nat) (v : Value), ρ[i]? = some (some v) → ls[i]? = some (.val v) ∧ v.category = 1
def qm_J (X : qm_X) (pc : Nat) (ρ : List (Option Value)) (st : List Value) (σ : qm_Mem) : Prop :=
  ∀ (H : Heap) (locs : List Loc) (ls : Array Slot), qm_H (qx_G X) σ H → va_S (qx_A X) (qx_s X).heap H locs → qm_L ls (qx_c X).maxLocals ρ → qx_W X H locs (F0 (qx_m X) pc ls st)
def qm_B {α : Type} (X : qm_X) (m : qm_M α) (pc : Nat) (ρ : List (Option Value)) (st : List Value) (κ : α → qm_Mem → Prop) : Prop :=
  ∀ (σ : qm_Mem) (a : α) (σ' : qm_Mem), m σ = some (a, σ') → κ a σ' → qm_J X pc ρ st σ
/-- fewer places known -/
def qm_wk : List (Option Value) → List (Option Value) → Prop
  | _, [] => True
  | [], _ :: _ => False
  | a :: as, b :: bs => (b = none ∨ a = b) ∧ qm_wk as bs
theorem qm_wk_at : ∀ {as bs : List (Option Value)}, qm_wk as bs → ∀ (i : Nat) (v : Value), bs[i]? = some (some v) → as[i]? = some (some v)
  | _, [], _, i, v, h => by simp at h
  | [], _ :: _, h, _, _, _ => by cases h
  | a :: as, b :: bs, h, i, v, hv => by
    cases i with
    | zero =>
      simp only [List.getElem?_cons_zero] at hv ⊢
      rcases h.1 with e | e
      · rw [e] at hv; cases hv
      · rw [e]; exact hv
    | succ i =>
      simp only [List.getElem?_cons_succ] at hv ⊢
      exact qm_wk_at h.2 i v hv
theorem qm_L.wk {ls : Array Slot} {n : Nat} {as bs : List (Option Value)} (h : qm_L ls n as) (hw : qm_wk as bs) : qm_L ls n bs := ⟨h.1, h.2.1, fun i v hv => h.2.2 i v (qm_wk_at hw i v hv)⟩
theorem qm_L.at {ls : Array Slot} {n : Nat} {ρ : List (Option Value)} (h : qm_L ls n ρ) {i : Nat} {v : Value} (hv : ρ[i]? = some (some v)) : ls[i]? = some (.val v) := (h.2.2 i v hv).1
theorem qm_L.has {ls : Array Slot} {n : Nat} {ρ : List (Option Value)} (h : qm_L ls n ρ) : lv_has ls n [] := ⟨h.1, h.2.1, fun q hq => by cases hq⟩
theorem qm_L.has1 {ls : Array Slot} {n : Nat} {ρ : List (Option Value)} (h : qm_L ls n ρ) {i : Nat} {v : Value} (hv : ρ[i]? = some (some v)) : lv_has ls n [(i, v)] := ⟨h.1, h.2.1, fun q hq => by
  rw [List.mem_singleton.mp hq]
  exact (h.2.2 i v hv).1⟩
/-- storing keeps the rest -/
theorem qm_L.put {ls : Array Slot} {n : Nat} {ρ : List (Option Value)} (h : qm_L ls n ρ) {i : Nat} {v : Value} (hi : i < n) (hc : v.category = 1) : ∃ ls', storeLocals ls i v = some ls' ∧ qm_L ls' n (ρ.set i (some v)) := by
  obtain ⟨ls', h1, h2⟩ := lv_store1 h.has hi hc
  refine ⟨ls', h1, h2.1, h2.2.1, fun j w hw => ?_⟩
  by_cases e : j = i
  · subst e
    have hl : j < ρ.length := by
      rcases Nat.lt_or_ge j ρ.length with q | q
      · exact q
      · rw [List.getElem?_eq_none (by simpa using q)] at hw; cases hw
    rw [List.getElem?_set_self hl] at hw
    cases hw
    exact ⟨h2.2.2 (j, v) List.mem_cons_self, hc⟩
  · rw [List.getElem?_set_ne (fun q => e q.symm)] at hw
    obtain ⟨-, hcw⟩ := h.2.2 j w hw
    obtain ⟨l2, g1, g2⟩ := lv_store1 (h.has1 hw) hi hc
    have el : l2 = ls' := Option.some.inj (g1.symm.trans h1)
    subst el
    refine ⟨g2.2.2 (j, w) (List.mem_cons_of_mem _ (List.mem_filter.mpr ⟨List.mem_singleton.mpr rfl, ?_⟩)), hcw⟩
    simp [e, hcw]
