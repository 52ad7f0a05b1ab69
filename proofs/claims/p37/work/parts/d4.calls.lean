/-! ===== the law's calls, entries, returns ===== -/
def yNw (hi x : Int) : yM Unit := fun w => if 0 ≤ x ∧ x ≤ hi then some ((), w) else none
def yNn (a : Option Nat) : yM Unit := fun w => if a = none then none else some ((), w)
def yKd (t : Nat) (a : Option Nat) : yM Unit := fun w => match a with
  | none => none
  | some p => if (w_kd w p).1 = t then some ((), w) else none
def yMin (x y : Int) : yM Int := fun w => if iR x ∧ iR y then some ((if y < x then y else x), w) else none
/-- a call on a receiver of the law's -/
def yKr {α : Type} (t : Nat) (a : Option Nat) (m : yM α) : yM α := fun w => match a with
  | none => none
  | some p => if yck t (w_kd w p).1 then yK m w else none
def y_at (G : qm_G) (Y : yY) (w : yW) (_ : Unit) (t : State) : Prop := yI Y w ∧ yQ G w.1 t.heap ∧ yH G w t.heap
def yPc (G : qm_G) (Y : yY) (av : List Value) (w : yW) : Array Value → State → Prop := va_Pc av (fun U => (U.heap.size = w_sz w ∧ yI Y w ∧ Y.1 ≤ U.heap.size) ∧ yQ G w.1 U.heap ∧ yH G w U.heap ∧ qm_K G U ∧ qm_Z G (yA Y) U U.heap ∧ yZ Y (yA Y) U U.heap)
def yQi (G : qm_G) (Y : yY) (r : Int) (w : yW) : Array Value → State → Outcome → State → Prop := va_Qi (fun r' (_ : Unit) => r' = Int32.ofInt r) (y_at G Y w) (yA Y)
def yQv (G : qm_G) (Y : yY) (_ : Unit) (w : yW) : Array Value → State → Outcome → State → Prop := va_Qv (fun (_ : Unit) => True) (y_at G Y w) (yA Y)
def yQr (G : qm_G) (Y : yY) (r : Option Nat) (w : yW) : Array Value → State → Outcome → State → Prop := va_Qr (fun (_ : Unit) => True) (fun u a t => some a = r ∧ y_at G Y w u t) (yA Y)
def y_rm (f lo : Nat) (w w' : yW) : Room := { frames := f, cells := w_sz w' - w_sz w, slots := w_sl w' - w_sl w, locals := lo }
def yMM {α : Type} (Qf : α → yW → Array Value → State → Outcome → State → Prop) (l : Launch) (G : qm_G) (Y : yY) (y : MethodName) (b : ByteArray) (nL : Nat) (ret : Option FieldType) (f lo : Nat) (av : List Value) (m : yM α) : Prop :=
  ∀ w r w', m w = some (r, w') → Met l y (qm_w y b nL ret) (y_rm f lo w w') (yPc G Y av w) (Qf r w') (w_sz w' - w_sz w) (w_sl w' - w_sl w) (yA Y)
theorem y_nwon : ∀ w ∈ qm_nw, w.onTables = true := by decide +kernel
theorem yZ.moved {Y : yY} {A : Nat → Prop} {u U : State} {H : Heap} (hvm : u.vm.Alike U.vm) (hR : ∀ r ∈ ys_all, vk_R r.1 r.2.1 r.2.2.1 (y_ad Y r.2.2.2) u → vk_R r.1 r.2.1 r.2.2.1 (y_ad Y r.2.2.2) U) (hN : ∀ c ∈ ys_nw, va_Nw c u → va_Nw c U) (h : yZ Y A u H) : yZ Y A U H := by
  obtain ⟨h0, h1, h2, h3, h4, h5, h6, h7, h8⟩ := h
  exact ⟨h0, fun p hp => (h1 p hp).moved hvm, fun p hp => (h2 p hp).moved hvm, fun p hp => ⟨(h3 p hp).1.moved hvm, (h3 p hp).2.1.moved hvm, (h3 p hp).2.2.moved hvm⟩, ⟨h4.1.moved hvm, h4.2.moved hvm⟩, fun r hr => hR r hr (h5 r hr), ⟨h6.1.moved ⟨by decide, by decide⟩ hvm, h6.2.moved ⟨by decide, by decide⟩ hvm⟩, fun c hc => hN c hc (h7 c hc), va_AO.moved hvm h8.1, over_moved hvm h8.2⟩
theorem yZ.kept {Y : yY} {A : Nat → Prop} {U : State} {H H1 : Heap} (hq : ∀ a : Nat, a < H.size → ¬ A a → H1[a]? = H[a]?) (h : yZ Y A U H) : yZ Y A U H1 := by
  obtain ⟨h0, h1, h2, h3, h4, h5, h6, h7, h8⟩ := h
  exact ⟨h0, fun p hp => (h1 p hp).kept hq, fun p hp => (h2 p hp).kept hq, fun p hp => ⟨(h3 p hp).1.kept hq, (h3 p hp).2.1.kept hq, (h3 p hp).2.2.kept hq⟩, ⟨h4.1.kept hq, h4.2.kept hq⟩, h5, h6, h7, h8⟩
theorem yPc_blind {G : qm_G} {Y : yY} {av : List Value} {w : yW} : FrameBlind (yPc G Y av w) := by
  intro a U g mk h
  obtain ⟨h1, h2, h3, h3', ⟨h4, h5⟩, h6, h7⟩ := h
  refine ⟨h1, h2, h3, h3', ⟨va_K.moved (u := U) (U := U.calling g mk a) (Vm.Alike.refl U.vm) h4, fun w hw => ?_⟩, ⟨fun q hq => (h6.1 q hq).moved (U := U.calling g mk a) (Vm.Alike.refl U.vm), h6.2.1.moved (U := U.calling g mk a) (Vm.Alike.refl U.vm), fun r hr => vk_R.same (u := U) rfl (h6.2.2.1 r hr), h6.2.2.2.1.moved (U := U.calling g mk a) (Vm.Alike.refl U.vm), h6.2.2.2.2.1.moved (U := U.calling g mk a) (Vm.Alike.refl U.vm), fun i h1 h2 => (h6.2.2.2.2.2 i h1 h2).moved (U := U.calling g mk a) (Vm.Alike.refl U.vm)⟩, h7.moved (U := U.calling g mk a) (Vm.Alike.refl U.vm) (fun r _ h => vk_R.same (u := U) rfl h) (fun c hc h => ?_)⟩
  · exact va_Nw.same (y_nwon w hw) (u := U) (U := U.calling g mk a) rfl (h5 w hw)
  · exact va_Nw.same ((by decide +kernel : ∀ c ∈ ys_nw, c.onTables = true) c hc) (u := U) (U := U.calling g mk a) rfl h
section YB
variable {X : qm_X} {Y : yY} {Fn : yFn} {own : String} {cc : ByteArray} {nL f lo : Nat} {il : List qm_I}
variable {α : Type} {m : yM α} {pc pc' : Nat} {ρ : List (Option Value)} {st : List Value} {κ : α → yW → Prop} {w : yW} {H : Heap} {locs : List Loc}
theorem y_nwW {s U : State} (hW : s.WarmedH U.vm) : ∀ w ∈ qm_nw, va_Nw w s → va_Nw w U := by
  intro w hw h
  unfold qm_nw at hw
  simp only [List.mem_cons, List.not_mem_nil, or_false] at hw
  rcases hw with rfl | rfl | rfl | rfl | rfl | rfl | rfl | rfl | rfl | rfl | rfl | rfl | rfl | rfl | rfl | rfl | rfl | rfl | rfl | rfl | rfl | rfl | rfl | rfl | rfl | rfl | rfl | rfl
  · exact va_Nw.warmF hW h
  · exact va_Nw.warmF hW h
  · exact va_Nw.warmF hW h
  · exact va_Nw.warmF hW h
  · exact va_Nw.warmF hW h
  · exact va_Nw.warmF hW h
  · exact va_Nw.warmF hW h
  · exact va_Nw.warmF hW h
  · exact va_Nw.warmF hW h
  · exact va_Nw.warmF hW h
  · exact va_Nw.warmF hW h
  · exact va_Nw.warmF hW h
  · exact va_Nw.warmF hW h
  · exact va_Nw.warmF hW h
  · exact va_Nw.warmF hW h
  · exact va_Nw.warmF hW h
  · exact va_Nw.warmF hW h
  · exact va_Nw.warmF hW h
  · exact va_Nw.warmF hW h
  · exact va_Nw.warmF hW h
  · exact va_Nw.warmF hW h
  · exact va_Nw.warmF hW h
  · exact va_Nw.warmF hW h
  · exact va_Nw.warmM hW h
  · exact va_Nw.warmM hW h
  · exact va_Nw.warmM hW h
  · exact va_Nw.warmM hW h
  · exact va_Nw.warmM hW h
/-- a callee's start -/
theorem y_pre (hX : y_ok X Y Fn own cc nL f lo il) (hV : yV X Y Fn w H locs) (hz : H.size = w_sz w) (av : List Value) : ∀ U : State, U.heap = H → (qx_s X).WarmedH U.vm → yPc (qx_G X) Y av w av.toArray U := by
  intro U hU hW
  have hA : qx_A X = yA Y := yk_A hX
  have hS := hV.2.2.2
  have Z := qk_Z hX.1
  rw [hA] at Z
  have hB : Y.1 ≤ U.heap.size := by
    have h1 := yk_B hX
    have h2 := hV.1.2.1
    rw [hU, hz]
    omega
  refine ⟨rfl, ⟨by rw [hU, hz], hV.1.1, hB⟩, by rw [hU]; exact hV.2.1, by rw [hU]; exact hV.2.2.1, ⟨va_K.moved hW.alike (yk_K hX), fun w hw => y_nwW hW w hw (qk_nw hX.1 w hw)⟩, ⟨fun q hq => ?_, ?_, fun r hr => ?_, ?_, ?_, fun i h1 h2 => ?_⟩, ?_⟩
  · rw [hU]; exact ((Z.1 q hq).kept (H1 := H) hS.2.1).moved hW.alike
  · rw [hU]; exact (Z.2.1.kept (H1 := H) hS.2.1).moved hW.alike
  · exact vk_R.warm hW (Z.2.2.1 r hr)
  · rw [hU]; exact (Z.2.2.2.1.kept (H1 := H) hS.2.1).moved hW.alike
  · rw [hU]; exact (Z.2.2.2.2.1.kept (H1 := H) hS.2.1).moved hW.alike
  · rw [hU]; exact ((Z.2.2.2.2.2 i h1 h2).kept (H1 := H) hS.2.1).moved hW.alike
  · rw [hU]
    refine ((yk_Z hX).kept hS.2.1).moved hW.alike (fun r _ h => vk_R.warm hW h) (fun c hc h => ?_)
    unfold ys_nw at hc
    simp only [List.mem_cons, List.not_mem_nil, or_false] at hc
    rcases hc with rfl | rfl | rfl | rfl | rfl
    · exact va_Nw.warmC hW h
    · exact va_Nw.warmC hW h
    · exact Cond.onTables_warm (args := #[]) (args' := #[]) (T := U) hW rfl rfl h
    · exact Cond.onTables_warm (args := #[]) (args' := #[]) (T := U) hW rfl rfl h
    · exact Cond.onTables_warm (args := #[]) (args' := #[]) (T := U) hW rfl rfl h
theorem y_recv (hX : y_ok X Y Fn own cc nL f lo il) (hV : yV X Y Fn w H locs) {p t : Nat} (ht : yck (10 + t) (w_kd w p).1) (h9 : 9 ≤ t ∧ t ≤ 12) {r : vw_C} (hc : qm_cl[t]? = some r) : ∃ cell : Cell, H[p]? = some cell ∧ cell.vm.isStatics = false ∧ (qx_s X).vm.findClass r.1 = some cell.cls := by
  rcases ht with ht | ht
  · exact va_recv (yk_K hX) (va_one (hV.2.2.1.obj ht h9)) hc (q0 := 0) rfl
  · obtain ⟨k1, -, -⟩ := hV.ro (p := p) (by omega)
    obtain ⟨⟨cell, g1, g2, g3, g4⟩, -, -⟩ := (yk_Z hX).2.2.2.1 p (by rw [← k1]; exact ht.2)
    have e : t = 12 := by omega
    subst e
    have hr : r.1 = "java/lang/String" := by
      have : qm_cl[12]? = some (qr_String, qt_String, 4) := rfl
      rw [this] at hc
      cases hc
      rfl
    refine ⟨cell, ?_, g2, by rw [hr]; exact g3⟩
    rw [hV.2.2.2.2.1 p (Array.getElem?_eq_some_iff.mp g1).1 g4]
    exact g1
theorem y_fits (hX : y_ok X Y Fn own cc nL f lo il) (hV : yV X Y Fn w H locs) {w1 : yW} (hg : w_sz w ≤ w_sz w1 ∧ w_sl w ≤ w_sl w1) (hF : w_sz w1 ≤ Fn.1 ∧ w_sl w1 ≤ Fn.2.1) : (w_sz w - (qx_s X).heap.size) + (w_sz w1 - w_sz w) ≤ (qx_R X).cells ∧ (w_sl w - Fn.2.2) + (w_sl w1 - w_sl w) ≤ (qx_R X).slots := by
  obtain ⟨r1, r2⟩ := yk_R hX
  have b := hV.1.2
  rw [r1, r2]
  omega
theorem y_after (hV : yV X Y Fn w H locs) {w1 : yW} (hg : w_sz w ≤ w_sz w1 ∧ w_sl w ≤ w_sl w1) {t : State} {locs1 : List Loc} (hat : y_at (qx_G X) Y w1 () t) (hS1 : va_S (yA Y) (qx_s X).heap t.heap locs1) : yV X Y Fn w1 t.heap locs1 ∧ (w_sz w - (qx_s X).heap.size) + (w_sz w1 - w_sz w) = w_sz w1 - (qx_s X).heap.size ∧ (w_sl w - Fn.2.2) + (w_sl w1 - w_sl w) = w_sl w1 - Fn.2.2 := by
  have b := hV.1.2
  exact ⟨⟨⟨hat.1, by omega, by omega⟩, hat.2.1, hat.2.2, hS1⟩, by omega, by omega⟩
def yHr {α : Type} (X : qm_X) (Y : yY) (Fn : yFn) (nL : Nat) (Qf : α → yW → Array Value → State → Outcome → State → Prop) (P : yW → Prop) (m : yM α) (pc : Nat) (st0 st : List Value) : Prop :=
  ∀ (w : yW) (r : α) (w1 : yW), P w → m w = some (r, w1) → (w_sz w ≤ w_sz w1 ∧ w_sl w ≤ w_sl w1) → (w_sz w1 ≤ Fn.1 ∧ w_sl w1 ≤ Fn.2.1) → ∀ (H : Heap) (locs : List Loc) (ls : Array Slot), yV X Y Fn w H locs → H.size = w_sz w → ls.size = nL →
    ∃ A9, va_Run (qx_p X) (qx_l X) (qx_e X) (qx_R X) (qx_s X) (qx_m X) (qx_args X) (qx_below X) (qx_meth X) (qx_c X) H locs (w_sz w - (qx_s X).heap.size) (w_sl w - Fn.2.2) (w_sz w1 - w_sz w) (w_sl w1 - w_sl w) (F0 (qx_m X) pc ls st0) st (Qf r w1 A9) (yA Y)
def yHr5 {α : Type} (X : qm_X) (Y : yY) (Fn : yFn) (nL : Nat) (Qf : α → yW → Array Value → State → Outcome → State → Prop) (P : yW → Prop) (m : yM α) (pc : Nat) (st0 st : List Value) : Prop :=
  ∀ (w : yW) (r : α) (w1 : yW), P w → m w = some (r, w1) → (w_sz w ≤ w_sz w1 ∧ w_sl w ≤ w_sl w1) → (w_sz w1 ≤ Fn.1 ∧ w_sl w1 ≤ Fn.2.1) → ∀ (H : Heap) (locs : List Loc) (ls : Array Slot), yV X Y Fn w H locs → H.size = w_sz w → ls.size = nL →
    ∃ A9, va_Run5 (qx_p X) (qx_l X) (qx_e X) (qx_R X) (qx_s X) (qx_m X) (qx_args X) (qx_below X) (qx_meth X) (qx_c X) H locs (w_sz w - (qx_s X).heap.size) (w_sl w - Fn.2.2) (w_sz w1 - w_sz w) (w_sl w1 - w_sl w) (F0 (qx_m X) pc ls st0) st (Qf r w1 A9) (yA Y)
/-- what a call's computation gives -/
def yGw {α : Type} (M m : yM α) (P : yW → Prop) : Prop := ∀ w z, M w = some z → P w ∧ m w = some z ∧ w_sz w ≤ w_sz z.2 ∧ w_sl w ≤ w_sl z.2
theorem y_gK {α : Type} {m : yM α} : yGw (yK m) m (fun _ => True) := by
  intro w z h
  unfold yK at h
  cases hm : m w with
  | none => rw [hm] at h; cases h
  | some q =>
    rw [hm] at h
    dsimp only at h
    split at h
    · rename_i hc
      cases h
      exact ⟨trivial, rfl, hc⟩
    · cases h
theorem y_gR {α : Type} {m : yM α} {t p : Nat} : yGw (yKr t (some p) m) m (fun w => yck t (w_kd w p).1) := by
  intro w z h
  unfold yKr at h
  dsimp only at h
  split at h
  · rename_i hc
    exact ⟨hc, (y_gK w z h).2⟩
  · cases h
theorem y_calI {m M : yM Int} {g : Int → yM α} {st0 : List Value} {P : yW → Prop} (hX : y_ok X Y Fn own cc nL f lo il) (hG : yGw M m P) (hr : yHr X Y Fn nL (yQi (qx_G X) Y) P m pc st0 st) (h : ∀ x, yb X Y Fn (g x) (pc + 3) ρ (yi x :: st) κ) : yb X Y Fn (yB M g) pc ρ st0 κ := by
  intro w z w' h1 h2
  obtain ⟨x, w1, e1, e2⟩ := yB_some h1
  obtain ⟨hP, e1, hg⟩ := hG w _ e1
  have J := h x w1 z w' e2 h2
  refine ⟨⟨Nat.le_trans hg.1 J.1.1, Nat.le_trans hg.2 J.1.2⟩, fun H locs ls hV hL => yq_sz hV (fun hz => ?_)⟩
  obtain ⟨A9, hrun⟩ := hr w x w1 hP e1 hg J.1 H locs ls hV hz (hL.1.trans (yk_ml hX))
  exact va_calli hrun hV.2.2.2 (fun q _ hq => hq) (fun q hq => hq) (fun r' u t H1 locs1 ht hvm hp hB hz hk hS1 => by
    have hp : r' = Int32.ofInt x := hp
    subst hp
    subst ht
    obtain ⟨hV1, c1, c2⟩ := y_after hV hg hB hS1
    rw [c1, c2]
    exact J.2 t.heap locs1 ls hV1 hL)
theorem y_calV {m M : yM Unit} {g : Unit → yM α} {st0 : List Value} {P : yW → Prop} (hX : y_ok X Y Fn own cc nL f lo il) (hG : yGw M m P) (hr : yHr X Y Fn nL (yQv (qx_G X) Y) P m pc st0 st) (h : yb X Y Fn (g ()) (pc + 3) ρ st κ) : yb X Y Fn (yB M g) pc ρ st0 κ := by
  intro w z w' h1 h2
  obtain ⟨x, w1, e1, e2⟩ := yB_some h1
  obtain ⟨hP, e1, hg⟩ := hG w _ e1
  have J := h w1 z w' e2 h2
  refine ⟨⟨Nat.le_trans hg.1 J.1.1, Nat.le_trans hg.2 J.1.2⟩, fun H locs ls hV hL => yq_sz hV (fun hz => ?_)⟩
  obtain ⟨A9, hrun⟩ := hr w x w1 hP e1 hg J.1 H locs ls hV hz (hL.1.trans (yk_ml hX))
  exact va_callv hrun hV.2.2.2 (fun q _ hq => hq) (fun q hq => hq) (fun u t H1 locs1 ht hvm hp hB hz hk hS1 => by
    subst ht
    obtain ⟨hV1, c1, c2⟩ := y_after hV hg hB hS1
    rw [c1, c2]
    exact J.2 t.heap locs1 ls hV1 hL)
theorem y_calR {m M : yM (Option Nat)} {g : Option Nat → yM α} {st0 : List Value} {P : yW → Prop} (hX : y_ok X Y Fn own cc nL f lo il) (hG : yGw M m P) (hr : yHr X Y Fn nL (yQr (qx_G X) Y) P m pc st0 st) (h : ∀ x, yb X Y Fn (g x) (pc + 3) ρ (va_rf x :: st) κ) : yb X Y Fn (yB M g) pc ρ st0 κ := by
  intro w z w' h1 h2
  obtain ⟨x, w1, e1, e2⟩ := yB_some h1
  obtain ⟨hP, e1, hg⟩ := hG w _ e1
  have J := h x w1 z w' e2 h2
  refine ⟨⟨Nat.le_trans hg.1 J.1.1, Nat.le_trans hg.2 J.1.2⟩, fun H locs ls hV hL => yq_sz hV (fun hz => ?_)⟩
  obtain ⟨A9, hrun⟩ := hr w x w1 hP e1 hg J.1 H locs ls hV hz (hL.1.trans (yk_ml hX))
  exact va_callr hrun hV.2.2.2 (fun q _ hq => hq) (fun q hq => hq) (fun u ra t H1 locs1 ht hvm hp hB hz hk hS1 => by
    obtain ⟨hra, hB⟩ := hB
    subst hra
    subst ht
    obtain ⟨hV1, c1, c2⟩ := y_after hV hg hB hS1
    rw [c1, c2]
    exact J.2 t.heap locs1 ls hV1 hL)
theorem y_calI5 {m M : yM Int} {g : Int → yM α} {st0 : List Value} {P : yW → Prop} (hX : y_ok X Y Fn own cc nL f lo il) (hG : yGw M m P) (hr : yHr5 X Y Fn nL (yQi (qx_G X) Y) P m pc st0 st) (h : ∀ x, yb X Y Fn (g x) (pc + 5) ρ (yi x :: st) κ) : yb X Y Fn (yB M g) pc ρ st0 κ := by
  intro w z w' h1 h2
  obtain ⟨x, w1, e1, e2⟩ := yB_some h1
  obtain ⟨hP, e1, hg⟩ := hG w _ e1
  have J := h x w1 z w' e2 h2
  refine ⟨⟨Nat.le_trans hg.1 J.1.1, Nat.le_trans hg.2 J.1.2⟩, fun H locs ls hV hL => yq_sz hV (fun hz => ?_)⟩
  obtain ⟨A9, hrun⟩ := hr w x w1 hP e1 hg J.1 H locs ls hV hz (hL.1.trans (yk_ml hX))
  have hS := hV.2.2.2
  intro T hT X9
  obtain ⟨v, st₀, t, T', L, h0, X', hL9, e1, e2, ⟨⟨r, u, hv, hp, hb⟩, hz9, hk⟩, stp⟩ := hrun T hT X9
  cases hv
  have hp : r = Int32.ofInt x := hp
  subst hp
  rw [h0] at hz9 hk
  have hS1 : va_S (yA Y) (qx_s X).heap t.heap (locs ++ L) := ⟨Nat.le_trans hS.1 hz9, fun q h1 h2 => by rw [hk q (Nat.lt_of_lt_of_le h1 hS.1) h2]; exact hS.2.1 q h1 h2, fun q hq => by
      rcases List.mem_append.mp hq with h | h
      · exact hS.2.2 q h
      · exact hL9 q h⟩
  obtain ⟨hV1, c1, c2⟩ := y_after hV hg hb hS1
  have J2 := J.2 t.heap (locs ++ L) ls hV1 hL
  rw [← c1, ← c2] at J2
  obtain ⟨t2, a1, b1⟩ := J2 T' e1 X'
  exact ⟨t2, stp t2 a1, b1⟩
/-! how each kind of call runs -/
theorem y_hrS {m : yM α} {Qf : α → yW → Array Value → State → Outcome → State → Prop} (hX : y_ok X Y Fn own cc nL f lo il) (k : Nat) {idx nL' n f' lo' : Nat} {y : MethodName} {b : ByteArray} {ret : Option FieldType} {As st0 : List Value} (hd : qm_nth il k = some (pc, .invokestatic idx, 3, pc')) (hc : qm_CS own idx y b nL' ret n) (hM : yMM Qf (qx_l X) (qx_G X) Y y b nL' ret f' lo' As m) (hr : As.length = n ∧ f' + 1 ≤ f ∧ 8 + (nL' + 11) + lo' ≤ lo) (hst : st0 = As.reverse ++ st) (h8 : (st.map fun v => v.category).sum ≤ 8) : yHr X Y Fn nL Qf (fun _ => True) m pc st0 st := by
  intro w r w1 _ e1 hg hF H locs ls hV hz hls
  obtain ⟨h1, h2, h4, h5, h6⟩ := hc
  have ht := yk_ts hX
  obtain ⟨r1, r2, -⟩ := qk_R hX.1
  exact ⟨_, va_runS (As := As) (rest := st) hX.1.1 (hM w r w1 e1) ⟨callB_of n ht (qm_goodIn h5) rfl rfl rfl (ht _ h4) (ht _ h1) h6 ⟨by rw [r1]; exact hr.2.1, by rw [r2]; exact hr.2.2⟩, ht _ h2⟩ ⟨yPc_blind, y_pre hX hV hz As⟩ rfl hr.1 hls hst (lv_room h8) (yk_d hX hd) (y_fits hX hV hg hF)⟩
theorem y_hrN {m : yM α} {Qf : α → yW → Array Value → State → Outcome → State → Prop} (hX : y_ok X Y Fn own cc nL f lo il) (k : Nat) {idx nL' n f' lo' : Nat} {y : MethodName} {host : String} {b : ByteArray} {ret : Option FieldType} {As st0 : List Value} (hd : qm_nth il k = some (pc, .invokestatic idx, 3, pc')) (hc : qm_CN own idx y host b nL' ret n) (hM : yMM Qf (qx_l X) (qx_G X) Y y b nL' ret f' lo' As m) (hr : As.length = n ∧ f' + 1 ≤ f ∧ 8 + (nL' + 11) + lo' ≤ lo) (hst : st0 = As.reverse ++ st) (h8 : (st.map fun v => v.category).sum ≤ 8) : yHr X Y Fn nL Qf (fun _ => True) m pc st0 st := by
  intro w r w1 _ e1 hg hF H locs ls hV hz hls
  obtain ⟨h1, h2, h4, h5, h6⟩ := hc
  have ht := yk_ts hX
  obtain ⟨r1, r2, -⟩ := qk_R hX.1
  exact ⟨_, va_runSN (As := As) (rest := st) hX.1.1 (hM w r w1 e1) ⟨va_cnB n ht (qm_goodIn h5) rfl rfl rfl (qk_nw hX.1 _ h1) (ht _ h4) h6 ⟨by rw [r1]; exact hr.2.1, by rw [r2]; exact hr.2.2⟩, ht _ h2, trivial⟩ ⟨yPc_blind, y_pre hX hV hz As⟩ rfl hr.1 hls hst (lv_room h8) (yk_d hX hd) (y_fits hX hV hg hF)⟩
theorem y_hrV {m : yM α} {Qf : α → yW → Array Value → State → Outcome → State → Prop} (hX : y_ok X Y Fn own cc nL f lo il) (k : Nat) {idx nL' n f' lo' p t : Nat} {y : MethodName} {b : ByteArray} {ret : Option FieldType} {As st0 : List Value} {r9 : vw_C} (hd : qm_nth il k = some (pc, .invokevirtual idx, 3, pc')) (hc : qm_CV own idx y b nL' ret n) (hM : yMM Qf (qx_l X) (qx_G X) Y y b nL' ret f' lo' (.ref p :: As) m) (h9 : 9 ≤ t ∧ t ≤ 12) (hr : qm_cl[t]? = some r9 ∧ r9.1 = y.cls ∧ As.length = n ∧ f' + 1 ≤ f ∧ 8 + (nL' + 11) + lo' ≤ lo) (hst : st0 = As.reverse ++ .ref p :: st) (h8 : (st.map fun v => v.category).sum ≤ 8) : yHr X Y Fn nL Qf (fun w => yck (10 + t) (w_kd w p).1) m pc st0 st := by
  intro w r w1 hP e1 hg hF H locs ls hV hz hls
  obtain ⟨h1, h2, h3, h4, h5, h6⟩ := hc
  have ht := yk_ts hX
  obtain ⟨r1, r2, -⟩ := qk_R hX.1
  have hrec := y_recv hX hV hP h9 hr.1
  rw [hr.2.1] at hrec
  exact ⟨_, va_runV (As := As) (rest := st) hX.1.1 (hM w r w1 e1) ⟨callB_of n ht (qm_goodIn h5) rfl rfl rfl (ht _ h4) (ht _ h1) h6 ⟨by rw [r1]; exact hr.2.2.2.1, by rw [r2]; exact hr.2.2.2.2⟩, ht _ h2, ht _ h3⟩ ⟨yPc_blind, hrec, y_pre hX hV hz (.ref p :: As)⟩ rfl hr.2.2.1 hls hst (lv_room h8) (yk_d hX hd) (y_fits hX hV hg hF)⟩
/-- what a subclass's receiver runs -/
def y_CU (own : String) (idx : Nat) (C owner : String) (x y : MethodName) (b : ByteArray) (nL : Nat) (ret : Option FieldType) (n : Nat) : Prop :=
  Cond.code y b nL ret ∈ qm_tb ∧ Cond.initialized y.cls ∈ qm_tb ∧ (owner ≠ "java/lang/invoke/MethodHandle" ∧ owner ≠ "java/lang/invoke/VarHandle" ∧ (parseMethodDescriptor x.desc).map (fun d => d.parameters.length) = some n) ∧ Cond.methodLink own idx x ∈ qm_tb ∧ Cond.sameMethod x.cls owner x.name x.desc ∈ qm_tb ∧ (Cond.instanceMethod ⟨owner, x.name, x.desc⟩ ∈ qm_tb ∧ ∃ b0 n0 r0, Cond.code ⟨owner, x.name, x.desc⟩ b0 n0 r0 ∈ qm_tb) ∧ (Cond.selects C x y ∈ qm_tb ∨ Cond.selects C x y ∈ ys_nw) ∧ Cond.instanceMethod y ∈ qm_tb
theorem y_wi : Cond.instantiable "java/lang/StringBuilder" 4 ∈ qm_tb := qm_good (List.mem_of_getElem? (i := 925) (by decide +kernel)) rfl
theorem y_ws : Cond.selects "java/lang/StringBuilder" ⟨"java/lang/AbstractStringBuilder", "isLatin1", "()Z"⟩ ⟨"java/lang/AbstractStringBuilder", "isLatin1", "()Z"⟩ ∈ qm_tb := qm_good (List.mem_of_getElem? (i := 997) (by decide +kernel)) rfl
theorem y_selP {s : State} {args : Array Value} {y : MethodName} {n : Nat} {z z' : MethodName} {C : String} (hy : y.cls ≠ "java/lang/invoke/MethodHandle" ∧ y.cls ≠ "java/lang/invoke/VarHandle") (hz : z'.cls = y.cls) (hins : (Cond.instantiable C n).before args s = true) (hsel : (Cond.selects C z z').before args s = true) (hpriv : (Cond.privateMethod y).before args s = true) (hinst : (Cond.instanceMethod y).before args s = true) : (Cond.selects C y y).before args s = true := by
  obtain ⟨c, k, hc, hk, -, -, -, -⟩ := Cond.instantiable_spec hins
  obtain ⟨mk, methM, hnamed, hmethM, -, -⟩ := Cond.instanceMethod_spec hinst
  have hfound : s.methodFound? y.cls y.name y.desc = some mk := State.methodFound?_of_named hnamed hy
  obtain ⟨c2, r2, m2, q1, q2, q3, q4, kP, hkP, hkPi⟩ := Cond.selects_spec hsel
  have e1 : m2.cls = mk.cls := by
    have a1 := findClass_of_methodNamed q3
    have a2 := findClass_of_methodNamed hnamed
    rw [hz] at a1
    exact Option.some.inj (a1.symm.trans a2)
  rw [e1] at hkP
  have hs : selectMethod {} s.vm c mk = .method mk := selectMethod_private hmethM (Cond.privateMethod_at hpriv mk methM hnamed hmethM)
  simp only [Cond.before, Cond.holds, Cond.value, hc, hfound, hnamed, hs, hkP]
  simp
  exact hkPi
theorem y_hrU {m : yM α} {Qf : α → yW → Array Value → State → Outcome → State → Prop} (hX : y_ok X Y Fn own cc nL f lo il) (k : Nat) {idx nL' n f' lo' p t : Nat} {C owner : String} {x y : MethodName} {b : ByteArray} {ret : Option FieldType} {As st0 : List Value} {r9 : vw_C} (hd : qm_nth il k = some (pc, .invokevirtual idx, 3, pc')) (hc : y_CU own idx C owner x y b nL' ret n) (hM : yMM Qf (qx_l X) (qx_G X) Y y b nL' ret f' lo' (.ref p :: As) m) (h9 : 9 ≤ t ∧ t ≤ 12) (hr : qm_cl[t]? = some r9 ∧ r9.1 = C ∧ As.length = n ∧ f' + 1 ≤ f ∧ 8 + (nL' + 11) + lo' ≤ lo) (hst : st0 = As.reverse ++ .ref p :: st) (h8 : (st.map fun v => v.category).sum ≤ 8) : yHr X Y Fn nL Qf (fun w => yck (10 + t) (w_kd w p).1) m pc st0 st := by
  intro w r w1 hP e1 hg hF H locs ls hV hz hls
  obtain ⟨c1, c2, c3, c4, c5, ⟨c6, b0, n0, r0, c7⟩, c8, c9⟩ := hc
  have ht := yk_ts hX
  obtain ⟨r1, r2, -⟩ := qk_R hX.1
  have hrec := y_recv hX hV hP h9 hr.1
  rw [hr.2.1] at hrec
  have hsel : (Cond.selects C x y).before (qx_args X) (qx_s X) = true := by
    rcases c8 with q | q
    · exact ht _ q
    · exact va_Nw.use ((by decide +kernel : ∀ c ∈ ys_nw, c.onTables = true) _ q) ((yk_Z hX).2.2.2.2.2.2.2.1 _ q)
  refine ⟨_, va_runU (As := As) (rest := st) (C := C) (owner := owner) (x := x) hX.1.1 (hM w r w1 e1) ⟨⟨rfl, rfl, by show f' + 1 ≤ (qx_R X).frames; rw [r1]; exact hr.2.2.2.1, by show 8 + (nL' + 11) + lo' ≤ (qx_R X).locals; rw [r2]; exact hr.2.2.2.2, pay_in ht (qm_goodIn c1), List.mem_cons_self⟩, ht _ c1, ht _ c2, ⟨c3.1, c3.2.1⟩, fun sig h => ?_, ht _ c4, ht _ c5, va_Decl.of (ht _ c6) (ht _ c7), hsel, ht _ c9⟩ ⟨yPc_blind, hrec, y_pre hX hV hz (.ref p :: As)⟩ rfl hr.2.2.1 hls hst (lv_room h8) (yk_d hX hd) (y_fits hX hV hg hF)⟩
  have h2 := c3.2.2
  rw [h] at h2
  exact (Option.some.inj h2).symm
theorem y_hrI {m : yM Unit} {Qf : Unit → yW → Array Value → State → Outcome → State → Prop} (hX : y_ok X Y Fn own cc nL f lo il) (k : Nat) {idx nL' n f' lo' p : Nat} {y : MethodName} {b : ByteArray} {As st0 : List Value} (hd : qm_nth il k = some (pc, .invokespecial idx, 3, pc')) (hc : qz_CI own idx y b nL' n) (hM : yMM Qf (qx_l X) (qx_G X) Y y b nL' none f' lo' (.ref p :: As) m) (hr : As.length = n ∧ f' + 1 ≤ f ∧ 8 + (nL' + 11) + lo' ≤ lo) (hst : st0 = As.reverse ++ .ref p :: st) (h8 : (st.map fun v => v.category).sum ≤ 8) : yHr X Y Fn nL Qf (fun _ => True) m pc st0 st := by
  intro w r w1 _ e1 hg hF H locs ls hV hz hls
  obtain ⟨c1, c2, c3, c4, c5, c6⟩ := hc
  have ht := yk_ts hX
  obtain ⟨r1, r2, -⟩ := qk_R hX.1
  exact ⟨_, va_runI (As := As) (rest := st) hX.1.1 (hM w r w1 e1) (cwI n ht (qm_goodIn c4) rfl rfl rfl (ht _ c3) (ht _ c1) (ht _ c2) c5 c6 ⟨by rw [r1]; exact hr.2.1, by rw [r2]; exact hr.2.2⟩) ⟨yPc_blind, y_pre hX hV hz (.ref p :: As)⟩ rfl hr.1 hls hst (lv_room h8) (yk_d hX hd) (y_fits hX hV hg hF)⟩
def y_CIN (own : String) (idx : Nat) (y : MethodName) (host : String) (b : ByteArray) (nL n : Nat) : Prop :=
  Cond.methodLinkNest own idx y host ∈ qm_nw ∧ Cond.instanceMethod y ∈ qm_tb ∧ Cond.initialized y.cls ∈ qm_tb ∧ Cond.code y b nL none ∈ qm_tb ∧ y.name = "<init>" ∧
  (y.cls ≠ "java/lang/invoke/MethodHandle" ∧ y.cls ≠ "java/lang/invoke/VarHandle" ∧ (parseMethodDescriptor y.desc).map (fun d => d.parameters.length) = some n)
theorem y_hrIN {m : yM Unit} {Qf : Unit → yW → Array Value → State → Outcome → State → Prop} (hX : y_ok X Y Fn own cc nL f lo il) (k : Nat) {idx nL' n f' lo' p : Nat} {y : MethodName} {host : String} {b : ByteArray} {As st0 : List Value} (hd : qm_nth il k = some (pc, .invokespecial idx, 3, pc')) (hc : y_CIN own idx y host b nL' n) (hM : yMM Qf (qx_l X) (qx_G X) Y y b nL' none f' lo' (.ref p :: As) m) (hr : As.length = n ∧ f' + 1 ≤ f ∧ 8 + (nL' + 11) + lo' ≤ lo) (hst : st0 = As.reverse ++ .ref p :: st) (h8 : (st.map fun v => v.category).sum ≤ 8) : yHr X Y Fn nL Qf (fun _ => True) m pc st0 st := by
  intro w r w1 _ e1 hg hF H locs ls hV hz hls
  obtain ⟨c1, c2, c3, c4, c5, c6⟩ := hc
  have ht := yk_ts hX
  obtain ⟨r1, r2, -⟩ := qk_R hX.1
  exact ⟨_, va_runIN (As := As) (rest := st) hX.1.1 (hM w r w1 e1) ⟨va_cnB n ht (qm_goodIn c4) rfl rfl rfl (qk_nw hX.1 _ c1) (ht _ c3) c6 ⟨by rw [r1]; exact hr.2.1, by rw [r2]; exact hr.2.2⟩, c5, ht _ c2⟩ ⟨yPc_blind, y_pre hX hV hz (.ref p :: As)⟩ rfl hr.1 hls hst (lv_room h8) (yk_d hX hd) (y_fits hX hV hg hF)⟩
/-- super.m(..) -/
def y_CSU (own : String) (idx : Nat) (y : MethodName) (b : ByteArray) (nL : Nat) (ret : Option FieldType) (n : Nat) : Prop :=
  Cond.code y b nL ret ∈ qm_tb ∧ Cond.methodLink own idx y ∈ qm_tb ∧ Cond.sameMethod y.cls y.cls y.name y.desc ∈ qm_tb ∧ Cond.superclass own y.cls ∈ qm_tb ∧ Cond.instanceMethod y ∈ qm_tb ∧ Cond.initialized y.cls ∈ qm_tb ∧ y.name ≠ "<init>" ∧ (parseMethodDescriptor y.desc).map (fun d => d.parameters.length) = some n
theorem y_hrSU {m : yM α} {Qf : α → yW → Array Value → State → Outcome → State → Prop} (hX : y_ok X Y Fn own cc nL f lo il) (k : Nat) {idx nL' n f' lo' p t : Nat} {y : MethodName} {b : ByteArray} {ret : Option FieldType} {As st0 : List Value} {r9 : vw_C} (hd : qm_nth il k = some (pc, .invokespecial idx, 3, pc')) (hc : y_CSU own idx y b nL' ret n) (hM : yMM Qf (qx_l X) (qx_G X) Y y b nL' ret f' lo' (.ref p :: As) m) (h9 : 9 ≤ t ∧ t ≤ 12) (hr : qm_cl[t]? = some r9 ∧ As.length = n ∧ f' + 1 ≤ f ∧ 8 + (nL' + 11) + lo' ≤ lo) (hst : st0 = As.reverse ++ .ref p :: st) (h8 : (st.map fun v => v.category).sum ≤ 8) : yHr X Y Fn nL Qf (fun w => yck (10 + t) (w_kd w p).1) m pc st0 st := by
  intro w r w1 hP e1 hg hF H locs ls hV hz hls
  obtain ⟨c1, c2, c3, c4, c5, c6, c7, c8⟩ := hc
  have ht := yk_ts hX
  obtain ⟨r1, r2, -⟩ := qk_R hX.1
  have hrec := y_recv hX hV hP h9 hr.1
  refine ⟨_, va_runSU (As := As) (rest := st) ((yk_K hX).1 t _ hr.1).2 hX.1.1 (hM w r w1 e1) ⟨⟨rfl, rfl, by show f' + 1 ≤ (qx_R X).frames; rw [r1]; exact hr.2.2.1, by show 8 + (nL' + 11) + lo' ≤ (qx_R X).locals; rw [r2]; exact hr.2.2.2, pay_in ht (qm_goodIn c1), List.mem_cons_self⟩, ht _ c2, ht _ c3, ht _ c4, ht _ c5, ht _ c6, ht _ c1, c7, fun sig h => ?_⟩ ⟨yPc_blind, hrec, y_pre hX hV hz (.ref p :: As)⟩ rfl hr.2.1 hls hst (lv_room h8) (yk_d hX hd) (y_fits hX hV hg hF)⟩
  rw [h] at c8
  exact (Option.some.inj c8).symm
/-- a text behind CharSequence -/
theorem y_hrF {m : yM α} {Qf : α → yW → Array Value → State → Outcome → State → Prop} (hX : y_ok X Y Fn own cc nL f lo il) (k : Nat) {idx count nL' n f' lo' p : Nat} {x y : MethodName} {b : ByteArray} {ret : Option FieldType} {As st0 : List Value} (hd : qm_nth il k = some (pc, .invokeinterface idx count, 5, pc')) (hF9 : va_Fw "java/lang/String" x y (qx_s X)) (hc : Cond.methodLink own idx x ∈ qm_tb ∧ Cond.selects "java/lang/String" x y ∈ qm_tb ∧ Cond.instanceMethod y ∈ qm_tb ∧ Cond.initialized y.cls ∈ qm_tb ∧ Cond.code y b nL' ret ∈ qm_tb ∧ (x.cls ≠ "java/lang/invoke/MethodHandle" ∧ x.cls ≠ "java/lang/invoke/VarHandle" ∧ (parseMethodDescriptor x.desc).map (fun d => d.parameters.length) = some n)) (hM : yMM Qf (qx_l X) (qx_G X) Y y b nL' ret f' lo' (.ref p :: As) m) (hr : As.length = n ∧ f' + 1 ≤ f ∧ 8 + (nL' + 11) + lo' ≤ lo) (hst : st0 = As.reverse ++ .ref p :: st) (h8 : (st.map fun v => v.category).sum ≤ 8) : yHr5 X Y Fn nL Qf (fun w => yck (10 + 12) (w_kd w p).1) m pc st0 st := by
  intro w r w1 hP e1 hg hF H locs ls hV hz hls
  obtain ⟨c1, c2, c3, c4, c5, c6⟩ := hc
  have ht := yk_ts hX
  obtain ⟨r1, r2, -⟩ := qk_R hX.1
  have hcl : qm_cl[12]? = some (qr_String, qt_String, 4) := rfl
  have hrec := y_recv hX hV hP (by omega) hcl
  refine ⟨_, va_runF (As := As) (rest := st) (C := "java/lang/String") (x := x) ((yk_K hX).1 12 _ hcl).2 hX.1.1 (hM w r w1 e1) ⟨⟨rfl, rfl, by show f' + 1 ≤ (qx_R X).frames; rw [r1]; exact hr.2.1, by show 8 + (nL' + 11) + lo' ≤ (qx_R X).locals; rw [r2]; exact hr.2.2, pay_in ht (qm_goodIn c5), List.mem_cons_self⟩, ht _ c1, va_any rfl hF9.1, va_any rfl hF9.2.1, ht _ c2, ht _ c3, va_any rfl hF9.2.2.1, va_any rfl hF9.2.2.2.1, va_any rfl hF9.2.2.2.2, ht _ c4, ht _ c5, ⟨c6.1, c6.2.1⟩, fun sig h => ?_⟩ ⟨yPc_blind, hrec, y_pre hX hV hz (.ref p :: As)⟩ rfl hr.1 hls hst (lv_room h8) (yk_d hX hd) (y_fits hX hV hg hF)⟩
  have h2 := c6.2.2
  rw [h] at h2
  exact (Option.some.inj h2).symm
end YB
