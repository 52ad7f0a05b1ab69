/-! ===== the law's entries and returns; the object's calls; what is left ===== -/
def y_RI (X : qm_X) (Y : yY) (Fn : yFn) (r0 : Int) (w0 : yW) (ty : FieldType) : Prop :=
  (qx_Q X = MQ (qx_below X) (yQi (qx_G X) Y r0 w0) (qx_args X) (qx_s X) (Fn.1 - (qx_s X).heap.size) (Fn.2.1 - Fn.2.2) (yA Y) ∧ (qx_meth X).sig.returnType = some ty) ∧ (w_sz w0 = Fn.1 ∧ w_sl w0 = Fn.2.1)
def y_RV (X : qm_X) (Y : yY) (Fn : yFn) (w0 : yW) : Prop :=
  (qx_Q X = MQ (qx_below X) (yQv (qx_G X) Y () w0) (qx_args X) (qx_s X) (Fn.1 - (qx_s X).heap.size) (Fn.2.1 - Fn.2.2) (yA Y) ∧ (qx_meth X).sig.returnType = none) ∧ (w_sz w0 = Fn.1 ∧ w_sl w0 = Fn.2.1)
def y_RR (X : qm_X) (Y : yY) (Fn : yFn) (r0 : Option Nat) (w0 : yW) (ty : FieldType) : Prop :=
  (qx_Q X = MQ (qx_below X) (yQr (qx_G X) Y r0 w0) (qx_args X) (qx_s X) (Fn.1 - (qx_s X).heap.size) (Fn.2.1 - Fn.2.2) (yA Y) ∧ (qx_meth X).sig.returnType = some ty ∧ ((∃ n, ty = .object n) ∨ ∃ t, ty = .array t)) ∧ (w_sz w0 = Fn.1 ∧ w_sl w0 = Fn.2.1)
section YB
variable {X : qm_X} {Y : yY} {Fn : yFn} {own : String} {cc : ByteArray} {nL f lo : Nat} {il : List qm_I}
variable {α : Type} {m : yM α} {pc pc' : Nat} {ρ : List (Option Value)} {st : List Value} {κ : α → yW → Prop}
theorem yj_ret (hX : y_ok X Y Fn own cc nL f lo il) {k : Nat} {x r0 : Int} {w w0 : yW} {ty : FieldType} (hd : qm_nth il k = some (pc, .ireturn, 1, pc')) (hR : y_RI X Y Fn r0 w0 ty) (hn : narrow ty (yi x) = yi x) (h : x = r0 ∧ w = w0) : yJ X Y Fn pc ρ [yi x] w := by
  obtain ⟨e1, e2⟩ := h
  subst e1
  subst e2
  obtain ⟨⟨hQ, hr⟩, g1, g2⟩ := hR
  refine ⟨⟨by omega, by omega⟩, fun H locs ls hV hL => ?_⟩
  show W _ _ _ _ _ _ _ _ _ _ _ _ _ _ (qx_Q X) _
  rw [hQ, g1, g2]
  exact W.zret (yk_ex hX) (yk_by hX) hr hn (fun t ht hW => ⟨⟨_, (), rfl, rfl, hV.1.1, by rw [ht]; exact hV.2.1, by rw [ht]; exact hV.2.2.1⟩, hV.2.2.2.F ht⟩) hV.2.2.2.2.2 (yk_d hX hd) hX.1.2.2.1
theorem y_iret (hX : y_ok X Y Fn own cc nL f lo il) (k : Nat) {x r0 : Int} {w0 : yW} {a : α} (hd : qm_nth il k = some (pc, .ireturn, 1, pc')) (hR : y_RI X Y Fn r0 w0 .int) (h : ∀ w, κ a w → x = r0 ∧ w = w0) : yb X Y Fn (yP a) pc ρ [yi x] κ := by
  intro w b w' h1 h2
  cases h1
  exact yj_ret hX hd hR rfl (h _ h2)
theorem y_nar {x : Int} (h : 0 ≤ x ∧ x ≤ 255) : narrow .char (yi x) = yi x ∧ ((x = 0 ∨ x = 1) → narrow .boolean (yi x) = yi x ∧ narrow .byte (yi x) = yi x) := by
  have h1 : ∀ n : Nat, n < 256 → narrow .char (yi (n : Int)) = yi (n : Int) := by decide +kernel
  have h2 := h1 x.toNat (by omega)
  rw [show ((x.toNat : Nat) : Int) = x by omega] at h2
  refine ⟨h2, fun q => ?_⟩
  rcases q with q | q
  · rw [q]; exact ⟨by decide, by decide⟩
  · rw [q]; exact ⟨by decide, by decide⟩
theorem y_zret (hX : y_ok X Y Fn own cc nL f lo il) (k : Nat) {x r0 : Int} {w0 : yW} {a : α} {ty : FieldType} (hty : ty = .boolean ∨ ty = .byte) (hd : qm_nth il k = some (pc, .ireturn, 1, pc')) (hR : y_RI X Y Fn r0 w0 ty) (h : ∀ w, κ a w → x = r0 ∧ w = w0) : yb X Y Fn (yB (yNw 1 x) (fun _ => yP a)) pc ρ [yi x] κ := by
  intro w b w' h1 h2
  obtain ⟨y, w1, e1, e2⟩ := yB_some h1
  unfold yNw at e1
  split at e1
  · rename_i hz
    cases e1
    cases e2
    have hn := (y_nar (x := x) ⟨hz.1, by omega⟩).2 (by omega)
    refine yj_ret hX hd hR ?_ (h _ h2)
    rcases hty with q | q
    · rw [q]; exact hn.1
    · rw [q]; exact hn.2
  · cases e1
theorem y_cret (hX : y_ok X Y Fn own cc nL f lo il) (k : Nat) {x r0 : Int} {w0 : yW} {a : α} (hd : qm_nth il k = some (pc, .ireturn, 1, pc')) (hR : y_RI X Y Fn r0 w0 .char) (h : ∀ w, κ a w → x = r0 ∧ w = w0) : yb X Y Fn (yB (yNw 255 x) (fun _ => yP a)) pc ρ [yi x] κ := by
  intro w b w' h1 h2
  obtain ⟨y, w1, e1, e2⟩ := yB_some h1
  unfold yNw at e1
  split at e1
  · rename_i hz
    cases e1
    cases e2
    exact yj_ret hX hd hR (y_nar hz).1 (h _ h2)
  · cases e1
theorem y_vret (hX : y_ok X Y Fn own cc nL f lo il) (k : Nat) {w0 : yW} {a : α} (hd : qm_nth il k = some (pc, .return_, 1, pc')) (hR : y_RV X Y Fn w0) (h : ∀ w, κ a w → w = w0) : yb X Y Fn (yP a) pc ρ [] κ := by
  intro w b w' h1 h2
  cases h1
  have e2 := h _ h2
  subst e2
  obtain ⟨⟨hQ, hr⟩, g1, g2⟩ := hR
  refine ⟨⟨by omega, by omega⟩, fun H locs ls hV hL => ?_⟩
  show W _ _ _ _ _ _ _ _ _ _ _ _ _ _ (qx_Q X) _
  rw [hQ, g1, g2]
  exact W.vret (yk_ex hX) (yk_by hX) hr (fun t ht hW => ⟨⟨(), rfl, trivial, hV.1.1, by rw [ht]; exact hV.2.1, by rw [ht]; exact hV.2.2.1⟩, hV.2.2.2.F ht⟩) hV.2.2.2.2.2 (yk_d hX hd) hX.1.2.2.1
theorem y_aret (hX : y_ok X Y Fn own cc nL f lo il) (k : Nat) {x r0 : Option Nat} {w0 : yW} {a : α} {ty : FieldType} (hd : qm_nth il k = some (pc, .areturn, 1, pc')) (hR : y_RR X Y Fn r0 w0 ty) (h : ∀ w, κ a w → x = r0 ∧ w = w0) : yb X Y Fn (yB (yNn x) (fun _ => yP a)) pc ρ [va_rf x] κ := by
  intro w b w' h1 h2
  obtain ⟨y, w1, e1, e2⟩ := yB_some h1
  unfold yNn at e1
  split at e1
  · cases e1
  · rename_i hz
    cases e1
    cases e2
    obtain ⟨e1, e2⟩ := h _ h2
    subst e1
    subst e2
    cases x with
    | none => exact absurd rfl hz
    | some p =>
      obtain ⟨⟨hQ, hr, hrt⟩, g1, g2⟩ := hR
      refine ⟨⟨by omega, by omega⟩, fun H locs ls hV hL => ?_⟩
      show W _ _ _ _ _ _ _ _ _ _ _ _ _ _ (qx_Q X) _
      rw [hQ, g1, g2]
      exact W.aret (yk_ex hX) (yk_by hX) hr hrt (Or.inr ⟨p, rfl⟩) (fun t ht hW => ⟨⟨(), p, rfl, trivial, rfl, hV.1.1, by rw [ht]; exact hV.2.1, by rw [ht]; exact hV.2.2.1⟩, hV.2.2.2.F ht⟩) hV.2.2.2.2.2 (yk_d hX hd) hX.1.2.2.1
theorem y_obj (hX : y_ok X Y Fn own cc nL f lo il) (k : Nat) {idx a : Nat} (hd : qm_nth il k = some (pc, .invokespecial idx, 3, pc')) (hw : Cond.methodLink own idx Lib.objectInit ∈ qm_tb) (hr : 1 ≤ f ∧ 12 ≤ lo) (h : yb X Y Fn m pc' ρ [] κ) : yb X Y Fn m pc ρ [.ref a] κ := by
  cases yk_n hX hd
  obtain ⟨r1, r2, -, -⟩ := qk_R hX.1
  exact y_0 (fun H locs ce sl ls hL hh => W.objInit (yk_ex hX) (yk_by hX) (yk_ow hX) (yk_ts hX _ hw) (yk_ts hX _ zo_1) (yk_ts hX _ zo_2) rfl hL.1 rfl (yk_d hX hd) (by rw [r1]; exact hr.1) (by rw [r2]; show 2 * 0 + 0 + 12 ≤ _; omega) (hh ls hL)) h
theorem y_mmin {g : Int → yM α} (hX : y_ok X Y Fn own cc nL f lo il) (k : Nat) {idx : Nat} {x y : Int} (hd : qm_nth il k = some (pc, .invokestatic idx, 3, pc')) (hc : qm_CS own idx jy_Math_min prog_18_method_69_code 2 (some .int) 2) (hr : 1 ≤ f ∧ 21 ≤ lo) (h8 : (st.map fun v => v.category).sum ≤ 8) (h : ∀ x, yb X Y Fn (g x) pc' ρ (yi x :: st) κ) : yb X Y Fn (yB (yMin x y) g) pc ρ (yi y :: yi x :: st) κ := by
  cases yk_n hX hd
  intro w z w' h1 h2
  obtain ⟨v, w1, e1, e2⟩ := yB_some h1
  unfold yMin at e1
  split at e1
  · rename_i hz
    cases e1
    have J := h _ _ z w' e2 h2
    obtain ⟨c1, c2, c4, c5, c6⟩ := hc
    have ht := yk_ts hX
    obtain ⟨r1, r2, -, -⟩ := qk_R hX.1
    obtain ⟨r3, r4⟩ := yk_R hX
    refine ⟨J.1, fun H locs ls hV hL => ?_⟩
    have J2 := J.2 H locs ls hV hL
    have b := hV.1.2
    have e : (if Int32.ofInt y < Int32.ofInt x then Int32.ofInt y else Int32.ofInt x) = Int32.ofInt (if y < x then y else x) := by
      by_cases c : y < x
      · rw [if_pos c, if_pos ((yi_lt hz.2 hz.1).mpr c)]
      · rw [if_neg c, if_neg (fun q => c ((yi_lt hz.2 hz.1).mp q))]
    unfold yi at J2
    rw [← e] at J2
    exact va_mmin (yk_ex hX) (yk_by hX) hL.1.symm (yk_ow hX) (ht _ c1) (ht _ c2) (ht _ c4) (ht _ c5) (by rw [r1]; exact hr.1) (by rw [r2]; omega) (by rw [r3]; have := J.1.1; omega) (by rw [r4]; have := J.1.2; omega) (yk_d hX hd) J2
  · cases e1
theorem y_getsC (hX : y_ok X Y Fn own cc nL f lo il) (k : Nat) {idx : Nat} (hd : qm_nth il k = some (pc, .getstatic idx, 3, pc')) (hw : Cond.fieldLink own idx "java/lang/String" "COMPACT_STRINGS" "Z" ∈ qm_tb) (h : yb X Y Fn m pc' ρ (yi 1 :: st) κ) : yb X Y Fn m pc ρ st κ := by
  cases yk_n hX hd
  have Z := (qk_Z hX.1).2.2.2.1
  rw [yk_A hX] at Z
  exact fun w a w' h1 h2 => ⟨(h w a w' h1 h2).1, fun H locs ls hV hL => va_gets (yk_ex hX) (yk_by hX) Z hV.2.2.2 (yk_ow hX) (yk_ts hX _ hw) (fun x h => h) (yk_d hX hd) ((h w a w' h1 h2).2 H locs ls hV hL)⟩
theorem y_getsD (hX : y_ok X Y Fn own cc nL f lo il) (k : Nat) {idx : Nat} {n : String} (i : Nat) (hi : (n = "DigitOnes" ∧ i = 20) ∨ (n = "DigitTens" ∧ i = 21)) (hd : qm_nth il k = some (pc, .getstatic idx, 3, pc')) (hw : Cond.fieldLink own idx "java/lang/Integer" n "[B" ∈ qm_tb) (h : yb X Y Fn m pc' ρ (va_rf (some (y_ad Y i)) :: st) κ) : yb X Y Fn m pc ρ st κ := by
  cases yk_n hX hd
  have Z : va_Z "java/lang/Integer" n "[B" (.ref (y_ad Y i)) (yA Y) (qx_s X) (qx_s X).heap := by
    rcases hi with ⟨e1, e2⟩ | ⟨e1, e2⟩
    · rw [e1, e2]; exact (yk_Z hX).2.2.2.2.1.1
    · rw [e1, e2]; exact (yk_Z hX).2.2.2.2.1.2
  exact fun w a w' h1 h2 => ⟨(h w a w' h1 h2).1, fun H locs ls hV hL => va_gets (yk_ex hX) (yk_by hX) Z hV.2.2.2 (yk_ow hX) (yk_ts hX _ hw) (fun x h => h) (yk_d hX hd) ((h w a w' h1 h2).2 H locs ls hV hL)⟩
theorem y_ldcS (hX : y_ok X Y Fn own cc nL f lo il) (k q : Nat) {idx : Nat} {tx : String} (hd : qm_nth il k = some (pc, .ldc idx, 2, pc')) (hk : (own, idx, tx, q) ∈ ys_all) (h : yb X Y Fn m pc' ρ (va_rf (some (y_ad Y q)) :: st) κ) : yb X Y Fn m pc ρ st κ := by
  cases yk_n hX hd
  exact y_0 (fun H locs ce sl ls hL hh => va_ldcS (yk_ex hX) (yk_by hX) (yk_ow hX) ((yk_Z hX).2.2.2.2.2.1 _ hk) (yk_d hX hd) (hh ls hL)) h
theorem y_castI {g : Unit → yM α} (hX : y_ok X Y Fn own cc nL f lo il) (k : Nat) {idx : Nat} {a : Option Nat} (hd : qm_nth il k = some (pc, .checkcast idx, 3, pc')) (hw : Cond.classLink own idx "[I" ∈ qm_tb) (h : yb X Y Fn (g ()) pc' ρ (va_rf a :: st) κ) : yb X Y Fn (yB (yKd 1 a) g) pc ρ (va_rf a :: st) κ := by
  cases yk_n hX hd
  intro w z w' h1 h2
  obtain ⟨v, w1, e1, e2⟩ := yB_some h1
  cases a with
  | none => cases e1
  | some p =>
    unfold yKd at e1
    dsimp only at e1
    split at e1
    · rename_i hc
      cases e1
      have J := h _ z w' e2 h2
      refine ⟨J.1, fun H locs ls hV hL => ?_⟩
      have hcell := hV.2.2.1.arr (Or.inl hc)
      rw [hc] at hcell
      exact va_castA (nm := "[I") (D := (qx_G X).2.1) (cl := qm_cl) (ws := [(p, .inl ((qx_G X).2.2 1, (w_kd w p).2, .inl (fun j => Int32.ofInt (w_iv w p (j : Int)))))]) (yk_ex hX) (yk_by hX) (yk_ow hX) (yk_ts hX _ hw) (va_one hcell) 0 rfl ((yk_K hX).2 0 _ rfl).2 (yk_d hX hd) (J.2 H locs ls hV hL)
    · cases e1
theorem y_comp (hX : y_ok X Y Fn own cc nL f lo il) : ∃ kA, (qx_s X).vm.classes[(qx_G X).2.2 4]? = some kA ∧ kA.kind = .array ((qx_G X).2.2 1) (.array .int) := by
  obtain ⟨comp, c, k, f1, f2, f3, f4, f5⟩ := arrayOverA_spec (yk_Z hX).2.2.2.2.2.2.2.2.2
  have e1 : comp = (qx_G X).2.2 1 := Option.some.inj (f1.symm.trans ((yk_K hX).2 0 _ rfl).2)
  have e2 : c = (qx_G X).2.2 4 := Option.some.inj (f5.symm.trans ((yk_K hX).2 3 _ rfl).2)
  subst e1
  subst e2
  exact ⟨k, f3, f4⟩
theorem y_refS {G : qm_G} {w : yW} {H1 : Heap} {p q t k : Nat} (ht : t = 4 ∨ t = 7) (hk : (w_kd w p).1 = t) (e : H1[p]? = some ((vp_cell (G.2.2 t) ((w_kd w p).2, .inr (.inr (.inr (.inr (fun j => w_rv w p (j : Int))))))).setSlot k (.ref q))) : ∀ e, yE G (y_rv w (yur (w_rv w) p (k : Int) (some q))) p = some e → va_at G.2.1 qm_cl (p, e) H1 := by
  intro e1 h1
  have hk9 : w_kd (y_rv w (yur (w_rv w) p (k : Int) (some q))) p = w_kd w p := rfl
  unfold yE at h1
  rw [hk9, if_neg (by omega), if_pos (by rw [hk]; exact ht), hk] at h1
  cases h1
  show H1[p]? = some (vp_cell _ _)
  rw [e, vp_cell_q, vp_cell_q, arrV_store]
  congr 2
  funext j
  show updV _ k (Value.ref q) j = va_rf (yur (w_rv w) p (k : Int) (some q) p (j : Int))
  unfold updV yur
  by_cases hj : j = k
  · subst hj
    rw [if_pos rfl, if_pos ⟨rfl, rfl⟩]
    rfl
  · rw [if_neg hj, if_neg (fun z => hj (by have := z.2; omega))]
theorem y_aast {g : Unit → yM α} (hX : y_ok X Y Fn own cc nL f lo il) (k : Nat) {a v : Option Nat} {i : Int} {t t' : Nat} (htt : (t = 4 ∧ t' = 1) ∨ (t = 7 ∧ t' = 36)) (hd : qm_nth il k = some (pc, .aastore, 1, pc')) (h : yb X Y Fn (g ()) pc' ρ st κ) : yb X Y Fn (yB (ySr t t' a i v) g) pc ρ (va_rf v :: yi i :: va_rf a :: st) κ := by
  cases yk_n hX hd
  intro w r w' h1 h2
  obtain ⟨u, w1, e1, e2⟩ := yB_some h1
  cases a with
  | none => cases e1
  | some p =>
    cases v with
    | none => cases e1
    | some q =>
      unfold ySr at e1
      dsimp only at e1
      split at e1
      · rename_i hc
        cases e1
        have J := h _ r w' e2 h2
        obtain ⟨⟨kp, kq⟩, hi⟩ := hc
        obtain ⟨hin, hnat⟩ := y_in hi
        refine ⟨J.1, fun H locs ls hV hL => ?_⟩
        have hlt : (Int32.ofInt i).toNatClampNeg < (w_kd w p).2 := Nat.not_le.mp fun z => hin (Or.inr z)
        have h0 : ¬ Int32.ofInt i < 0 := fun z => hin (Or.inl z)
        have hcell := hV.2.2.1.arrR (p := p) (by omega)
        rw [kp] at hcell
        have fin : ∀ H1 : Heap, H1[p]? = some ((vp_cell ((qx_G X).2.2 t) ((w_kd w p).2, .inr (.inr (.inr (.inr (fun j => w_rv w p (j : Int))))))).setSlot (Int32.ofInt i).toNatClampNeg (.ref q)) → H1.size = H.size → (∀ z : Nat, z ≠ p → H1[z]? = H[z]?) → yq X H1 (locs ++ [⟨p, (Int32.ofInt i).toNatClampNeg⟩]) (w_sz w - (qx_s X).heap.size) (w_sl w - Fn.2.2) (F0 (qx_m X) (pc + 1) ls st) := by
          intro H1 g1 g2 g3
          have hs := y_refS (by omega) kp g1
          rw [hnat] at hs
          exact J.2 H1 _ ls (hV.put hX (by omega) (by omega) ⟨rfl, rfl, rfl, rfl⟩ (fun _ _ => rfl) (fun z hz => by funext j; exact if_neg (fun y => hz y.1)) hs g2 g3) hL
        rcases htt with ⟨et, et'⟩ | ⟨et, et'⟩
        · subst et
          subst et'
          obtain ⟨kA, k1, k2⟩ := y_comp hX
          have hcq := hV.2.2.1.arr (p := q) (by omega)
          rw [kq] at hcq
          obtain ⟨-, kS, hkS, compS, hkindS⟩ := ((yk_K hX).2 0 _ rfl).1 0 (fun _ => .null)
          exact W.aast (yk_ex hX) (yk_by hX) hcell (fun z h => by cases h) (fun h => by cases h) k1 k2 rfl hkS ⟨h0, by show _ < (arrV _ _ _).slots.size; rw [arrV_size]; exact hlt⟩ hcq (fun z h => by cases h) hkS (va_asg _ _) rfl rfl (yk_d hX hd) fun H1 g1 g2 g3 => fin H1 g1 g2 g3
        · subst et
          subst et'
          obtain ⟨k1, -, -⟩ := hV.ro (p := q) (by omega)
          obtain ⟨⟨cell, c1, c2, c3, c4⟩, -, -⟩ := (yk_Z hX).2.2.2.1 q (by rw [← k1]; exact kq)
          have hcq : H[q]? = some cell := by
            rw [hV.2.2.2.2.1 q (Array.getElem?_eq_some_iff.mp c1).1 c4]
            exact c1
          obtain ⟨kA, comp, a1, a2, a3, -⟩ := ((yk_K hX).2 5 _ rfl).2
          have hcl : ClassAt (qx_s X) "java/lang/String" ((qx_G X).2.1.1 12) := ((yk_K hX).1 12 _ rfl).2
          have e1 : comp = cell.cls := Option.some.inj (a3.symm.trans c3)
          have e2 : (qx_G X).2.1.1 12 = cell.cls := Option.some.inj (hcl.1.symm.trans c3)
          obtain ⟨-, kC, hkC, -⟩ := id hcl
          rw [e2] at hkC
          subst e1
          exact W.aast (yk_ex hX) (yk_by hX) hcell (fun z h => by cases h) (fun h => by cases h) a1 a2 rfl hkC ⟨h0, by show _ < (arrV _ _ _).slots.size; rw [arrV_size]; exact hlt⟩ hcq (fun z h => by rw [h] at c2; cases c2) hkC (by rw [← e2]; exact va_assign hcl) rfl rfl (yk_d hX hd) fun H1 g1 g2 g3 => fin H1 g1 g2 g3
      · cases e1
/-! the object's calls -/
theorem y_objKeep (hX : y_ok X Y Fn own cc nL f lo il) {w : yW} {H H1 : Heap} {locs locs1 : List Loc} (hV : yV X Y Fn w H locs) (hz : H.size = w_sz w) {κ1 : iMem} {σ1 : qm_Mem} (hr : iRel σ1 κ1) (hH : qm_H (qx_G X) σ1 H1) (hsz : H.size ≤ H1.size) (hk : ∀ q : Nat, q < H.size → ¬ qm_A (qx_G X) H.size q → H1[q]? = H[q]?) (hS1 : va_S (yA Y) (qx_s X).heap H1 locs1) : yV X Y Fn (κ1, w.2) H1 locs1 := by
  refine ⟨hV.1, ⟨σ1, hr, hH⟩, ⟨Nat.le_trans hV.2.2.1.1 hsz, fun p e he => ?_⟩, hS1⟩
  have ho := yE_own he
  have he' : yE (qx_G X) w p = some e := he
  have hp : Y.1 + 367 ≤ p := hV.up hX (by rcases ho with q | q | q | q | q <;> (have : w_kd (κ1, w.2) p = w_kd w p := rfl; rw [this] at q; omega)) (by rcases ho with q | q | q | q | q <;> (have : w_kd (κ1, w.2) p = w_kd w p := rfl; rw [this] at q; omega))
  have hlt : p < w_sz w := hV.1.1.1 p (by rcases ho with q | q | q | q | q <;> (have : w_kd (κ1, w.2) p = w_kd w p := rfl; rw [this] at q; omega))
  refine (hV.2.2.1.2 p e he').kept (hk p (by omega) (fun q => ?_))
  rcases q with ⟨i, hi, e9⟩ | q
  · exact y_cl hX hp hi e9.symm
  · omega
theorem y_subA (hX : y_ok X Y Fn own cc nL f lo il) {w : yW} {H : Heap} {locs : List Loc} (hV : yV X Y Fn w H locs) : ∀ q, qm_A (qx_G X) H.size q → yA Y q := by
  intro q hq
  rcases hq with ⟨i, hi, e⟩ | hq
  · rw [e]; exact ((yk_G hX).2 i hi).1
  · have h1 := yk_B hX
    have h2 := hV.2.2.2.1
    show Y.1 ≤ q
    omega
theorem y_preO (hX : y_ok X Y Fn own cc nL f lo il) {w : yW} {H : Heap} {locs : List Loc} (hV : yV X Y Fn w H locs) {σ : qm_Mem} (hH : qm_H (qx_G X) σ H) (av : List Value) : ∀ U : State, U.heap = H → (qx_s X).WarmedH U.vm → qm_Pc (qx_G X) av σ H.size av.toArray U := by
  have hS := hV.2.2.2
  rw [← yk_A hX] at hS
  exact qk_pre hX.1 hH hS av
/-- o.m(..), a number -/
theorem y_objI {g : Int → yM α} {m0 : qm_M Int32} {m' : iM Int} {xs : List Int} (hX : y_ok X Y Fn own cc nL f lo il) (k : Nat) {idx nL' n f' lo' a ci : Nat} {y : MethodName} {b : ByteArray} {ret : Option FieldType} {As st0 : List Value} {r : vw_C} (hd : qm_nth il k = some (pc, .invokevirtual idx, 3, pc')) (hc : qm_CV own idx y b nL' ret n) (hM : qm_MI (qx_l X) (qx_G X) y b nL' ret f' lo' (.ref (qx_ad X a) :: As) m0) (hi : (∀ x ∈ xs, iR x) → iS m0 m' Int32.toInt) (ha : (qm_kd a).1 = 10 + ci) (hr : qm_cl[ci]? = some r ∧ r.1 = y.cls ∧ As.length = n ∧ f' + 1 ≤ f ∧ 8 + (nL' + 11) + lo' ≤ lo) (hst : st0 = As.reverse ++ .ref (qx_ad X a) :: st) (h8 : (st.map fun v => v.category).sum ≤ 8) (h : ∀ x, yb X Y Fn (g x) pc' ρ (yi x :: st) κ) : yb X Y Fn (yB (yC xs m') g) pc ρ st0 κ := by
  cases yk_n hX hd
  intro w z w' h1 h2
  obtain ⟨x, w1, e1, e2⟩ := yB_some h1
  unfold yC at e1
  split at e1
  · rename_i hxs
    cases hm : m' w.1 with
    | none => rw [hm] at e1; cases e1
    | some q =>
      rw [hm] at e1
      cases e1
      have J := h _ _ z w' e2 h2
      obtain ⟨r1, r2, -⟩ := qk_R hX.1
      obtain ⟨r3, r4⟩ := yk_R hX
      obtain ⟨c1, c2, c3, c4, c5, c6⟩ := hc
      have ht := yk_ts hX
      refine ⟨J.1, fun H locs ls hV hL => yq_sz hV (fun hz => ?_)⟩
      obtain ⟨σ, hr1, hH⟩ := hV.2.1
      obtain ⟨v, σ1, f1, f2, f3⟩ := hi hxs σ w.1 hr1 q.1 q.2 hm
      have hrec := qk_recv hX.1 hH ha hr.1
      rw [hr.2.1] at hrec
      have hbd := hV.1.2
      have hJ := J.1
      exact va_calli (va_runV (As := As) (rest := st) hX.1.1 (hM σ v σ1 f1 H.size) ⟨callB_of n ht (qm_goodIn c5) rfl rfl rfl (ht _ c4) (ht _ c1) c6 ⟨by rw [r1]; exact hr.2.2.2.1, by rw [r2]; exact hr.2.2.2.2⟩, ht _ c2, ht _ c3⟩ ⟨qm_Pc_blind, hrec, y_preO hX hV hH (.ref (qx_ad X a) :: As)⟩ rfl hr.2.2.1 (hL.1.trans (yk_ml hX)) hst (lv_room h8) (yk_d hX hd) ⟨by rw [r3]; have : w_sz w ≤ Fn.1 := hJ.1; omega, by rw [r4]; have : w_sl w ≤ Fn.2.1 := hJ.2; omega⟩) hV.2.2.2 (fun q _ hq => y_subA hX hV q hq) (y_subA hX hV) (fun r' u t H1 locs1 ht1 hvm hp hB hz9 hk hS1 => by
        have hp : r' = v := hp
        subst hp
        subst ht1
        have e9 : Int32.ofInt q.1 = r' := by rw [← f2]; exact yi_of _
        have J2 := J.2 t.heap locs1 ls (y_objKeep hX hV hz f3 hB hz9 hk hS1) hL
        unfold yi at J2
        rw [e9] at J2
        exact J2)
  · cases e1
theorem y_objSV {g : Unit → yM α} {m0 : qm_M Unit} {m' : iM Unit} {xs : List Int} (hX : y_ok X Y Fn own cc nL f lo il) (k : Nat) {idx nL' n f' lo' : Nat} {y : MethodName} {b : ByteArray} {As st0 : List Value} (hd : qm_nth il k = some (pc, .invokestatic idx, 3, pc')) (hc : qm_CS own idx y b nL' none n) (hM : qm_MV (qx_l X) (qx_G X) y b nL' f' lo' As m0) (hi : (∀ x ∈ xs, iR x) → iS m0 m' id1) (hr : As.length = n ∧ f' + 1 ≤ f ∧ 8 + (nL' + 11) + lo' ≤ lo) (hst : st0 = As.reverse ++ st) (h8 : (st.map fun v => v.category).sum ≤ 8) (h : yb X Y Fn (g ()) pc' ρ st κ) : yb X Y Fn (yB (yC xs m') g) pc ρ st0 κ := by
  cases yk_n hX hd
  intro w z w' h1 h2
  obtain ⟨x, w1, e1, e2⟩ := yB_some h1
  unfold yC at e1
  split at e1
  · rename_i hxs
    cases hm : m' w.1 with
    | none => rw [hm] at e1; cases e1
    | some q =>
      rw [hm] at e1
      cases e1
      have J := h _ z w' e2 h2
      obtain ⟨r1, r2, -⟩ := qk_R hX.1
      obtain ⟨r3, r4⟩ := yk_R hX
      obtain ⟨c1, c2, c4, c5, c6⟩ := hc
      have ht := yk_ts hX
      refine ⟨J.1, fun H locs ls hV hL => yq_sz hV (fun hz => ?_)⟩
      obtain ⟨σ, hr1, hH⟩ := hV.2.1
      obtain ⟨v, σ1, f1, f2, f3⟩ := hi hxs σ w.1 hr1 q.1 q.2 hm
      have hbd := hV.1.2
      have hJ := J.1
      exact va_callv (va_runS (As := As) (rest := st) hX.1.1 (hM σ v σ1 f1 H.size) ⟨callB_of n ht (qm_goodIn c5) rfl rfl rfl (ht _ c4) (ht _ c1) c6 ⟨by rw [r1]; exact hr.2.1, by rw [r2]; exact hr.2.2⟩, ht _ c2⟩ ⟨qm_Pc_blind, y_preO hX hV hH As⟩ rfl hr.1 (hL.1.trans (yk_ml hX)) hst (lv_room h8) (yk_d hX hd) ⟨by rw [r3]; have : w_sz w ≤ Fn.1 := hJ.1; omega, by rw [r4]; have : w_sl w ≤ Fn.2.1 := hJ.2; omega⟩) hV.2.2.2 (fun q _ hq => y_subA hX hV q hq) (y_subA hX hV) (fun u t H1 locs1 ht1 hvm hp hB hz9 hk hS1 => by
        subst ht1
        exact J.2 t.heap locs1 ls (y_objKeep hX hV hz f3 hB hz9 hk hS1) hL)
  · cases e1
end YB
/-! entries -/
theorem y_met {α : Type} {Qf : α → yW → Array Value → State → Outcome → State → Prop} {l : Launch} {G : qm_G} {Y : yY} {y : MethodName} {b : ByteArray} {nL : Nat} {ret : Option FieldType} {f lo : Nat} {av : List Value} {m : yM α} {il : List qm_I} (hy : plainName y.cls = true) (hil : qm_D b il) (hc : ∀ v ∈ av, v.category = 1) (hn : av.length ≤ nL) (hG : yGG G Y)
    (body : ∀ X Fn r0 w0, qx_l X = l → qx_G X = G → (qx_meth X).name = y.name → y_ok X Y Fn y.cls b nL f lo il → (qx_Q X = MQ (qx_below X) (Qf r0 w0) (qx_args X) (qx_s X) (Fn.1 - (qx_s X).heap.size) (Fn.2.1 - Fn.2.2) (yA Y) ∧ (qx_meth X).sig.returnType = ret) ∧ (w_sz w0 = Fn.1 ∧ w_sl w0 = Fn.2.1) → yb X Y Fn m 0 (av.map some ++ List.replicate (nL - av.length) none) [] (fun r w1 => r = r0 ∧ w1 = w0)) : yMM Qf l G Y y b nL ret f lo av m := by
  intro w r w' hm
  refine Met.ofW (cc := b) (maxL := nL) (ret := ret) hy rfl ?_
  intro p e s mi args below meth c s₁ B hml hv
  obtain ⟨rfl, ⟨hsz, hI, hB⟩, hQ, hH, hK, hZ, hZ9⟩ := hv
  have hts := atoms_spec (ws := qm_w y b nL ret) B.pre
  have hok : y_ok (p, l, e, y_rm f lo w w', s, mi, av.toArray, below, meth, c, G, yA Y, 0, 0, MQ below (Qf r w') av.toArray s (w_sz w' - w_sz w) (w_sl w' - w_sl w) (yA Y)) Y (w_sz w', w_sl w', w_sl w) y.cls b nL f lo il :=
    ⟨⟨⟨B.exec, B.bytes, hml, findClass_of_methodNamed B.named, fun w hw => hts w (List.mem_cons_of_mem _ hw)⟩, hil, B.notSynchronized, hK, hZ, hG.1, ⟨fun i hi => (hG.2 i hi).1, fun q hq => by show Y.1 ≤ q; exact Nat.le_trans hB hq⟩, rfl, rfl, Nat.zero_le _, Nat.zero_le _⟩, rfl, hB, hG, ⟨by show w_sz w' - w_sz w = w_sz w' - s.heap.size; rw [hsz], rfl⟩, hZ9⟩
  have hb := body _ (w_sz w', w_sl w', w_sl w) r w' rfl rfl (name_of_methodNamed B.named B.method).1 hok ⟨⟨by show MQ _ _ _ _ _ _ _ = MQ _ _ _ _ _ _ _; rw [← hsz], B.returns⟩, rfl, rfl⟩ w r w' hm ⟨rfl, rfl⟩
  rw [lg_entry_eq]
  have h9 := hb.2 s.heap [] _ ⟨⟨hI, by show s.heap.size ≤ _; omega, Nat.le_refl _⟩, hQ, hH, va_S.rf⟩ (by show qm_L _ c.maxLocals _; rw [hml]; exact qm_entry av nL hc hn)
  have e1 : w_sz w - s.heap.size = 0 := by omega
  have e2 : w_sl w - w_sl w = 0 := by omega
  show W _ _ _ _ _ _ _ _ _ _ _ _ _ _ _ _
  have h10 : W p l e (y_rm f lo w w') s mi av.toArray below meth c s.heap [] (w_sz w - s.heap.size) (w_sl w - w_sl w) (MQ below (Qf r w') av.toArray s (w_sz w' - w_sz w) (w_sl w' - w_sl w) (yA Y)) (F0 mi 0 ((lg_sl av ++ List.replicate (nL - (lg_sl av).length) Slot.unset).toArray) []) := h9
  rw [e1, e2] at h10
  exact h10
