/-! ===== receivers that may be null; places' kinds ===== -/
theorem yc_I (x : Int) : (yi x).category = 1 := rfl
theorem yc_D (x : Option Nat) : (va_rf x).category = 1 := by cases x <;> rfl
theorem yc_O (x : Nat) : (Value.ref x).category = 1 := rfl
theorem y_cn : (([] : List Value).map fun v => v.category).sum ≤ 0 := Nat.le_refl _
theorem y_cs {v : Value} {st : List Value} {n : Nat} (h : v.category = 1) (hs : (st.map fun v => v.category).sum ≤ n) : ((v :: st).map fun v => v.category).sum ≤ n + 1 := by
  rw [List.map_cons, List.sum_cons, h]
  omega
theorem y_gRo {α : Type} {m : yM α} {t : Nat} {a : Option Nat} : yGw (yKr t a m) m (fun w => ∃ p, a = some p ∧ yck t (w_kd w p).1) := by
  intro w z h
  cases a with
  | none => cases h
  | some p => exact ⟨⟨p, rfl, (y_gR w z h).1⟩, (y_gR w z h).2⟩
section YB
variable {X : qm_X} {Y : yY} {Fn : yFn} {own : String} {cc : ByteArray} {nL f lo : Nat} {il : List qm_I}
variable {α : Type} {m : yM α} {pc pc' : Nat} {ρ : List (Option Value)} {st : List Value}
theorem y_hrVo {Qf : α → yW → Array Value → State → Outcome → State → Prop} {a : Option Nat} (hX : y_ok X Y Fn own cc nL f lo il) (k : Nat) {idx nL' n f' lo' t : Nat} {y : MethodName} {b : ByteArray} {ret : Option FieldType} {As st0 : List Value} {r9 : vw_C} (hd : qm_nth il k = some (pc, .invokevirtual idx, 3, pc')) (hc : qm_CV own idx y b nL' ret n) (hM : ∀ p, a = some p → yMM Qf (qx_l X) (qx_G X) Y y b nL' ret f' lo' (.ref p :: As) m) (h9 : 9 ≤ t ∧ t ≤ 12) (hr : qm_cl[t]? = some r9 ∧ r9.1 = y.cls ∧ As.length = n ∧ f' + 1 ≤ f ∧ 8 + (nL' + 11) + lo' ≤ lo) (hst : st0 = As.reverse ++ va_rf a :: st) (h8 : (st.map fun v => v.category).sum ≤ 8) : yHr X Y Fn nL Qf (fun w => ∃ p, a = some p ∧ yck (10 + t) (w_kd w p).1) m pc st0 st := by
  intro w r w1 hP
  obtain ⟨p, rfl, hk⟩ := hP
  exact y_hrV hX k hd hc (hM p rfl) h9 hr hst h8 w r w1 hk
theorem y_hrUo {Qf : α → yW → Array Value → State → Outcome → State → Prop} {a : Option Nat} (hX : y_ok X Y Fn own cc nL f lo il) (k : Nat) {idx nL' n f' lo' t : Nat} {C owner : String} {x y : MethodName} {b : ByteArray} {ret : Option FieldType} {As st0 : List Value} {r9 : vw_C} (hd : qm_nth il k = some (pc, .invokevirtual idx, 3, pc')) (hc : y_CU own idx C owner x y b nL' ret n) (hM : ∀ p, a = some p → yMM Qf (qx_l X) (qx_G X) Y y b nL' ret f' lo' (.ref p :: As) m) (h9 : 9 ≤ t ∧ t ≤ 12) (hr : qm_cl[t]? = some r9 ∧ r9.1 = C ∧ As.length = n ∧ f' + 1 ≤ f ∧ 8 + (nL' + 11) + lo' ≤ lo) (hst : st0 = As.reverse ++ va_rf a :: st) (h8 : (st.map fun v => v.category).sum ≤ 8) : yHr X Y Fn nL Qf (fun w => ∃ p, a = some p ∧ yck (10 + t) (w_kd w p).1) m pc st0 st := by
  intro w r w1 hP
  obtain ⟨p, rfl, hk⟩ := hP
  exact y_hrU hX k hd hc (hM p rfl) h9 hr hst h8 w r w1 hk
theorem y_hrIo {m : yM Unit} {Qf : Unit → yW → Array Value → State → Outcome → State → Prop} {a : Option Nat} (hX : y_ok X Y Fn own cc nL f lo il) (k : Nat) {idx nL' n f' lo' t : Nat} {y : MethodName} {b : ByteArray} {As st0 : List Value} (hd : qm_nth il k = some (pc, .invokespecial idx, 3, pc')) (hc : qz_CI own idx y b nL' n) (hM : ∀ p, a = some p → yMM Qf (qx_l X) (qx_G X) Y y b nL' none f' lo' (.ref p :: As) m) (hr : As.length = n ∧ f' + 1 ≤ f ∧ 8 + (nL' + 11) + lo' ≤ lo) (hst : st0 = As.reverse ++ va_rf a :: st) (h8 : (st.map fun v => v.category).sum ≤ 8) : yHr X Y Fn nL Qf (fun w => ∃ p, a = some p ∧ yck (10 + t) (w_kd w p).1) m pc st0 st := by
  intro w r w1 hP
  obtain ⟨p, rfl, hk⟩ := hP
  exact y_hrI hX k hd hc (hM p rfl) hr hst h8 w r w1 trivial
theorem y_hrINo {m : yM Unit} {Qf : Unit → yW → Array Value → State → Outcome → State → Prop} {a : Option Nat} (hX : y_ok X Y Fn own cc nL f lo il) (k : Nat) {idx nL' n f' lo' t : Nat} {y : MethodName} {host : String} {b : ByteArray} {As st0 : List Value} (hd : qm_nth il k = some (pc, .invokespecial idx, 3, pc')) (hc : y_CIN own idx y host b nL' n) (hM : ∀ p, a = some p → yMM Qf (qx_l X) (qx_G X) Y y b nL' none f' lo' (.ref p :: As) m) (hr : As.length = n ∧ f' + 1 ≤ f ∧ 8 + (nL' + 11) + lo' ≤ lo) (hst : st0 = As.reverse ++ va_rf a :: st) (h8 : (st.map fun v => v.category).sum ≤ 8) : yHr X Y Fn nL Qf (fun w => ∃ p, a = some p ∧ yck (10 + t) (w_kd w p).1) m pc st0 st := by
  intro w r w1 hP
  obtain ⟨p, rfl, hk⟩ := hP
  exact y_hrIN hX k hd hc (hM p rfl) hr hst h8 w r w1 trivial
theorem y_hrSUo {Qf : α → yW → Array Value → State → Outcome → State → Prop} {a : Option Nat} (hX : y_ok X Y Fn own cc nL f lo il) (k : Nat) {idx nL' n f' lo' t : Nat} {y : MethodName} {b : ByteArray} {ret : Option FieldType} {As st0 : List Value} {r9 : vw_C} (hd : qm_nth il k = some (pc, .invokespecial idx, 3, pc')) (hc : y_CSU own idx y b nL' ret n) (hM : ∀ p, a = some p → yMM Qf (qx_l X) (qx_G X) Y y b nL' ret f' lo' (.ref p :: As) m) (h9 : 9 ≤ t ∧ t ≤ 12) (hr : qm_cl[t]? = some r9 ∧ As.length = n ∧ f' + 1 ≤ f ∧ 8 + (nL' + 11) + lo' ≤ lo) (hst : st0 = As.reverse ++ va_rf a :: st) (h8 : (st.map fun v => v.category).sum ≤ 8) : yHr X Y Fn nL Qf (fun w => ∃ p, a = some p ∧ yck (10 + t) (w_kd w p).1) m pc st0 st := by
  intro w r w1 hP
  obtain ⟨p, rfl, hk⟩ := hP
  exact y_hrSU hX k hd hc (hM p rfl) h9 hr hst h8 w r w1 hk
theorem y_hrFo {Qf : α → yW → Array Value → State → Outcome → State → Prop} {a : Option Nat} (hX : y_ok X Y Fn own cc nL f lo il) (k : Nat) {idx count nL' n f' lo' : Nat} {x y : MethodName} {b : ByteArray} {ret : Option FieldType} {As st0 : List Value} (hd : qm_nth il k = some (pc, .invokeinterface idx count, 5, pc')) (hF9 : va_Fw "java/lang/String" x y (qx_s X)) (hc : Cond.methodLink own idx x ∈ qm_tb ∧ Cond.selects "java/lang/String" x y ∈ qm_tb ∧ Cond.instanceMethod y ∈ qm_tb ∧ Cond.initialized y.cls ∈ qm_tb ∧ Cond.code y b nL' ret ∈ qm_tb ∧ (x.cls ≠ "java/lang/invoke/MethodHandle" ∧ x.cls ≠ "java/lang/invoke/VarHandle" ∧ (parseMethodDescriptor x.desc).map (fun d => d.parameters.length) = some n)) (hM : ∀ p, a = some p → yMM Qf (qx_l X) (qx_G X) Y y b nL' ret f' lo' (.ref p :: As) m) (hr : As.length = n ∧ f' + 1 ≤ f ∧ 8 + (nL' + 11) + lo' ≤ lo) (hst : st0 = As.reverse ++ va_rf a :: st) (h8 : (st.map fun v => v.category).sum ≤ 8) : yHr5 X Y Fn nL Qf (fun w => ∃ p, a = some p ∧ yck (10 + 12) (w_kd w p).1) m pc st0 st := by
  intro w r w1 hP
  obtain ⟨p, rfl, hk⟩ := hP
  exact y_hrF hX k hd hF9 hc (hM p rfl) hr hst h8 w r w1 hk
end YB
def iz_String_checkIndex (k n : Int) : iM Unit := if k < 0 then iF else if k < n then iP () else iF
theorem is_String_checkIndex {k n : Int32} {k' n' : Int} (h1 : k.toInt = k') (h2 : n.toInt = n') : iS (jf_String_checkIndex k n) (iz_String_checkIndex k' n') id1 := by
  subst h1 h2
  unfold jf_String_checkIndex jf_Precond_checkIndex iz_String_checkIndex
  by_cases c1 : k.toInt < 0
  · rw [if_pos c1]; exact is_F
  · have d1 : ¬ k < 0 := fun q => c1 (Int32.lt_iff_toInt_lt.mp q)
    rw [if_neg c1, if_neg d1]
    by_cases c2 : k.toInt < n.toInt
    · rw [if_pos c2, if_pos (Int32.lt_iff_toInt_lt.mpr c2)]
      exact is_P (V := id1) rfl
    · rw [if_neg c2]; exact is_F
