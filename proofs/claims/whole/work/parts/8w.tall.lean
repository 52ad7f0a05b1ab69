/-! ===== another HEIGHT leaves the flow as it is ===== -/
section
variable {τ : iMem} {R : aRun} {x : Int}
theorem H_rs {k : Int} (h : k ≠ 1) : rs (RS R 1 x) k = rs R k := if_neg h
theorem H_llN : ∀ n : Nat, llN (RS R 1 x) n = llN R n := by
  intro n
  induction n with
  | zero => rfl
  | succ n ih =>
    show (if pN (RS R 1 x) (n : Int) ≤ 0 then llN (RS R 1 x) n else pN (RS R 1 x) (n : Int)) = (if pN R (n : Int) ≤ 0 then llN R n else pN R (n : Int))
    rw [ih]
    rfl
theorem H_li {room : Int} : li (RS R 1 x) room = li R room := by
  unfold li
  rw [H_rs (by omega), H_rs (by omega)]
theorem H_tx {p e : Int} : tx (RS R 1 x) p e = tx R p e := rfl
theorem H_ol {p e : Int} : ol (RS R 1 x) p e = ol R p e := rfl
theorem H_ll : ll (RS R 1 x) = ll R := funext (fun p => H_llN _)
theorem H_lo : lo (RS R 1 x) = lo R := by
  funext p e c h
  unfold lo
  rw [H_li, H_tx, H_ol, H_ll]
theorem H_mi {p e lv h : Int} : mi (RS R 1 x) p e lv h = mi R p e lv h := by
  unfold mi
  rw [H_li, H_tx, H_ol, H_ll, H_rs (by omega)]
theorem H_be1 {s h : Int} : ∀ (k : Nat) (p : Int), be (RS R 1 x) s h k p = be R s h k p := by
  intro k
  induction k with
  | zero => intro p; rfl
  | succ k ih =>
    intro p
    have e : cand (RS R 1 x) h (be (RS R 1 x) s h k) p = cand R h (be R s h k) p := by
      funext e
      unfold cand
      rw [ih e, H_mi]
      rfl
    rw [be_s, be_s, e]
    rfl
theorem H_be : be (RS R 1 x) = be R := by
  funext s h k p
  exact H_be1 k p
theorem H_0 : rs (RS R 1 x) 0 = rs R 0 := H_rs (by omega)
theorem H_5 : rs (RS R 1 x) 5 = rs R 5 := H_rs (by omega)
theorem H_6 : rs (RS R 1 x) 6 = rs R 6 := H_rs (by omega)
theorem H_FlB {fl : Nat} : FlB (RS R 1 x) fl τ ↔ FlB R fl τ := by
  unfold FlB FlA
  rw [H_ll]
  exact Iff.rfl
theorem H_FlE {fl : Nat} : FlE (RS R 1 x) fl τ ↔ FlE R fl τ := Iff.rfl
theorem H_bv : bv (RS R 1 x) = bv R := by
  funext s h k p
  unfold bv
  rw [H_be]
  rfl
theorem H_FtI {ft : Nat} : FtI (RS R 1 x) ft τ ↔ FtI R ft τ := by
  unfold FtI FtR FtM FtK isL
  rw [H_bv, H_be, H_0, H_5, H_6]
  exact Iff.rfl
end
