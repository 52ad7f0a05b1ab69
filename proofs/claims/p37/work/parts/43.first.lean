/-! what the constructors leave -/
def qz_s0 (a k : Nat) : Int32 :=
  if 405 ≤ a then qm_sv a k
  else if qm_kd a = (1, 8) then qm_sv 405 k
  else if a = 78 ∨ a = 351 then -1
  else if a = 52 ∨ a = 322 then (if k = 9 then -1 else 0)
  else if a = 70 ∨ a = 343 then (if k = 2 then 1 else if k = 3 then 1 else if k = 5 then -1 else 0)
  else if a = 368 then qz_bg k
  else 0
def zpic (G : qm_G) (ad : Nat → Nat) (i : Nat) : va_E := match qm_E (ad, G.2) qz_s0 i with
  | some e => e
  | none => .inr (0, [])
def zf (G : qm_G) (ad : Nat → Nat) (E : Nat → va_E) (a n n' : Nat) : Nat → va_E := fun i => if i = a ∨ n ≤ i ∧ i < n' then zpic G ad i else E i
def zpost (G : qm_G) (ad : Nat → Nat) (E : Nat → va_E) (a n n' : Nat) : qz_T → Prop := fun T' => ∃ ad' : Nat → Nat, (∀ i, i < n → ad' i = ad i) ∧ T' = (ad', zf G ad' E a n n', n')
theorem zf_in {G : qm_G} {ad : Nat → Nat} {E : Nat → va_E} {a n n' i : Nat} (h : i = a ∨ n ≤ i ∧ i < n') : zf G ad E a n n' i = zpic G ad i := if_pos h
theorem zf_out {G : qm_G} {ad : Nat → Nat} {E : Nat → va_E} {a n n' i : Nat} (h : ¬ (i = a ∨ n ≤ i ∧ i < n')) : zf G ad E a n n' i = E i := if_neg h
theorem qz_s00 {i : Nat} (h : i < 405) (h1 : qm_kd i ≠ (1, 8)) (h2 : i ≠ 78 ∧ i ≠ 351 ∧ i ≠ 52 ∧ i ≠ 322 ∧ i ≠ 70 ∧ i ≠ 343 ∧ i ≠ 368) : qz_s0 i = fun _ => 0 := by
  funext k
  unfold qz_s0
  rw [if_neg (by omega), if_neg h1, if_neg (by omega), if_neg (by omega), if_neg (by omega), if_neg (by omega)]
theorem zpic_i {G : qm_G} {ad : Nat → Nat} {i N : Nat} {g : Nat → Int32} (h : qm_kd i = (1, N)) (hN : i < 405) (hs : qz_s0 i = g) : zpic G ad i = .inl (G.2.2 1, N, .inl g) := by
  unfold zpic qm_E
  rw [if_pos ⟨Or.inl (by rw [h]), (by decide +kernel : ∀ i, i < 405 → (qm_kd i).1 = 1 → i < qm_N) i hN (by rw [h])⟩, h, hs]
theorem arrV_same {c : ClassId} {N : Nat} {f g : Nat → Value} (h : ∀ j, j < N → f j = g j) : arrV c N f = arrV c N g := by
  unfold arrV
  congr 2
  funext j
  exact h j.val j.isLt
theorem qz_arrR {D : va_G} {cl : List vw_C} {q N : Nat} {c : ClassId} {f g : Nat → Option Nat} {H : Heap} (h : ∀ j, j < N → f j = g j) (hv : va_at D cl (q, .inl (c, N, .inr (.inr (.inr (.inr f))))) H) : va_at D cl (q, .inl (c, N, .inr (.inr (.inr (.inr g))))) H := by
  show H[q]? = some (vp_cell c (N, _))
  rw [vp_cell_q, ← arrV_same (f := fun j => va_rf (f j)) (fun j hj => by rw [h j hj])]
  exact hv
/-- how many references a cell has, at most -/
def qz_rl (i : Nat) : Nat := if (qm_kd i).1 = 4 ∨ (qm_kd i).1 = 5 then (qm_kd i).2 else if 10 ≤ (qm_kd i).1 then qm_nf ((qm_kd i).1 - 10) else 0
theorem zpic_mono {G : qm_G} {ad ad' : Nat → Nat} {D : va_G} {cl : List vw_C} {i q : Nat} {H : Heap} (h : ∀ j, j < qz_rl i → ad (qm_rf i j) = ad' (qm_rf i j)) (hv : va_at D cl (q, zpic G ad i) H) : va_at D cl (q, zpic G ad' i) H := by
  unfold zpic qm_E at hv ⊢
  by_cases h1 : ((qm_kd i).1 = 1 ∨ (qm_kd i).1 = 2 ∨ (qm_kd i).1 = 3) ∧ i < qm_N
  · rw [if_pos h1] at hv ⊢
    exact hv
  · rw [if_neg h1] at hv ⊢
    by_cases h2 : (qm_kd i).1 = 4 ∨ (qm_kd i).1 = 5
    · rw [if_pos h2] at hv ⊢
      refine qz_arrR (fun j hj => ?_) hv
      exact congrArg some (h j (by unfold qz_rl; rw [if_pos h2]; exact hj))
    · rw [if_neg h2] at hv ⊢
      by_cases h3 : 10 ≤ (qm_kd i).1
      · rw [if_pos h3] at hv ⊢
        have e : qm_fs (ad, G.2) ((qm_kd i).1 - 10) i qz_s0 = qm_fs (ad', G.2) ((qm_kd i).1 - 10) i qz_s0 := by
          unfold qm_fs
          apply List.map_congr_left
          intro j hj
          have hj := List.mem_range.mp hj
          unfold qm_vl
          show (if _ then Value.ref (ad (qm_rf i j)) else _) = (if _ then Value.ref (ad' (qm_rf i j)) else _)
          rw [h j (by unfold qz_rl; rw [if_neg h2, if_pos h3]; exact hj)]
        rw [← e]
        exact hv
      · rw [if_neg h3] at hv ⊢
        exact hv
/-- the end of what makes: each cell as it was, or as it shall be -/
theorem qz_end {X : qm_X} {own : String} {cc : ByteArray} {nL f lo mc ms : Nat} {il : List qm_I} {pc pc' ce sl : Nat} {ρ : List (Option Value)} {ad0 ad : Nat → Nat} {E0 E : Nat → va_E} {T0 : qz_T} (a n n' k : Nat) (hX : qz_ok X own cc nL f lo mc ms il) (hd : qm_nth il k = some (pc, .return_, 1, pc')) (hR : qz_RV X T0 mc ms (zpost (qx_G X) ad0 E0 a n n')) (hc : ce ≤ mc ∧ sl ≤ ms) (hp : ∀ i, i < n → ad i = ad0 i) (ho : ∀ i, i < n' → i ≠ a → i < n → E i = E0 i) (hb : ∀ i, i < n' → (i = a ∨ n ≤ i) → E i = zpic (qx_G X) ad i ∨ ∀ q H, va_at (qx_G X).2.1 qm_cl (q, E i) H → va_at (qx_G X).2.1 qm_cl (q, zpic (qx_G X) ad i) H) : qz_J X pc ρ [] (ad, E, n') ce sl := by
  refine qz_cv (E' := zf (qx_G X) ad E0 a n n') (fun i hi H hv => ?_) (qz_ret hX k hd hR hc ⟨ad, hp, rfl⟩)
  by_cases h : i = a ∨ n ≤ i
  · rw [zf_in (by omega)]
    rcases hb i hi h with e | e
    · rw [← e]
      exact hv
    · exact e _ H hv
  · rw [zf_out (by omega), ← ho i hi (by omega) (by omega)]
    exact hv
/-- where a RUN of the class lies -/
def zRun (a : Nat) : Bool := decide ((qm_kd a).1 = 14) && decide (qm_rf a 1 = a + 1) && decide (qm_rf a 2 = a + 2) && decide (qm_kd (a + 1) = (1, 8)) && decide (qm_kd (a + 2) = (1, 256)) && decide (a + 2 < 405) && decide (qz_s0 a 0 = 0)
theorem zpic_Run {G : qm_G} {ad : Nat → Nat} {a : Nat} (h : zRun a = true) : zpic G ad a = .inr (4, [.int 0, .ref (ad (a + 1)), .ref (ad (a + 2))]) ∧ zpic G ad (a + 1) = .inl (G.2.2 1, 8, .inl (qm_sv 405)) ∧ zpic G ad (a + 2) = .inl (G.2.2 1, 256, .inl (fun _ => 0)) := by
  unfold zRun at h
  simp only [Bool.and_eq_true, decide_eq_true_eq] at h
  obtain ⟨⟨⟨⟨⟨⟨h1, h2⟩, h3⟩, h4⟩, h5⟩, h6⟩, h7⟩ := h
  refine ⟨?_, ?_, ?_⟩
  · unfold zpic qm_E
    rw [if_neg (by omega), if_neg (by omega), if_pos (by omega), h1]
    show Sum.inr (4, qm_fs (ad, G.2) 4 a qz_s0) = _
    have e : qm_fs (ad, G.2) 4 a qz_s0 = [.int (qz_s0 a 0), .ref (ad (qm_rf a 1)), .ref (ad (qm_rf a 2))] := rfl
    rw [e, h2, h3, h7]
  · refine zpic_i h4 (by omega) ?_
    funext k
    unfold qz_s0
    rw [if_neg (by omega), if_pos h4]
  · refine zpic_i h5 (by omega) (qz_s00 (by omega) (by rw [h5]; decide) ?_)
    have hk : ∀ b, qm_kd b ≠ (1, 256) → a + 2 ≠ b := fun b hb e => hb (e ▸ h5)
    exact ⟨hk _ (by decide +kernel), hk _ (by decide +kernel), hk _ (by decide +kernel), hk _ (by decide +kernel), hk _ (by decide +kernel), hk _ (by decide +kernel), hk _ (by decide +kernel)⟩
theorem zc_clearQ {l : Launch} {G : qm_G} (ad : Nat → Nat) (E : Nat → va_E) (n a s q qs : Nat) (hq : ad a = q) (hqs : ad s = qs) (ha : a < n) (hs : s < n) (has : a ≠ s) {b : Int32} {v2 : Value} {g : Nat → Int32} (hE : E a = .inr (4, [.int b, .ref qs, v2])) (hS : E s = .inl (G.2.2 1, 8, .inl g)) : qz_MV l G jy_Run_clear prog_6_method_3_code 2 0 0 0 0 (ad, E, n) [.ref q] (fun T' => T' = (ad, qz_u (qz_u E a (.inr (4, [.int 0, .ref qs, v2]))) s (.inl (G.2.2 1, 8, .inl (fun j => if j < 8 then qm_sv 405 j else g j))), n)) := by
  subst hq
  subst hqs
  exact zc_clear ad E n a s ha hs has hE hS
theorem zc_Run {l : Launch} {G : qm_G} (ad : Nat → Nat) (E : Nat → va_E) (a q : Nat) (hz : zRun a = true) (hq : ad a = q) (hE : E a = .inr (4, [.int 0, .null, .null])) : qz_MV l G jy_Run_init prog_6_method_1_code 1 1 21 2 264 (ad, E, a + 1) [.ref q] (zpost G ad E a (a + 1) (a + 3)) := by
  subst hq
  refine qz_met (by decide +kernel) jd_Run_init (fun v hv => by simp only [List.mem_cons, List.not_mem_nil, or_false] at hv; rcases hv with rfl; rfl) (by exact Nat.le_of_ble_eq_true rfl) (fun X hl hg hm hX hR => ?_)
  subst hl
  subst hg
  refine qz_aload_n hX 0 rfl rfl ?_
  refine qz_obj hX 1 rfl zo_Run zo_1 zo_2 ⟨by decide, by decide⟩ ?_
  refine qz_aload_n hX 2 rfl rfl ?_
  refine qz_bipush hX 3 8 rfl (by decide) ?_
  refine qz_newa (ty := .int) hX 4 0 8 rfl zw_int rfl rfl rfl (by decide) (by decide) rfl ⟨by decide, by decide⟩ (fun q1 => ?_)
  refine qz_put hX 5 a rfl zp_Run_11 (fun _ => hm) (by omega) (qz_un (by omega)) (by rw [qz_un (by omega)]; exact hE) rfl ⟨rfl, rfl⟩ ?_
  refine qz_aload_n hX 6 rfl rfl ?_
  refine qz_sipush hX 7 256 rfl (by decide) ?_
  refine qz_newa (ty := .int) hX 8 0 256 rfl zw_int rfl rfl rfl (by decide) (by decide) rfl ⟨by decide, by decide⟩ (fun q2 => ?_)
  refine qz_put hX 9 (fs := [.int 0, .ref q1, .null]) a rfl zp_Run_15 (fun _ => hm) (by omega) (by rw [qz_un (by omega), qz_un (by omega)]) (by rw [qz_un (by omega), qz_us]; rfl) rfl ⟨rfl, rfl⟩ ?_
  refine qz_aload_n hX 10 rfl rfl ?_
  refine qz_callV hX 11 (fs := [.int 0, .ref q1, .ref q2]) a rfl zv_Run_18 (zc_clearQ _ _ (a + 1 + 1 + 1) a (a + 1) (ad a) q1 (by rw [qz_un (by omega), qz_un (by omega)]) (by rw [qz_un (by omega), qz_us]) (by omega) (by omega) (by omega) (b := 0) (v2 := .ref q2) (g := fun _ => 0) (by rw [qz_us]; rfl) (by rw [qz_un (by omega), qz_un (by omega), qz_un (by omega), qz_us])) (by omega) (by rw [qz_un (by omega), qz_un (by omega)]) (by rw [qz_us]; rfl) ⟨jc_4.1, rfl, rfl, by decide, by decide⟩ ⟨by decide, by decide⟩ rfl (by exact Nat.le_of_ble_eq_true rfl) (fun T' hT' => ?_)
  subst hT'
  obtain ⟨p1, p2, p3⟩ := zpic_Run (G := qx_G X) (ad := qz_u (qz_u ad (a + 1) q1) (a + 1 + 1) q2) hz
  refine qz_end a (a + 1) (a + 3) 12 hX rfl hR ⟨by decide, by decide⟩ (fun i hi => ?_) (fun i _ h1 h2 => ?_) (fun i h1 h2 => ?_)
  · rw [qz_un (by omega), qz_un (by omega)]
  · rw [qz_un (by omega), qz_un (by omega), qz_un (by omega), qz_un (by omega), qz_un (by omega), qz_un (by omega)]
  · have h3 : i = a ∨ i = a + 1 ∨ i = a + 2 := by omega
    rcases h3 with rfl | rfl | rfl
    · refine Or.inl ?_
      rw [p1, qz_un (by omega), qz_us, qz_un (show i + 1 ≠ i + 1 + 1 by omega), qz_us, show i + 2 = i + 1 + 1 by omega, qz_us]
    · refine Or.inr (fun q H hv => ?_)
      rw [p2]
      rw [qz_us] at hv
      show H[q]? = some (vp_cell _ (8, _))
      rw [vp_cell_i, ← arrV_same (f := fun j => .int (if j < 8 then qm_sv 405 j else 0)) (fun j hj => by rw [if_pos hj])]
      exact hv
    · refine Or.inl ?_
      rw [p3, qz_un (by omega), qz_un (by omega), qz_un (by omega), show a + 2 = a + 1 + 1 by omega, qz_us]
