/-! ===== the law: the object is made ===== -/
theorem zi_Law_99 : qz_CI "ColumnsLevelledLaw" 99 jy_Top_init prog_1_method_1_code 2 0 := ⟨qm_good (List.mem_of_getElem? (i := 61) (by decide +kernel)) rfl, qm_good (List.mem_of_getElem? (i := 62) (by decide +kernel)) rfl, qm_good (List.mem_of_getElem? (i := 37) (by decide +kernel)) rfl, qm_good (List.mem_of_getElem? (i := 63) (by decide +kernel)) rfl, rfl, ⟨by decide +kernel, by decide +kernel, by decide +kernel⟩⟩
section
variable {X : qm_X} {own : String} {cc : ByteArray} {nL f lo mc ms : Nat} {il : List qm_I}
variable {pc pc' ce sl : Nat} {ρ : List (Option Value)} {st : List Value} {T : qz_T}
theorem qz_astore_n (hX : qz_ok X own cc nL f lo mc ms il) (k : Nat) {i : Fin 4} {x : Nat} (ρ' : List (Option Value)) (hd : qm_nth il k = some (pc, .astore_n i, 1, pc')) (hi : (i : Nat) < nL) (hρ : ρ.set (i : Nat) (some (.ref x)) = ρ') (h : qz_J X pc' ρ' st T ce sl) : qz_J X pc ρ (.ref x :: st) T ce sl := by
  cases zk_n hX hd
  intro H locs ls hP hD hS hL
  obtain ⟨ls', e, s2⟩ := hL.put (i := (i : Nat)) (v := .ref x) (by rw [zk_ml hX]; exact hi) rfl
  rw [hρ] at s2
  have h := h H locs ls' hP hD hS s2
  intro T9 hT Y
  obtain ⟨t, a, b⟩ := h T9 hT Y
  refine ⟨t, ?_, b⟩
  have hd' := zk_d hX hd
  jvm_step Y.here [Y.here.top, ↓top_set Y.here.top, zk_ex hX, zk_by hX, hd', e]
  exact ⟨rfl, a⟩
end
theorem zl_r1 : ∀ i, i < 367 → ∀ j, j < qz_rl i → qm_rf i j < 367 := by decide +kernel
theorem zl_made {X : qm_X} (hX : qz_ok X "ColumnsLevelledLaw" code 16 13 498 600000 7302250 jl_Law_law) {b : Nat} {ad0 : Nat → Nat} {E0 : Nat → va_E} (h : ∀ ad : Nat → Nat, qz_J X 8 [some (.ref b), some (.ref (ad 0)), none, none, none, none, none, none, none, none, none, none, none, none, none, none] [] (ad, zpic (qx_G X) ad, 367) 367 19817) : qz_J X 0 [some (.ref b), none, none, none, none, none, none, none, none, none, none, none, none, none, none, none] [] (ad0, E0, 0) 0 0 := by
  refine qz_new hX 0 rfl zn_Law_19 ⟨Nat.le_of_ble_eq_true rfl, Nat.le_of_ble_eq_true rfl⟩ (fun q => ?_)
  refine qz_dup hX 1 rfl ?_
  refine qz_callI hX 2 rfl zi_Law_99 (zc_Top _ _ q qz_us qz_us) ⟨rfl, by decide, by decide⟩ ⟨Nat.le_of_ble_eq_true rfl, Nat.le_of_ble_eq_true rfl⟩ rfl (by exact Nat.le_of_ble_eq_true rfl) (fun T1 hT1 => ?_)
  obtain ⟨ad1, had1, rfl⟩ := hT1
  refine qz_astore_n hX 3 [some (.ref b), some (.ref q), none, none, none, none, none, none, none, none, none, none, none, none, none, none] rfl (by decide) rfl ?_
  have e1 : ad1 0 = q := by rw [had1 0 (by decide), qz_us]
  have h3 := h ad1
  rw [e1] at h3
  refine qz_cv (E' := zpic (qx_G X) ad1) (fun i hi H hv => ?_) h3
  rw [zf_in (by omega)] at hv
  exact hv
/-! what is made is the first picture -/
theorem qm_kl_end : ∀ (l : List (Nat × Nat × Nat)) (i : Nat), (l.map (fun q => q.1)).sum ≤ i → qm_kl l i = (0, 0)
  | [], _, _ => rfl
  | (c, t, n) :: r, i, h => by
    rw [List.map_cons, List.sum_cons] at h
    have h : c + (r.map (fun q => q.1)).sum ≤ i := h
    show (if i < c then (t, n) else qm_kl r (i - c)) = _
    rw [if_neg (by omega)]
    exact qm_kl_end r _ (by omega)
theorem qm_kd_end {i : Nat} (h : 409 ≤ i) : qm_kd i = (0, 0) := qm_kl_end qm_runs i (Nat.le_trans (by decide +kernel) h)
theorem qm_kd_mid : ∀ i, i < 42 → ((qm_kd (367 + i)).1 = 0 ∨ ((qm_kd (367 + i)).1 = 1 ∧ 38 ≤ i) ∨ ((qm_kd (367 + i)).1 = 6 ∧ 38 ≤ i)) := by decide +kernel
theorem qm_kd_out {i : Nat} (h : 367 ≤ i) : (qm_kd i).1 = 0 ∨ (((qm_kd i).1 = 1 ∨ (qm_kd i).1 = 6) ∧ 405 ≤ i ∧ i < 409) := by
  by_cases z : i < 409
  · obtain ⟨k, rfl⟩ : ∃ k, i = 367 + k := ⟨i - 367, by omega⟩
    rcases qm_kd_mid k (by omega) with e | e | e
    · exact Or.inl e
    · exact Or.inr ⟨Or.inl e.1, by omega, z⟩
    · exact Or.inr ⟨Or.inr e.1, by omega, z⟩
  · rw [qm_kd_end (by omega)]
    exact Or.inl rfl
theorem qm_E_out {G : qm_G} {σ : qm_Mem} {i : Nat} (h : 367 ≤ i) : qm_E G σ i = none := by
  have hk := qm_kd_out h
  unfold qm_E
  have hN : ¬ i < qm_N := by unfold qm_N; omega
  rw [if_neg (fun q => hN q.2), if_neg (by omega), if_neg (by omega)]
def zl_G (G : qm_G) (ad : Nat → Nat) : qm_G := (fun i => if i < 367 then ad i else G.1 i, G.2)
theorem zl_H {G : qm_G} {ad : Nat → Nat} {H : Heap} (hP : va_P G.2.1 qm_cl (qz_L (ad, zpic G ad, 367)) H) : qm_H (zl_G G ad) qz_s0 H := by
  refine ⟨fun i e he => ?_, fun i h1 h2 j hj => ?_⟩
  · by_cases z : i < 367
    · have hv := hP i _ (qz_at (T := (ad, zpic G ad, 367)) (k := i) z)
      have e0 : (zl_G G ad).1 i = ad i := if_pos z
      rw [e0]
      have hv2 := zpic_mono (G := G) (ad := ad) (ad' := (zl_G G ad).1) (fun j hj => (if_pos (zl_r1 i z j hj)).symm) hv
      have e1 : zpic G (zl_G G ad).1 i = e := by
        unfold zpic
        have he : qm_E ((zl_G G ad).1, G.2) qz_s0 i = some e := he
        rw [he]
      rw [e1] at hv2
      exact hv2
    · rw [qm_E_out (by omega)] at he
      cases he
  · show qz_s0 i j = _
    unfold qz_s0
    rw [if_pos h1]
theorem zl_GI {G : qm_G} {ad : Nat → Nat} {sz : Nat} {E : Nat → va_E} (hD : va_D (fun q => sz ≤ q) (qz_L (ad, E, 367))) (hx : ∀ i, 405 ≤ i → i < 409 → G.1 i < sz) : qm_GI (zl_G G ad) ∧ ∀ i, i < 367 → sz ≤ ad i := by
  have hA : ∀ i, i < 367 → sz ≤ ad i := fun i hi => hD.2 i _ (qz_at (T := (ad, E, 367)) (k := i) hi)
  refine ⟨fun i a hk ha e => ?_, hA⟩
  have ha : a < 367 := ha
  have e2 : (zl_G G ad).1 a = ad a := if_pos ha
  by_cases z : i < 367
  · have e1 : (zl_G G ad).1 i = ad i := if_pos z
    rw [e1, e2] at e
    exact hD.1 i a _ _ (qz_at (T := (ad, E, 367)) (k := i) z) (qz_at (T := (ad, E, 367)) (k := a) ha) e
  · rcases qm_kd_out (i := i) (by omega) with q | q
    · exact absurd q hk
    · have e1 : (zl_G G ad).1 i = G.1 i := if_neg z
      rw [e1, e2] at e
      have := hx i q.2.1 q.2.2
      have := hA a ha
      omega
theorem j_pig : ∀ (n m : Nat) (f : Nat → Nat), (∀ i, i < n → f i < m) → (∀ i j, i < n → j < n → f i = f j → i = j) → n ≤ m
  | 0, _, _, _, _ => Nat.zero_le _
  | n + 1, m, f, h1, h2 => by
    have hm := h1 n (by omega)
    have hne : ∀ i, i < n → f i ≠ f n := fun i hi e => by
      have := h2 i n (by omega) (by omega) e
      omega
    have key := j_pig n (m - 1) (fun i => if f i < f n then f i else f i - 1) (fun i hi => by
      show (if f i < f n then f i else f i - 1) < m - 1
      have a1 := h1 i (by omega)
      have a2 := hne i hi
      split <;> omega) (fun i j hi hj e => by
      have e : (if f i < f n then f i else f i - 1) = (if f j < f n then f j else f j - 1) := e
      have a1 := hne i hi
      have a2 := hne j hj
      refine h2 i j (by omega) (by omega) ?_
      split at e <;> split at e <;> omega)
    omega
/-! ===== rooms, ends ===== -/
section
variable {p : Program} {l : Launch} {e : Env} {R R' : Room} {s : State} {m : MethodId} {args : Array Value} {below : List Frame} {meth : Method} {c : Code} {H : Heap} {locs : List Loc} {cells slots : Nat} {Q Q' : State → Prop} {g : JFrame}
theorem j_hasRoom {pl : Platform} (h1 : R'.frames ≤ R.frames) (h2 : R'.locals ≤ R.locals) (h3 : R'.cells ≤ R.cells) (h4 : R'.slots ≤ R.slots) (h : s.hasRoom pl R = true) : s.hasRoom pl R' = true := by
  simp only [State.hasRoom, Bool.and_eq_true, decide_eq_true_eq] at h ⊢
  obtain ⟨⟨⟨⟨y, a, b, c, d, e⟩, f⟩, g⟩, i⟩ := h
  exact ⟨⟨⟨⟨by omega, by omega, by omega, by omega, by omega, e⟩, by omega⟩, by omega⟩, i⟩
theorem W_room (h1 : R'.frames ≤ R.frames) (h2 : R'.locals ≤ R.locals) (h3 : R'.cells ≤ R.cells) (h4 : R'.slots ≤ R.slots) (k : W p l e R' s m args below meth c H locs cells slots Q g) : W p l e R s m args below meth c H locs cells slots Q g := fun T hT X =>
  k T hT ⟨X.admits, X.cas, X.clock, X.frames, j_hasRoom h1 h2 h3 h4 X.room, X.hears, X.method, X.code, X.here, X.tail, X.warmed, X.limits, X.bytes, X.same⟩
theorem W_post (h : ∀ t, Q t → Q' t) (k : W p l e R s m args below meth c H locs cells slots Q g) : W p l e R s m args below meth c H locs cells slots Q' g := fun T hT X => by
  obtain ⟨t, a, b⟩ := k T hT X
  exact ⟨t, a, h t b⟩
theorem W_sz (k : H.size ≤ s.heap.size + cells → W p l e R s m args below meth c H locs cells slots Q g) : W p l e R s m args below meth c H locs cells slots Q g := fun T hT X => k (by rw [← hT]; exact X.heapSize) T hT X
end
