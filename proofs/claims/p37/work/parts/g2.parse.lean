/-! ===== what was told, parsed: its signs ===== -/
def sf (L : Int) (T : Int → Int) (q : Int) (l : List Int) : Prop := 0 ≤ q ∧ q + (l.length : Int) = L ∧ ∀ i : Nat, i < l.length → T (q + (i : Int)) = l.getD i 0
def hd9 (l : List Int) : Int := match l with
  | [] => 4
  | a :: _ => sg a
def dr (l : List Int) : List Int := match l with
  | [] => []
  | a :: l => if a = 32 then l else a :: l
/-- a list that ends a word and a number; at most one space ahead of it -/
def okt (l : List Int) : Prop := hd9 l ≠ 0 ∧ hd9 l ≠ 1 ∧ ((dr l).head? ≠ some 32)
def kw (k : Nat) : List Int := if k < 8 then yWd (k + 1) else if k < 13 then yWd (k + 1) else if k = 13 then (yWd 16).tail else if k = 14 then (yWd 17).tail else if k = 15 then [115, 112, 97, 99, 101] else [109, 97, 114, 107]
theorem kw_eq : ∀ k : Nat, k < 17 → qs_ln (kwA k) = (kw k).length ∧ ∀ i : Nat, i < (kw k).length → (qs_ch (kwA k) i).toInt = (kw k).getD i 0 := by decide +kernel
section
variable {L : Int} {T : Int → Int} {q : Int} {l l' : List Int} {a n : Int}
theorem sf_app (h : sf L T q (l ++ l')) : sf L T (q + (l.length : Int)) l' ∧ ∀ i : Nat, i < l.length → T (q + (i : Int)) = l.getD i 0 := by
  obtain ⟨h0, h1, h2⟩ := h
  rw [List.length_append] at h1 h2
  refine ⟨⟨by omega, by omega, fun i hi => ?_⟩, fun i hi => ?_⟩
  · have := h2 (l.length + i) (by omega)
    rw [show q + (l.length : Int) + (i : Int) = q + ((l.length + i : Nat) : Int) by omega, this, List.getD_eq_getElem?_getD, List.getD_eq_getElem?_getD, List.getElem?_append_right (by omega), show l.length + i - l.length = i by omega]
  · have := h2 i (by omega)
    rw [this, List.getD_eq_getElem?_getD, List.getD_eq_getElem?_getD, List.getElem?_append_left hi]
theorem sf_hd (h : sf L T q (a :: l)) : q < L ∧ T q = a ∧ sf L T (q + 1) l := by
  have h1 := sf_app (l := [a]) h
  have h2 := h.2.1
  have h3 := h1.2 0 (Nat.lt_succ_self 0)
  rw [List.length_cons] at h2
  rw [show q + ((0 : Nat) : Int) = q by omega] at h3
  exact ⟨by omega, h3, h1.1⟩
theorem sf_sn (h : sf L T q l) : sn L T q = hd9 l := by
  cases l with
  | nil =>
    have := h.2.1
    exact sn_4 (by simp at this; omega)
  | cons a l =>
    obtain ⟨h1, h2, -⟩ := sf_hd h
    rw [sn_of h1, h2]; rfl
theorem sf_sk (h : sf L T q l) (h2 : (dr l).head? ≠ some 32) : sf L T (sk L T q) (dr l) := by
  cases l with
  | nil =>
    have := h.2.1
    rw [sk_e (fun z => by simp at this; omega)]; exact h
  | cons a l =>
    obtain ⟨b1, b2, b3⟩ := sf_hd h
    by_cases c : a = 32
    · have e : dr (a :: l) = l := if_pos c
      rw [e] at h2 ⊢
      rw [sk_s b1 (b2.trans c)]
      rw [sk_e (fun z => ?_)]
      · exact b3
      · cases l with
        | nil => have := b3.2.1; simp at this; omega
        | cons d l => exact h2 (by rw [← z.2, (sf_hd b3).2.1]; rfl)
    · have e : dr (a :: l) = a :: l := if_neg c
      rw [e, sk_e (fun z => c (b2.symm.trans z.2))]; exact h
theorem ee_run {c : Int} (hc : c = 0 ∨ c = 1) (hl : l ≠ []) (hs : ∀ x ∈ l, sg x = c) (h : sf L T q (l ++ l')) (he : hd9 l' ≠ c) : sn L T q = c ∧ ee L T q = q + (l.length : Int) := by
  obtain ⟨h1, h2⟩ := sf_app h
  have hlen : 0 < l.length := List.length_pos_iff.mpr hl
  have hT : ∀ k, q ≤ k → k < q + (l.length : Int) → sg (T k) = c := fun k k0 k1 => by
    have := h2 (k - q).toNat (by omega)
    rw [show q + (((k - q).toNat : Nat) : Int) = k by omega] at this
    rw [this, List.getD_eq_getElem?_getD, List.getElem?_eq_getElem (by omega)]
    exact hs _ (List.getElem_mem _)
  have hqL : q < L := by have := h.2.1; rw [List.length_append] at this; omega
  have hq := hT q (Int.le_refl _) (by omega)
  refine ⟨by rw [sn_of hqL, hq], ?_⟩
  have e1 : ee L T q = ru L T c q := by
    unfold ee
    rw [hq, if_pos hc]
  rw [e1]
  have hle := h1.2.1
  obtain ⟨g1, g2, g3⟩ := go_in (P := fun x => sg x = c) (T := T) (p := q) (L := L) (by omega)
  change (q ≤ ru L T c q ∧ ru L T c q ≤ L) at g1
  change ¬ (ru L T c q < L ∧ sg (T (ru L T c q)) = c) at g2
  change ∀ k, q ≤ k → k < ru L T c q → sg (T k) = c at g3
  by_cases z : ru L T c q < q + (l.length : Int)
  · exact absurd ⟨by omega, hT _ g1.1 z⟩ g2
  · by_cases y : q + (l.length : Int) < ru L T c q
    · have := g3 (q + (l.length : Int)) (by omega) y
      have s9 := sf_sn h1
      rw [sn_of (by omega), this] at s9
      exact absurd s9.symm he
    · omega
theorem tok_n (h : sf L T q (dg n ++ l)) (hn : 0 ≤ n ∧ n ≤ 99) (hl : okt l) : sn L T q = 1 ∧ va L T q = n ∧ sf L T (nx L T q) (dr l) := by
  have hs : ∀ x ∈ dg n, sg x = 1 := by
    intro x hx
    rw [sg_1]
    unfold dg at hx
    split at hx
    · simp only [List.mem_cons, List.not_mem_nil, or_false] at hx; omega
    · simp only [List.mem_cons, List.not_mem_nil, or_false] at hx
      rcases hx with rfl | rfl <;> omega
  have hne : dg n ≠ [] := by unfold dg; split <;> simp
  obtain ⟨h1, h2⟩ := ee_run (Or.inr rfl) hne hs h hl.2.1
  obtain ⟨h3, h4⟩ := sf_app h
  have hq : q < L := (sn_lt (by rw [h1]; decide)).1
  have hsg : sg (T q) = 1 := by rw [← sn_of hq]; exact h1
  refine ⟨h1, ?_, ?_⟩
  · unfold va
    rw [hsg, if_neg (by decide)]
    unfold nv
    rw [h2, show q + ((dg n).length : Int) - q = ((dg n).length : Int) by omega, Int.toNat_natCast]
    have e0 := h4 0
    have e1 := h4 1
    unfold dg at e0 e1 ⊢
    by_cases c : n < 10
    · rw [if_pos c] at e0 e1 ⊢
      have e0' := e0 (Nat.succ_pos _)
      rw [show q + ((0 : Nat) : Int) = q by omega] at e0'
      show cvN T 1 0 q = n
      unfold cvN cvN
      rw [e0']
      show (if 0 * 10 + (48 + n) - 48 < 100000 then 0 * 10 + (48 + n) - 48 else 100000) = n
      rw [if_pos (by omega)]; omega
    · rw [if_neg c] at e0 e1 ⊢
      have e0' := e0 (Nat.succ_pos _)
      have e1' := e1 (Nat.lt_succ_self 1)
      rw [show q + ((0 : Nat) : Int) = q by omega] at e0'
      rw [show q + ((1 : Nat) : Int) = q + 1 by omega] at e1'
      show cvN T 2 0 q = n
      unfold cvN cvN cvN
      rw [e0', e1']
      show (if (if 0 * 10 + (48 + n / 10) - 48 < 100000 then 0 * 10 + (48 + n / 10) - 48 else 100000) * 10 + (48 + n % 10) - 48 < 100000 then (if 0 * 10 + (48 + n / 10) - 48 < 100000 then 0 * 10 + (48 + n / 10) - 48 else 100000) * 10 + (48 + n % 10) - 48 else 100000) = n
      rw [if_pos (show 0 * 10 + (48 + n / 10) - 48 < 100000 by omega), if_pos (by omega)]; omega
  · unfold nx
    rw [h2]
    exact sf_sk h3 hl.2.2
theorem tok_w {k : Nat} (hk : k < 17) (h : sf L T q (kw k ++ l)) (hl : okt l) : sn L T q = 0 ∧ wd L T q = k ∧ sf L T (nx L T q) (dr l) := by
  obtain ⟨e1, e2⟩ := kw_eq k hk
  obtain ⟨a1, a2, a3⟩ := kw_let k hk
  have hs : ∀ x ∈ kw k, sg x = 0 := by
    intro x hx
    obtain ⟨i, hi, rfl⟩ := List.mem_iff_getElem.mp hx
    rw [sg_0]
    have := a3 i (by omega)
    rw [e2 i hi, List.getD_eq_getElem?_getD, List.getElem?_eq_getElem hi] at this
    exact this
  have hne : kw k ≠ [] := fun z => by rw [z] at e1; simp at e1; omega
  obtain ⟨h1, h2⟩ := ee_run (Or.inl rfl) hne hs h hl.1
  obtain ⟨h3, h4⟩ := sf_app h
  refine ⟨h1, (wd_mt (by omega) (by omega)).mp ⟨?_, fun i i0 i1 => ?_, fun z => ?_⟩, ?_⟩
  · rw [e1]
    have := h3.2.1
    omega
  · rw [e1] at i1
    have := h4 i.toNat (by omega)
    rw [show q + ((i.toNat : Nat) : Int) = q + i by omega] at this
    rw [this]
    unfold iCh
    rw [e2 i.toNat (by omega)]
  · rw [e1] at z
    have s9 := sf_sn h3
    rw [sn_of z.1, z.2] at s9
    exact hl.1 s9.symm
  · unfold nx
    rw [h2]
    exact sf_sk h3 hl.2.2
theorem tok_s (h : sf L T q (59 :: l)) (hl : (dr l).head? ≠ some 32) : sn L T q = 2 ∧ sf L T (nx L T q) (dr l) := by
  obtain ⟨h1, h2, h3⟩ := sf_hd h
  refine ⟨by rw [sn_of h1, h2]; rfl, ?_⟩
  unfold nx ee
  rw [h2, if_neg (by decide)]
  exact sf_sk h3 hl
theorem numF_y {lo hi : Int} (h : sn L T q = 1) (h1 : lo ≤ va L T q ∧ va L T q ≤ hi) : numF L T q lo hi = -1 := by
  unfold numF
  rw [if_pos h, if_neg (by omega)]
theorem wds_go {kd : Int} {m : Nat} {B : Int → Int} {sp : Int} {s : Int × (Int → Int) × Int} (h : sn L T q = 0) (hw : wst L T kd q B sp = Sum.inr s) : wds L T kd (m + 1) q B sp = wds L T kd m s.1 s.2.1 s.2.2 := by
  show (if sn L T q = 0 then _ else _) = _
  rw [if_pos h, hw]; rfl
theorem wds_end {kd : Int} {m : Nat} {B : Int → Int} {sp : Int} (h : sn L T q ≠ 0) : wds L T kd m q B sp = Sum.inr (q, B, sp) := by
  cases m with
  | zero => rfl
  | succ m => exact if_neg h
end
