/-! ===== what was told, parsed: BLOCKS ===== -/
def TWb (R : aRun) (j : Int) : Prop :=
  (0 ≤ rc R j 0 ∧ rc R j 0 ≤ 4) ∧ (rc R j 0 = 0 ∨ rc R j 0 = 3 → 1 ≤ rc R j 1 ∧ rc R j 1 ≤ 30) ∧ (rc R j 0 = 1 ∨ rc R j 0 = 2 → rc R j 1 = 1) ∧ (rc R j 0 = 4 → rc R j 1 = 0 ∧ rc R j 4 = 0 ∧ rc R j 5 = 0 ∧ rc R j 6 = 0 ∧ rc R j 7 = 0) ∧ (1 ≤ rc R j 2 ∧ rc R j 2 ≤ 9) ∧ ((0 ≤ rc R j 3 ∧ rc R j 3 ≤ 9) ∧ (rc R j 0 ≠ 3 → rc R j 3 = 0)) ∧ (rc R j 4 = 0 ∨ rc R j 4 = 1) ∧ ((rc R j 5 = 0 ∨ rc R j 5 = 1) ∧ (rc R j 0 ≠ 0 → rc R j 5 = 0)) ∧ (0 ≤ rc R j 6 ∧ rc R j 6 ≤ 30) ∧ ((rc R j 7 = 0 ∧ rc R j 8 = 0 ∧ rc R j 12 = 0) ∨ (rc R j 7 = 1 ∧ rc R j 0 = 0 ∧ (1 ≤ rc R j 8 ∧ rc R j 8 ≤ rc R j 1) ∧ 1 ≤ rc R j 12 ∧ rc R j 12 ≤ 20))
theorem dg_hd {n : Int} (h : 0 ≤ n ∧ n ≤ 99) : ∃ a x, dg n = a :: x ∧ a ≠ 32 := by
  unfold dg
  split
  · exact ⟨_, _, rfl, by omega⟩
  · exact ⟨_, _, rfl, by omega⟩
theorem okt_sp {a : Int} {x : List Int} (h : a ≠ 32) : okt (32 :: a :: x) := by
  refine ⟨by show sg 32 ≠ 0; decide, by show sg 32 ≠ 1; decide, ?_⟩
  show (a :: x).head? ≠ some 32
  intro e
  exact h (Option.some.inj e)
theorem okt_if {c : Prop} {hc : Decidable c} {o W : List Int} (ho : ∃ a x, o = 32 :: a :: x ∧ a ≠ 32) (hW : okt W) : okt ((@ite _ c hc o []) ++ W) := by
  obtain ⟨a, x, rfl, h⟩ := ho
  by_cases e : c
  · rw [if_pos e]; exact okt_sp h
  · rw [if_neg e]; exact hW
theorem o_dg {n : Int} (h : 0 ≤ n ∧ n ≤ 99) : ∃ a x, [32] ++ dg n = 32 :: a :: x ∧ a ≠ 32 := by
  obtain ⟨a, x, e, h⟩ := dg_hd h
  exact ⟨a, x, by rw [e]; rfl, h⟩
theorem if_id {B : Int → Int} {u w v : Int} (h : B w = v) : B u = if u = w then v else B u := by
  by_cases e : u = w
  · rw [if_pos e, e, h]
  · rw [if_neg e]
section
variable {L : Int} {T : Int → Int} {q : Int} {W : List Int} {B : Int → Int} {kd sp : Int}
/-- a word that may be there: at most one step -/
theorem st_tied {a4 : Int} (h : sf L T q (dr ((if a4 = 1 then yWd 16 else []) ++ W))) (hW : okt W) (h4 : a4 = 0 ∨ a4 = 1) (hB : B 4 = 0) : ∃ k : Nat, k ≤ 1 ∧ ∃ q' B', (∀ m, wds L T kd (m + k) q B sp = wds L T kd m q' B' sp) ∧ sf L T q' (dr W) ∧ ∀ u, B' u = if u = 4 then a4 else B u := by
  rcases h4 with rfl | rfl
  · rw [if_neg (by decide), List.nil_append] at h
    exact ⟨0, by decide, q, B, fun m => rfl, h, fun u => if_id hB⟩
  · rw [if_pos rfl] at h
    have h' : sf L T q (kw 13 ++ W) := h
    obtain ⟨s1, s2, s3⟩ := tok_w (k := 13) (by decide) h' hW
    refine ⟨1, by decide, nx L T q, bup B 4 1, fun m => wds_go (s := (nx L T q, bup B 4 1, sp)) s1 ?_, s3, fun u => rfl⟩
    have s2' : wd L T q = 13 := s2
    unfold wst
    rw [if_pos s2', if_neg (by omega)]
theorem st_whole {a5 : Int} (h : sf L T q (dr ((if a5 = 1 then yWd 17 else []) ++ W))) (hW : okt W) (h5 : a5 = 0 ∨ (a5 = 1 ∧ kd = 0)) (hB : B 5 = 0) : ∃ k : Nat, k ≤ 1 ∧ ∃ q' B', (∀ m, wds L T kd (m + k) q B sp = wds L T kd m q' B' sp) ∧ sf L T q' (dr W) ∧ ∀ u, B' u = if u = 5 then a5 else B u := by
  rcases h5 with rfl | ⟨rfl, hk⟩
  · rw [if_neg (by decide), List.nil_append] at h
    exact ⟨0, by decide, q, B, fun m => rfl, h, fun u => if_id hB⟩
  · rw [if_pos rfl] at h
    have h' : sf L T q (kw 14 ++ W) := h
    obtain ⟨s1, s2, s3⟩ := tok_w (k := 14) (by decide) h' hW
    refine ⟨1, by decide, nx L T q, bup B 5 1, fun m => wds_go (s := (nx L T q, bup B 5 1, sp)) s1 ?_, s3, fun u => rfl⟩
    have s2' : wd L T q = 14 := s2
    unfold wst
    rw [if_neg (by omega), if_pos ⟨s2', hk⟩, if_neg (by omega)]
theorem st_space {a6 : Int} (h : sf L T q (dr ((if 0 < a6 then yWd 18 ++ dg a6 else []) ++ W))) (hW : okt W) (h6 : 0 ≤ a6 ∧ a6 ≤ 30) (hB : B 6 = 0) : ∃ k : Nat, k ≤ 1 ∧ ∃ q' B' sp', (∀ m, wds L T kd (m + k) q B 0 = wds L T kd m q' B' sp') ∧ sf L T q' (dr W) ∧ ∀ u, B' u = if u = 6 then a6 else B u := by
  by_cases c : 0 < a6
  · rw [if_pos c] at h
    have h' : sf L T q (kw 15 ++ (32 :: (dg a6 ++ W))) := h
    obtain ⟨a, x, e9, ha⟩ := dg_hd (n := a6) ⟨by omega, by omega⟩
    obtain ⟨s1, s2, s3⟩ := tok_w (k := 15) (by decide) h' (by rw [e9]; exact okt_sp ha)
    obtain ⟨t1, t2, t3⟩ := tok_n (n := a6) (l := W) s3 ⟨by omega, by omega⟩ hW
    have s2' : wd L T q = 15 := s2
    refine ⟨1, by decide, nx L T (nx L T q), bup B 6 a6, 1, fun m => wds_go (s := (nx L T (nx L T q), bup B 6 a6, 1)) s1 ?_, t3, fun u => rfl⟩
    unfold wst
    rw [if_neg (by omega), if_neg (by omega), if_pos s2', if_neg (by decide), numF_y t1 (by omega), if_neg (by decide), t2]
  · rw [if_neg c, List.nil_append] at h
    exact ⟨0, by decide, q, B, 0, fun m => rfl, h, fun u => if_id (by omega)⟩
theorem st_mark {a7 a8 a12 : Int} (h : sf L T q (dr ((if a7 = 1 then yWd 19 ++ (dg a8 ++ ([32] ++ dg a12)) else []) ++ W))) (hW : okt W) (h7 : (a7 = 0 ∧ a8 = 0 ∧ a12 = 0) ∨ (a7 = 1 ∧ kd = 0 ∧ (1 ≤ a8 ∧ a8 ≤ B 1) ∧ 1 ≤ a12 ∧ a12 ≤ 20)) (hb : B 1 ≤ 30) (hB : B 7 = 0 ∧ B 8 = 0 ∧ B 12 = 0) : ∃ k : Nat, k ≤ 1 ∧ ∃ q' B', (∀ m, wds L T kd (m + k) q B sp = wds L T kd m q' B' sp) ∧ sf L T q' (dr W) ∧ ∀ u, B' u = if u = 7 then a7 else if u = 12 then a12 else if u = 8 then a8 else B u := by
  rcases h7 with ⟨rfl, rfl, rfl⟩ | ⟨rfl, hk, h8, h12⟩
  · rw [if_neg (by decide), List.nil_append] at h
    refine ⟨0, by decide, q, B, fun m => rfl, h, fun u => ?_⟩
    by_cases e : u = 7
    · rw [if_pos e, e, hB.1]
    · by_cases e2 : u = 12
      · rw [if_neg e, if_pos e2, e2, hB.2.2]
      · by_cases e3 : u = 8
        · rw [if_neg e, if_neg e2, if_pos e3, e3, hB.2.1]
        · rw [if_neg e, if_neg e2, if_neg e3]
  · rw [if_pos rfl] at h
    have h' : sf L T q (kw 16 ++ (32 :: (dg a8 ++ (32 :: (dg a12 ++ W))))) := by
      have e : dr ((yWd 19 ++ (dg a8 ++ ([32] ++ dg a12))) ++ W) = kw 16 ++ (32 :: (dg a8 ++ (32 :: (dg a12 ++ W)))) := by
        show [109, 97, 114, 107, 32] ++ (dg a8 ++ ([32] ++ dg a12)) ++ W = _
        simp only [List.append_assoc]
        rfl
      rw [e] at h; exact h
    obtain ⟨a, x, e8, ha⟩ := dg_hd (n := a8) ⟨by omega, by omega⟩
    obtain ⟨b, y, e12, hb'⟩ := dg_hd (n := a12) ⟨by omega, by omega⟩
    obtain ⟨s1, s2, s3⟩ := tok_w (k := 16) (by decide) h' (by rw [e8]; exact okt_sp ha)
    obtain ⟨t1, t2, t3⟩ := tok_n (n := a8) (l := 32 :: (dg a12 ++ W)) s3 ⟨by omega, by omega⟩ (by rw [e12]; exact okt_sp hb')
    obtain ⟨u1, u2, u3⟩ := tok_n (n := a12) (l := W) t3 ⟨by omega, by omega⟩ hW
    have s2' : wd L T q = 16 := s2
    refine ⟨1, by decide, nx L T (nx L T (nx L T q)), mkB B a8 a12, fun m => wds_go (s := (nx L T (nx L T (nx L T q)), mkB B a8 a12, sp)) s1 ?_, u3, fun u => ?_⟩
    · unfold wst
      rw [if_neg (by omega), if_neg (by omega), if_neg (by omega), if_pos ⟨s2', hk⟩, if_neg (by omega), numF_y t1 (by omega), if_neg (by decide)]
      rw [if_neg (fun ⟨i, hi, _⟩ => by omega), numF_y u1 (by omega), if_neg (by decide), t2, u2]
    · unfold mkB bup
      rw [hB.1]
      by_cases e : u = 7
      · rw [if_pos e, if_pos e]; rfl
      · rw [if_neg e, if_neg e]
        by_cases e2 : u = 12
        · rw [if_pos (by omega), if_pos e2]
        · rw [if_neg (by omega), if_neg e2]
          by_cases e3 : u = 8
          · rw [if_pos (by omega), if_pos e3]
          · rw [if_neg (by omega), if_neg e3]
/-- a BLOCK as it was told -/
theorem par_blk {R R' : aRun} {j ts : Int} {tl : List Int} (hw : TWb R j) (htl : okt tl ∧ dr tl = tl) (hn : rn R' < 16) (hp : np R' + rc R j 1 ≤ 90) (h : sf L T q (yWd (9 + (rc R j 0).toNat) ++ ((if rc R j 0 = 3 then [32] ++ dg (rc R j 3) else []) ++ ((if rc R j 0 = 0 ∨ rc R j 0 = 3 then [32] ++ dg (rc R j 1) else []) ++ (([32] ++ dg (rc R j 2)) ++ ((if rc R j 4 = 1 then yWd 16 else []) ++ ((if rc R j 5 = 1 then yWd 17 else []) ++ ((if 0 < rc R j 6 then yWd 18 ++ dg (rc R j 6) else []) ++ ((if rc R j 7 = 1 then yWd 19 ++ (dg (rc R j 8) ++ ([32] ++ dg (rc R j 12))) else []) ++ tl))))))))) : ∃ q' B', prt L T q R' ts = Sum.inr (q', RB R' B', ts) ∧ sf L T q' tl ∧ ∀ u, (0 ≤ u ∧ u ≤ 8) ∨ u = 12 → B' u = rc R j u := by
  obtain ⟨w0, w1, w12, w4, w2, ⟨w3, w33⟩, w44, ⟨w5, w50⟩, w6, w7⟩ := hw
  have b30 : rc R j 1 ≤ 30 := by
    by_cases c : rc R j 0 = 0 ∨ rc R j 0 = 3
    · exact (w1 c).2
    · by_cases c4 : rc R j 0 = 4
      · have := (w4 c4).1; omega
      · have := w12 (by omega); omega
  have w5' : rc R j 5 = 0 ∨ (rc R j 5 = 1 ∧ rc R j 0 = 0) := by
    rcases w5 with z | z
    · exact Or.inl z
    · exact Or.inr ⟨z, Classical.byContradiction fun y => by have := w50 y; omega⟩
  have k7 : okt ((if rc R j 7 = 1 then yWd 19 ++ (dg (rc R j 8) ++ ([32] ++ dg (rc R j 12))) else []) ++ tl) := okt_if ⟨109, _, rfl, by decide⟩ htl.1
  have k6 : okt ((if 0 < rc R j 6 then yWd 18 ++ dg (rc R j 6) else []) ++ ((if rc R j 7 = 1 then yWd 19 ++ (dg (rc R j 8) ++ ([32] ++ dg (rc R j 12))) else []) ++ tl)) := okt_if ⟨115, _, rfl, by decide⟩ k7
  have k5 := okt_if (c := rc R j 5 = 1) (hc := inferInstance) (o := yWd 17) ⟨119, _, rfl, by decide⟩ k6
  have k4 := okt_if (c := rc R j 4 = 1) (hc := inferInstance) (o := yWd 16) ⟨116, _, rfl, by decide⟩ k5
  generalize eW7 : (if rc R j 7 = 1 then yWd 19 ++ (dg (rc R j 8) ++ ([32] ++ dg (rc R j 12))) else []) ++ tl = W7 at h k7 k6 k5 k4
  generalize eW6 : (if 0 < rc R j 6 then yWd 18 ++ dg (rc R j 6) else []) ++ W7 = W6 at h k6 k5 k4
  generalize eW5 : (if rc R j 5 = 1 then yWd 17 else []) ++ W6 = W5 at h k5 k4
  generalize eW4 : (if rc R j 4 = 1 then yWd 16 else []) ++ W5 = W4 at h k4
  have k2 : okt (([32] ++ dg (rc R j 2)) ++ W4) := by
    obtain ⟨a, x, e, ha⟩ := dg_hd (n := rc R j 2) ⟨by omega, by omega⟩
    rw [e]; exact okt_sp ha
  have d2 : dr (([32] ++ dg (rc R j 2)) ++ W4) = dg (rc R j 2) ++ W4 := rfl
  generalize eW2 : ([32] ++ dg (rc R j 2)) ++ W4 = W2 at h k2 d2
  have k1 : okt ((if rc R j 0 = 0 ∨ rc R j 0 = 3 then [32] ++ dg (rc R j 1) else []) ++ W2) := by
    by_cases c : rc R j 0 = 0 ∨ rc R j 0 = 3
    · have := w1 c
      exact okt_if (o_dg (n := rc R j 1) ⟨by omega, by omega⟩) k2
    · rw [if_neg c]; exact k2
  generalize eW1 : (if rc R j 0 = 0 ∨ rc R j 0 = 3 then [32] ++ dg (rc R j 1) else []) ++ W2 = W1 at h k1
  have k3 : okt ((if rc R j 0 = 3 then [32] ++ dg (rc R j 3) else []) ++ W1) := okt_if (o_dg (n := rc R j 3) ⟨by omega, by omega⟩) k1
  obtain ⟨k, hk⟩ : ∃ k : Nat, rc R j 0 = k := ⟨(rc R j 0).toNat, by omega⟩
  have hkw : yWd (9 + (rc R j 0).toNat) = kw (8 + k) := by
    unfold kw
    rw [if_neg (by omega), if_pos (by omega), show (rc R j 0).toNat = k by omega, show 8 + k + 1 = 9 + k by omega]
  rw [hkw] at h
  obtain ⟨s1, s2, s3⟩ := tok_w (k := 8 + k) (by omega) h k3
  have s2' : wd L T q = 8 + rc R j 0 := by rw [s2, hk]; omega
  have main : ∃ q' B', blT L T R' (rc R j 0) (nx L T q) = Sum.inr (q', RB R' B') ∧ sf L T q' tl ∧ ∀ u, (0 ≤ u ∧ u ≤ 8) ∨ u = 12 → B' u = rc R j u := by
    obtain ⟨q2, e2, f2⟩ : ∃ q2, blT L T R' (rc R j 0) (nx L T q) = blN L T R' (rc R j 0) q2 (rc R j 3) ∧ sf L T q2 (dr W1) := by
      unfold blT
      by_cases c : rc R j 0 = 3
      · rw [if_pos c] at s3
        obtain ⟨t1, t2, t3⟩ := tok_n (n := rc R j 3) (l := W1) s3 ⟨by omega, by omega⟩ k1
        rw [if_pos c, numF_y t1 (by omega), if_neg (by decide), t2]
        exact ⟨_, rfl, t3⟩
      · rw [if_neg c] at s3
        rw [if_neg c, w33 c]
        exact ⟨_, rfl, s3⟩
    obtain ⟨q3, e3, f3⟩ : ∃ q3, blN L T R' (rc R j 0) q2 (rc R j 3) = blH L T R' (rc R j 0) q3 (rc R j 1) (rc R j 3) ∧ sf L T q3 (dr W2) := by
      unfold blN
      rw [← eW1] at f2
      by_cases c : rc R j 0 = 0 ∨ rc R j 0 = 3
      · have := w1 c
        rw [if_pos c] at f2
        obtain ⟨t1, t2, t3⟩ := tok_n (n := rc R j 1) (l := W2) f2 ⟨by omega, by omega⟩ k2
        rw [if_pos c, numF_y t1 (by omega), if_neg (by decide), t2, if_neg (by omega)]
        exact ⟨_, rfl, t3⟩
      · rw [if_neg c] at f2
        rw [if_neg c]
        refine ⟨q2, ?_, f2⟩
        by_cases c4 : rc R j 0 = 4
        · rw [if_pos c4, (w4 c4).1]
        · rw [if_neg c4, w12 (by omega)]
    rw [e2, e3]
    rw [d2] at f3
    obtain ⟨t1, t2, t3⟩ := tok_n (n := rc R j 2) (l := W4) f3 ⟨by omega, by omega⟩ k4
    have h9 := (hiK_in (kd := rc R j 0)).1
    unfold blH
    rw [numF_y t1 (by omega), if_neg (by decide), t2]
    by_cases c4 : rc R j 0 = 4
    · obtain ⟨z1, z4, z5, z6, z7⟩ := w4 c4
      rw [if_pos c4]
      refine ⟨_, newB (rc R j 0) (rc R j 1) (rc R j 2) (rc R j 3), rfl, ?_, fun u hu => ?_⟩
      · rw [← eW4, if_neg (by omega), ← eW5, if_neg (by omega), ← eW6, if_neg (by omega), ← eW7, if_neg (by omega)] at t3
        simp only [List.nil_append] at t3
        rw [htl.2] at t3
        exact t3
      · have z8 : rc R j 8 = 0 ∧ rc R j 12 = 0 := by rcases w7 with z | z <;> omega
        unfold newB
        have : u = 0 ∨ u = 1 ∨ u = 2 ∨ u = 3 ∨ u = 4 ∨ u = 5 ∨ u = 6 ∨ u = 7 ∨ u = 8 ∨ u = 12 := by omega
        rcases this with rfl | rfl | rfl | rfl | rfl | rfl | rfl | rfl | rfl | rfl <;> simp <;> omega
    · rw [if_neg c4]
      generalize eB : newB (rc R j 0) (rc R j 1) (rc R j 2) (rc R j 3) = B0
      have b0 : ∀ u, B0 u = if u = 0 then rc R j 0 else if u = 1 then rc R j 1 else if u = 2 then rc R j 2 else if u = 3 then rc R j 3 else 0 := fun u => by rw [← eB]; rfl
      rw [← eW4] at t3
      obtain ⟨n4, l4, q4, B4, g4, f4, u4⟩ := st_tied (kd := rc R j 0) (B := B0) (sp := 0) t3 k5 w44 (by rw [b0]; rfl)
      rw [← eW5] at f4
      obtain ⟨n5, l5, q5, B5, g5, f5, u5⟩ := st_whole (kd := rc R j 0) (B := B4) (sp := 0) f4 k6 w5' (by rw [u4, b0]; rfl)
      rw [← eW6] at f5
      obtain ⟨n6, l6, q6, B6, sp6, g6, f6, u6⟩ := st_space (kd := rc R j 0) (B := B5) f5 k7 w6 (by rw [u5, u4, b0]; rfl)
      rw [← eW7] at f6
      have b1 : B6 1 = rc R j 1 := by rw [u6, u5, u4, b0]; rfl
      obtain ⟨n7, l7, q7, B7, g7, f7, u7⟩ := st_mark (kd := rc R j 0) (B := B6) (sp := sp6) f6 htl.1 (by rw [b1]; exact w7) (by rw [b1]; exact b30) ⟨by rw [u6, u5, u4, b0]; rfl, by rw [u6, u5, u4, b0]; rfl, by rw [u6, u5, u4, b0]; rfl⟩
      rw [htl.2] at f7
      have e0 : wds L T (rc R j 0) 400 (nx L T q3) B0 0 = Sum.inr (q7, B7, sp6) := by
        rw [show 400 = 400 - n4 + n4 by omega, g4, show 400 - n4 = 400 - n4 - n5 + n5 by omega, g5, show 400 - n4 - n5 = 400 - n4 - n5 - n6 + n6 by omega, g6, show 400 - n4 - n5 - n6 = 400 - n4 - n5 - n6 - n7 + n7 by omega, g7]
        exact wds_end (by rw [sf_sn f7]; exact htl.1.1)
      rw [e0]
      refine ⟨q7, B7, rfl, f7, fun u hu => ?_⟩
      rw [u7, u6, u5, u4, b0]
      have : u = 0 ∨ u = 1 ∨ u = 2 ∨ u = 3 ∨ u = 4 ∨ u = 5 ∨ u = 6 ∨ u = 7 ∨ u = 8 ∨ u = 12 := by omega
      rcases this with rfl | rfl | rfl | rfl | rfl | rfl | rfl | rfl | rfl | rfl <;> rfl
  obtain ⟨q', B', m1, m2, m3⟩ := main
  refine ⟨q', B', ?_, m2, m3⟩
  unfold prt
  rw [if_neg (by omega), if_neg (by omega), if_neg (by
    intro z
    rcases z with z | ⟨z1, z2⟩
    · omega
    · have := w12 (by omega)
      omega), show wd L T q - 8 = rc R j 0 by omega, m1]
  rfl
end
