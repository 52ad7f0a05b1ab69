theorem zl_Gi {G : qm_G} {ad : Nat → Nat} {i : Nat} (h : i < 367) : (zl_G G ad).1 i = ad i := if_pos h
theorem j_post {below : List Frame} {args : Array Value} {s t : State} {mc ms : Nat} {G : qm_G} {Y : yY} {w1 : yW} (hY : Y.1 = s.heap.size) (hc : mc ≤ 600000) (hs : ms ≤ 7302250) (h : MQ below (yQi G Y 1 w1) args s mc ms (yA Y) t) : lw_Z below args s t := by
  obtain ⟨o, h1, h2, ⟨⟨r, u, e1, e2, -⟩, -⟩, L, h3, h4⟩ := h
  have e2 : r = Int32.ofInt 1 := e2
  have e3 : r = 1 := by rw [e2]; decide
  subst e3
  exact ⟨o, h1, h2, e1, h3.1, h3.2.1, h3.2.2.weaken (fun y hy hlt => absurd hlt (Nat.not_lt.mpr (by have h5 : Y.1 ≤ y.base := h4 y hy; omega))) hc hs⟩
theorem whole_start {p : Program} {e : Env} {s : State} {m : MethodId} {below : List Frame} {meth : Method} {c : Code} (l : Launch) (hflags : l.flags = flags0) {b L : Nat} {xs : Nat → Int32} (hL : L ≤ 260) (C0 : lw_At p s m meth c b L xs) : W p l e room_1 s m #[Value.ref b] below meth c s.heap [] 0 0 (lw_Z below #[Value.ref b] s) (entryFrame m ([Value.ref b] : List Value).toArray 16) := by
  obtain ⟨hx, hb, hr, hml, hown, hts, hX, hbl, hlocks, hgv⟩ := id C0
  obtain ⟨adK, adV, a1, a2, hTx⟩ := zx_Tx_of hgv
  obtain ⟨D, cid, ax, hax, hG⟩ := zx_G hts hgv hTx
  have hO := zx_O hts
  have hq : ∀ w ∈ qm_tb, w.before #[Value.ref b] s = true := fun w hw => hts w (List.mem_filter.mp hw).1
  have h0 := hG ax (fun i _ => rfl)
  have hF : jF s #[Value.ref b] b L xs adK adV a1 a2 := ⟨hX, hL, hTx, D.1 12, (h0.1.1.1 12 _ rfl).2⟩
  obtain ⟨a, w1, e1, ea, z1, z2⟩ := run_law (Y := jY s b L adK adV a1 a2) (w := jW s b L adK adV) (p := b) t0_cI rfl (jS9 hF) (jSC hF)
  subst ea
  have z1 : w_sz w1 ≤ s.heap.size + 367 + 2700 := z1
  have z2 : w_sl w1 ≤ 19817 + 79000 := z2
  rw [lg_entry_eq]
  have hok : qz_ok (p, l, e, room_1, s, m, #[Value.ref b], below, meth, c, (ax, D, cid), (fun q => s.heap.size ≤ q), 0, 0, lw_Z below #[Value.ref b] s) "ColumnsLevelledLaw" code 16 13 498 600000 7302250 jl_Law_law :=
    ⟨⟨hx, hb, hml, hown, hq⟩, jd_Law_law, hlocks, h0.1, h0.2, fun q h => h, rfl, rfl, ⟨rfl, rfl⟩, hO⟩
  have key := zl_made (b := b) (ad0 := fun _ => 0) (E0 := fun _ => .inr (0, [])) hok (fun ad => by
    intro H locs ls hP hD hS hLs
    refine W_sz (fun hsz => ?_)
    have hsz : H.size ≤ s.heap.size + 367 := hsz
    obtain ⟨g1, g2⟩ := zl_GI (G := (ax, D, cid)) (sz := s.heap.size) hD hax
    have hlt : ∀ i, i < 367 → ad i < H.size := fun i hi => (hP i _ (qz_at (T := (ad, zpic (ax, D, cid) ad, 367)) (k := i) hi)).lt
    have hlow : s.heap.size + 367 ≤ H.size := by
      have hp := j_pig 367 (H.size - s.heap.size) (fun i => ad i - s.heap.size) (fun i hi => by
        have := hlt i hi
        have := g2 i hi
        show ad i - s.heap.size < _
        omega) (fun i j hi hj ee => by
        have ee : ad i - s.heap.size = ad j - s.heap.size := ee
        have := g2 i hi
        have := g2 j hj
        exact hD.1 i j _ _ (qz_at (T := (ad, zpic (ax, D, cid) ad, 367)) (k := i) hi) (qz_at (T := (ad, zpic (ax, D, cid) ad, 367)) (k := j) hj) (by show ad i = ad j; omega))
      have hsb : s.heap.size ≤ H.size := hS.1
      omega
    have h1 := hG (zl_G (ax, D, cid) ad).1 (fun i hi => if_neg (by omega))
    have hgg : yGG (zl_G (ax, D, cid) ad) (jY s b L adK adV a1 a2) := ⟨g1, fun i hi => by
      have hi : i < 367 := hi
      have e9 : (zl_G (ax, D, cid) ad).1 i = ad i := if_pos hi
      rw [e9]
      exact ⟨g2 i hi, Nat.lt_of_lt_of_le (hlt i hi) hsz⟩⟩
    have hok1 : y_ok (p, l, e, { frames := 10, cells := w_sz w1 - s.heap.size, slots := w_sl w1 - 0, locals := 228 }, s, m, #[Value.ref b], below, meth, c, zl_G (ax, D, cid) ad, yA (jY s b L adK adV a1 a2), 0, 0, MQ below (yQi (zl_G (ax, D, cid) ad) (jY s b L adK adV a1 a2) 1 w1) #[Value.ref b] s (w_sz w1 - s.heap.size) (w_sl w1 - 0) (yA (jY s b L adK adV a1 a2))) (jY s b L adK adV a1 a2) (w_sz w1, w_sl w1, 0) "ColumnsLevelledLaw" code 16 10 228 jl_Law_law :=
      ⟨⟨⟨hx, hb, hml, hown, hq⟩, jd_Law_law, hlocks, h1.1, h1.2, g1, ⟨fun i hi => (hgg.2 i hi).1, fun q h => h⟩, rfl, rfl, Nat.zero_le _, Nat.zero_le _⟩, rfl, Nat.le_refl _, hgg, ⟨rfl, rfl⟩, jZ hF hts⟩
    have J := kb_Law_law hok1 (r0 := 1) (w0 := w1) ⟨⟨rfl, hr⟩, rfl, rfl⟩ (some b) (jW s b L adK adV) 1 w1 e1 ⟨rfl, rfl⟩
    have J2 := J.2 H locs ls ⟨⟨jYI hF, by show s.heap.size ≤ s.heap.size + 367; omega, Nat.zero_le _⟩, ⟨qz_s0, qz_rel, zl_H hP⟩, ⟨hlow, fun q v hv => absurd hv (jW_E hF)⟩, hS⟩ (by
      have e0 : (zl_G (ax, D, cid) ad).1 0 = ad 0 := zl_Gi (by decide)
      show qm_L ls c.maxLocals [some (.ref b), some (.ref ((zl_G (ax, D, cid) ad).1 0)), none, none, none, none, none, none, none, none, none, none, none, none, none, none]
      rw [e0]
      exact hLs)
    refine W_room (R' := { frames := 10, cells := w_sz w1 - s.heap.size, slots := w_sl w1 - 0, locals := 228 }) (show 10 ≤ 13 by decide) (show 228 ≤ 498 by decide) (by show w_sz w1 - s.heap.size ≤ 600000; omega) (by show w_sl w1 - 0 ≤ 7302250; omega) ?_
    refine W_post (Q := MQ below (yQi (zl_G (ax, D, cid) ad) (jY s b L adK adV a1 a2) 1 w1) #[Value.ref b] s (w_sz w1 - s.heap.size) (w_sl w1 - 0) (yA (jY s b L adK adV a1 a2))) (fun t ht => j_post (Y := jY s b L adK adV a1 a2) rfl (mc := w_sz w1 - s.heap.size) (ms := w_sl w1 - 0) (by omega) (by omega) ht) ?_
    have e6 : w_sz (jW s b L adK adV) - s.heap.size = 367 := by show s.heap.size + 367 - s.heap.size = 367; omega
    have J3 : W p l e { frames := 10, cells := w_sz w1 - s.heap.size, slots := w_sl w1 - 0, locals := 228 } s m #[Value.ref b] below meth c H locs (w_sz (jW s b L adK adV) - s.heap.size) 19817 (MQ below (yQi (zl_G (ax, D, cid) ad) (jY s b L adK adV a1 a2) 1 w1) #[Value.ref b] s (w_sz w1 - s.heap.size) (w_sl w1 - 0) (yA (jY s b L adK adV a1 a2))) (F0 m 8 ls []) := J2
    rw [e6] at J3
    exact J3)
  exact key s.heap [] _ (fun k q h => (by cases h)) ⟨(fun i j p q h => (by cases h)), (fun k q h => (by cases h))⟩ va_S.rf (by show qm_L _ c.maxLocals _; rw [hml]; exact qm_entry [.ref b] 16 (fun v hv => by rw [List.mem_singleton.mp hv]; rfl) (Nat.le_of_ble_eq_true rfl))
