theorem tl_m8 : (-8 : Int32).toInt = -8 := by decide
theorem tl_m2 : (-2 : Int32).toInt = -2 := by decide
theorem tl_m1 : (-1 : Int32).toInt = -1 := by decide
theorem tl_0 : (0 : Int32).toInt = 0 := by decide
theorem tl_1 : (1 : Int32).toInt = 1 := by decide
theorem tl_2 : (2 : Int32).toInt = 2 := by decide
theorem tl_3 : (3 : Int32).toInt = 3 := by decide
theorem tl_4 : (4 : Int32).toInt = 4 := by decide
theorem tl_5 : (5 : Int32).toInt = 5 := by decide
theorem tl_6 : (6 : Int32).toInt = 6 := by decide
theorem tl_7 : (7 : Int32).toInt = 7 := by decide
theorem tl_8 : (8 : Int32).toInt = 8 := by decide
theorem tl_9 : (9 : Int32).toInt = 9 := by decide
theorem tl_10 : (10 : Int32).toInt = 10 := by decide
theorem tl_11 : (11 : Int32).toInt = 11 := by decide
theorem tl_12 : (12 : Int32).toInt = 12 := by decide
theorem tl_13 : (13 : Int32).toInt = 13 := by decide
theorem tl_14 : (14 : Int32).toInt = 14 := by decide
theorem tl_15 : (15 : Int32).toInt = 15 := by decide
theorem tl_16 : (16 : Int32).toInt = 16 := by decide
theorem tl_17 : (17 : Int32).toInt = 17 := by decide
theorem tl_18 : (18 : Int32).toInt = 18 := by decide
theorem tl_20 : (20 : Int32).toInt = 20 := by decide
theorem tl_24 : (24 : Int32).toInt = 24 := by decide
theorem tl_30 : (30 : Int32).toInt = 30 := by decide
theorem tl_31 : (31 : Int32).toInt = 31 := by decide
theorem tl_32 : (32 : Int32).toInt = 32 := by decide
theorem tl_39 : (39 : Int32).toInt = 39 := by decide
theorem tl_40 : (40 : Int32).toInt = 40 := by decide
theorem tl_48 : (48 : Int32).toInt = 48 := by decide
theorem tl_57 : (57 : Int32).toInt = 57 := by decide
theorem tl_59 : (59 : Int32).toInt = 59 := by decide
theorem tl_60 : (60 : Int32).toInt = 60 := by decide
theorem tl_64 : (64 : Int32).toInt = 64 := by decide
theorem tl_90 : (90 : Int32).toInt = 90 := by decide
theorem tl_91 : (91 : Int32).toInt = 91 := by decide
theorem tl_97 : (97 : Int32).toInt = 97 := by decide
theorem tl_122 : (122 : Int32).toInt = 122 := by decide
theorem tl_200 : (200 : Int32).toInt = 200 := by decide
theorem tl_255 : (255 : Int32).toInt = 255 := by decide
theorem tl_400 : (400 : Int32).toInt = 400 := by decide
theorem tl_401 : (401 : Int32).toInt = 401 := by decide
theorem tl_2000 : (2000 : Int32).toInt = 2000 := by decide
theorem tl_100000 : (100000 : Int32).toInt = 100000 := by decide
noncomputable def iz_Run_setting (this : Nat) (p1 : Int) : iM Int :=
  if p1 < 0 then
    iP 0
  else
    if 8 ≤ p1 then
      iP 0
    else
      iB (iLd (qm_rf this 1) p1) fun x1 =>
      iP x1
set_option maxRecDepth 20000 in
set_option maxHeartbeats 2000000 in
theorem is_Run_setting {this : Nat} {p1 : Int32} {p1' : Int} (qp1 : p1.toInt = p1') : iS (jf_Run_setting this p1) (iz_Run_setting this p1') Int32.toInt := by
  subst qp1
  unfold jf_Run_setting iz_Run_setting
  refine is_if (ti_lt rfl tl_0) ?_ ?_
  ·
    exact is_P tl_0
  ·
    refine is_if (ti_le tl_8 rfl) ?_ ?_
    ·
      exact is_P tl_0
    ·
      refine is_B (V := Int32.toInt) (is_Ld rfl) (fun x1 => ?_)
      exact is_P rfl
noncomputable def iz_Fitter_forget (this : Nat) : iM Unit :=
  iB (iz_Run_setting (qm_rf this 0) 6) fun x1 =>
  iB (iPt this 2 x1) fun _ =>
  iB (iz_Run_setting (qm_rf this 0) 5) fun x2 =>
  iB (iPt this 3 x2) fun _ =>
  iB (iPt this 5 (-1)) fun _ =>
  iB (iGt this 9) fun x3 =>
  if x3 = 0 then
    iP ()
  else
    iB (α := Unit) (
      iW (S := Int) (α := Unit) (fun s5 =>
        if (iLen (qm_rf this 8)) ≤ s5 then
          iP (Sum.inr ())
        else
          iB (iSt (qm_rf this 8) s5 (-1)) fun _ =>
          iA (s5 + 1) fun y1 =>
          iB (iP y1) fun x6 =>
          iP (Sum.inl x6)) 0) fun s4 =>
    iB (iPz this 9 0) fun _ =>
    iP ()
set_option maxRecDepth 20000 in
set_option maxHeartbeats 2000000 in
theorem is_Fitter_forget {this : Nat} : iS (jf_Fitter_forget this) (iz_Fitter_forget this) id1 := by
  unfold jf_Fitter_forget iz_Fitter_forget
  refine is_B (V := Int32.toInt) (is_Run_setting tl_6) (fun x1 => ?_)
  refine is_B (V := id1) (is_Pt rfl rfl) (fun _ => ?_)
  refine is_B (V := Int32.toInt) (is_Run_setting tl_5) (fun x2 => ?_)
  refine is_B (V := id1) (is_Pt rfl rfl) (fun _ => ?_)
  refine is_B (V := id1) (is_Pt rfl tl_m1) (fun _ => ?_)
  refine is_B (V := Int32.toInt) (is_Gt rfl) (fun x3 => ?_)
  refine is_if (ti_eq rfl tl_0) ?_ ?_
  ·
    exact is_P rfl
  ·
    refine is_B (V := id1) ?_ (fun s4 => ?_)
    ·
      refine is_W (V := Int32.toInt) (W := id1) (fun s5 => ?_) tl_0
      refine is_if (ti_le (tl_len _) rfl) ?_ ?_
      ·
        exact is_P (pinr rfl)
      ·
        refine is_B (V := id1) (is_St rfl tl_m1) (fun _ => ?_)
        refine is_A (fun h1 => ?_)
        refine is_B (V := Int32.toInt) (is_P (ti_add rfl tl_1 h1)) (fun x6 => ?_)
        exact is_P (pinl rfl)
    refine is_B (V := id1) (is_Pz rfl tl_0) (fun _ => ?_)
    exact is_P rfl
noncomputable def iz_Flow_text (this : Nat) (p1 : Int) (p2 : Int) : iM Int :=
  if p1 < 0 then
    iP 0
  else
    if p2 ≤ p1 then
      iP 0
    else
      if p2 < 91 then
        iB (iLd (qm_rf this 12) p2) fun x1 =>
        iB (iLd (qm_rf this 12) p1) fun x2 =>
        iB (iLd (qm_rf this 8) p1) fun x3 =>
        iB (iLd (qm_rf this 11) p1) fun x4 =>
        iA (x1 - x2) fun y1 =>
        iA (y1 - x3) fun y2 =>
        iA (y2 + x4) fun y3 =>
        iP y3
      else
        iP 0
set_option maxRecDepth 20000 in
set_option maxHeartbeats 2000000 in
theorem is_Flow_text {this : Nat} {p1 : Int32} {p1' : Int} {p2 : Int32} {p2' : Int} (qp1 : p1.toInt = p1') (qp2 : p2.toInt = p2') : iS (jf_Flow_text this p1 p2) (iz_Flow_text this p1' p2') Int32.toInt := by
  subst qp1 qp2
  unfold jf_Flow_text iz_Flow_text
  refine is_if (ti_lt rfl tl_0) ?_ ?_
  ·
    exact is_P tl_0
  ·
    refine is_if (ti_le rfl rfl) ?_ ?_
    ·
      exact is_P tl_0
    ·
      refine is_if (ti_lt rfl tl_91) ?_ ?_
      ·
        refine is_B (V := Int32.toInt) (is_Ld rfl) (fun x1 => ?_)
        refine is_B (V := Int32.toInt) (is_Ld rfl) (fun x2 => ?_)
        refine is_B (V := Int32.toInt) (is_Ld rfl) (fun x3 => ?_)
        refine is_B (V := Int32.toInt) (is_Ld rfl) (fun x4 => ?_)
        refine is_A (fun h1 => ?_)
        refine is_A (fun h2 => ?_)
        refine is_A (fun h3 => ?_)
        exact is_P (ti_add (ti_sub (ti_sub rfl rfl h1) rfl h2) rfl h3)
      ·
        exact is_P tl_0
noncomputable def iz_Flow_ownLines (this : Nat) (p1 : Int) (p2 : Int) : iM Int :=
  if p1 < 0 then
    iP 0
  else
    if p2 ≤ p1 then
      iP 0
    else
      if p2 < 91 then
        iB (iLd (qm_rf this 13) p2) fun x1 =>
        iB (iLd (qm_rf this 13) p1) fun x2 =>
        iA (x1 - x2) fun y1 =>
        iP y1
      else
        iP 0
set_option maxRecDepth 20000 in
set_option maxHeartbeats 2000000 in
theorem is_Flow_ownLines {this : Nat} {p1 : Int32} {p1' : Int} {p2 : Int32} {p2' : Int} (qp1 : p1.toInt = p1') (qp2 : p2.toInt = p2') : iS (jf_Flow_ownLines this p1 p2) (iz_Flow_ownLines this p1' p2') Int32.toInt := by
  subst qp1 qp2
  unfold jf_Flow_ownLines iz_Flow_ownLines
  refine is_if (ti_lt rfl tl_0) ?_ ?_
  ·
    exact is_P tl_0
  ·
    refine is_if (ti_le rfl rfl) ?_ ?_
    ·
      exact is_P tl_0
    ·
      refine is_if (ti_lt rfl tl_91) ?_ ?_
      ·
        refine is_B (V := Int32.toInt) (is_Ld rfl) (fun x1 => ?_)
        refine is_B (V := Int32.toInt) (is_Ld rfl) (fun x2 => ?_)
        refine is_A (fun h1 => ?_)
        exact is_P (ti_sub rfl rfl h1)
      ·
        exact is_P tl_0
noncomputable def iz_Fitter_linesIn (this : Nat) (p1 : Int) : iM Int :=
  iB (iGt this 2) fun x1 =>
  if p1 < x1 then
    iP 0
  else
    iB (iGt this 3) fun x2 =>
    if 0 < x2 then
      iB (iGt this 2) fun x3 =>
      iB (iGt this 3) fun x4 =>
      iA (p1 - x3) fun y1 =>
      iB (iDv y1 x4) fun x5 =>
      iP x5
    else
      iP 0
set_option maxRecDepth 20000 in
set_option maxHeartbeats 2000000 in
theorem is_Fitter_linesIn {this : Nat} {p1 : Int32} {p1' : Int} (qp1 : p1.toInt = p1') : iS (jf_Fitter_linesIn this p1) (iz_Fitter_linesIn this p1') Int32.toInt := by
  subst qp1
  unfold jf_Fitter_linesIn iz_Fitter_linesIn
  refine is_B (V := Int32.toInt) (is_Gt rfl) (fun x1 => ?_)
  refine is_if (ti_lt rfl rfl) ?_ ?_
  ·
    exact is_P tl_0
  ·
    refine is_B (V := Int32.toInt) (is_Gt rfl) (fun x2 => ?_)
    refine is_if (ti_lt tl_0 rfl) ?_ ?_
    ·
      refine is_B (V := Int32.toInt) (is_Gt rfl) (fun x3 => ?_)
      refine is_B (V := Int32.toInt) (is_Gt rfl) (fun x4 => ?_)
      refine is_A (fun h1 => ?_)
      refine is_B (V := Int32.toInt) (is_Dv (ti_sub rfl rfl h1) rfl) (fun x5 => ?_)
      exact is_P rfl
    ·
      exact is_P tl_0
noncomputable def iz_Flow_lastLinesAhead (this : Nat) (p1 : Int) : iM Int :=
  if p1 < 0 then
    iP 0
  else
    if 91 ≤ p1 then
      iP 0
    else
      iB (iLd (qm_rf this 14) p1) fun x1 =>
      iP x1
set_option maxRecDepth 20000 in
set_option maxHeartbeats 2000000 in
theorem is_Flow_lastLinesAhead {this : Nat} {p1 : Int32} {p1' : Int} (qp1 : p1.toInt = p1') : iS (jf_Flow_lastLinesAhead this p1) (iz_Flow_lastLinesAhead this p1') Int32.toInt := by
  subst qp1
  unfold jf_Flow_lastLinesAhead iz_Flow_lastLinesAhead
  refine is_if (ti_lt rfl tl_0) ?_ ?_
  ·
    exact is_P tl_0
  ·
    refine is_if (ti_le tl_91 rfl) ?_ ?_
    ·
      exact is_P tl_0
    ·
      refine is_B (V := Int32.toInt) (is_Ld rfl) (fun x1 => ?_)
      exact is_P rfl
noncomputable def iz_Fitter_leftOver (this : Nat) (p1 : Int) (p2 : Int) (p3 : Int) (p4 : Int) : iM Int :=
  iB (iz_Flow_text (qm_rf this 1) p1 p2) fun x1 =>
  iA (p4 - x1) fun y1 =>
  iB (iP y1) fun x2 =>
  iB (iz_Flow_ownLines (qm_rf this 1) p1 p2) fun x3 =>
  iA (x3 + p3) fun y2 =>
  if ¬ y2 = 0 then
    iB (iz_Fitter_linesIn this x2) fun x4 =>
    iB (α := Int) (
      if x3 ≤ 0 then
        iP 1
      else
        iB (iz_Flow_lastLinesAhead (qm_rf this 1) p2) fun x6 =>
        iA (p3 + x3) fun y3 =>
        iA (y3 - x6) fun y4 =>
        iA (y4 + 1) fun y5 =>
        iP y5) fun s5 =>
    if s5 ≤ x4 then
      iA (x3 + p3) fun y6 =>
      iA (y6 - x4) fun y7 =>
      iB (iz_Math_max 0 y7) fun x7 =>
      iP x7
    else
      iP (-1)
  else
    if x2 < 0 then
      iP (-1)
    else
      iP 0
set_option maxRecDepth 20000 in
set_option maxHeartbeats 2000000 in
theorem is_Fitter_leftOver {this : Nat} {p1 : Int32} {p1' : Int} {p2 : Int32} {p2' : Int} {p3 : Int32} {p3' : Int} {p4 : Int32} {p4' : Int} (qp1 : p1.toInt = p1') (qp2 : p2.toInt = p2') (qp3 : p3.toInt = p3') (qp4 : p4.toInt = p4') : iS (jf_Fitter_leftOver this p1 p2 p3 p4) (iz_Fitter_leftOver this p1' p2' p3' p4') Int32.toInt := by
  subst qp1 qp2 qp3 qp4
  unfold jf_Fitter_leftOver iz_Fitter_leftOver
  refine is_B (V := Int32.toInt) (is_Flow_text rfl rfl) (fun x1 => ?_)
  refine is_A (fun h1 => ?_)
  refine is_B (V := Int32.toInt) (is_P (ti_sub rfl rfl h1)) (fun x2 => ?_)
  refine is_B (V := Int32.toInt) (is_Flow_ownLines rfl rfl) (fun x3 => ?_)
  refine is_A (fun h2 => ?_)
  refine is_if (ti_not (ti_eq (ti_add rfl rfl h2) tl_0)) ?_ ?_
  ·
    refine is_B (V := Int32.toInt) (is_Fitter_linesIn rfl) (fun x4 => ?_)
    refine is_B (V := Int32.toInt) ?_ (fun s5 => ?_)
    ·
      refine is_if (ti_le rfl tl_0) ?_ ?_
      ·
        exact is_P tl_1
      ·
        refine is_B (V := Int32.toInt) (is_Flow_lastLinesAhead rfl) (fun x6 => ?_)
        refine is_A (fun h3 => ?_)
        refine is_A (fun h4 => ?_)
        refine is_A (fun h5 => ?_)
        exact is_P (ti_add (ti_sub (ti_add rfl rfl h3) rfl h4) tl_1 h5)
    refine is_if (ti_le rfl rfl) ?_ ?_
    ·
      refine is_A (fun h6 => ?_)
      refine is_A (fun h7 => ?_)
      refine is_B (V := Int32.toInt) (is_Math_max tl_0 (ti_sub (ti_add rfl rfl h6) rfl h7)) (fun x7 => ?_)
      exact is_P rfl
    ·
      exact is_P tl_m1
  ·
    refine is_if (ti_lt rfl tl_0) ?_ ?_
    ·
      exact is_P tl_m1
    ·
      exact is_P tl_0
noncomputable def iz_Top_at (p1 : Nat) (p2 : Int) : iM Int :=
  if p2 < 0 then
    iP 0
  else
    if (iLen p1) ≤ p2 then
      iP 0
    else
      iB (iLd p1 p2) fun x1 =>
      iP x1
set_option maxRecDepth 20000 in
set_option maxHeartbeats 2000000 in
theorem is_Top_at {p1 : Nat} {p2 : Int32} {p2' : Int} (qp2 : p2.toInt = p2') : iS (jf_Top_at p1 p2) (iz_Top_at p1 p2') Int32.toInt := by
  subst qp2
  unfold jf_Top_at iz_Top_at
  refine is_if (ti_lt rfl tl_0) ?_ ?_
  ·
    exact is_P tl_0
  ·
    refine is_if (ti_le (tl_len _) rfl) ?_ ?_
    ·
      exact is_P tl_0
    ·
      refine is_B (V := Int32.toInt) (is_Ld rfl) (fun x1 => ?_)
      exact is_P rfl
noncomputable def iz_Fitter_bearsAt (this : Nat) (p1 : Int) (p2 : Int) : iM Int :=
  if p1 < 0 then
    iP (-1)
  else
    if 5 < p1 then
      iP (-1)
    else
      iB (iLr (qm_rf this 4) p1) fun r1 =>
      iB (iz_Top_at r1 p2) fun x2 =>
      iP x2
set_option maxRecDepth 20000 in
set_option maxHeartbeats 2000000 in
theorem is_Fitter_bearsAt {this : Nat} {p1 : Int32} {p1' : Int} {p2 : Int32} {p2' : Int} (qp1 : p1.toInt = p1') (qp2 : p2.toInt = p2') : iS (jf_Fitter_bearsAt this p1 p2) (iz_Fitter_bearsAt this p1' p2') Int32.toInt := by
  subst qp1 qp2
  unfold jf_Fitter_bearsAt iz_Fitter_bearsAt
  refine is_if (ti_lt rfl tl_0) ?_ ?_
  ·
    exact is_P tl_m1
  ·
    refine is_if (ti_lt tl_5 rfl) ?_ ?_
    ·
      exact is_P tl_m1
    ·
      refine is_B (V := id1) (is_Lr rfl) (fun r1 => ?_)
      refine is_B (V := Int32.toInt) (is_Top_at rfl) (fun x2 => ?_)
      exact is_P rfl
noncomputable def iz_Fitter_slotOf (this : Nat) (p1 : Int) (p2 : Int) (p3 : Int) : iM Int :=
  iB (α := Int) (
    iB (α := (Unit ⊕ Int)) (
      if p2 < 0 then
        iP (Sum.inl ())
      else
        iB (iz_Top_at (qm_rf (qm_rf this 1) 17) p1) fun x3 =>
        if x3 ≤ p2 then
          iP (Sum.inl ())
        else
          iP (Sum.inr 1)) (Sum.elim (fun s2 =>
      iP 0) iP)) fun s1 =>
  if s1 = 0 then
    iP (-1)
  else
    if p3 < 0 then
      iP (-1)
    else
      if 20 ≤ p3 then
        iP (-1)
      else
        iA (p2 * 20) fun y1 =>
        iA (y1 + p3) fun y2 =>
        iP y2
set_option maxRecDepth 20000 in
set_option maxHeartbeats 2000000 in
theorem is_Fitter_slotOf {this : Nat} {p1 : Int32} {p1' : Int} {p2 : Int32} {p2' : Int} {p3 : Int32} {p3' : Int} (qp1 : p1.toInt = p1') (qp2 : p2.toInt = p2') (qp3 : p3.toInt = p3') : iS (jf_Fitter_slotOf this p1 p2 p3) (iz_Fitter_slotOf this p1' p2' p3') Int32.toInt := by
  subst qp1 qp2 qp3
  unfold jf_Fitter_slotOf iz_Fitter_slotOf
  refine is_B (V := Int32.toInt) ?_ (fun s1 => ?_)
  ·
    refine is_E (V := id1) ?_ (fun s2 => ?_)
    ·
      refine is_if (ti_lt rfl tl_0) ?_ ?_
      ·
        exact is_P (pinl rfl)
      ·
        refine is_B (V := Int32.toInt) (is_Top_at rfl) (fun x3 => ?_)
        refine is_if (ti_le rfl rfl) ?_ ?_
        ·
          exact is_P (pinl rfl)
        ·
          exact is_P (pinr tl_1)
    ·
      exact is_P tl_0
  refine is_if (ti_eq rfl tl_0) ?_ ?_
  ·
    exact is_P tl_m1
  ·
    refine is_if (ti_lt rfl tl_0) ?_ ?_
    ·
      exact is_P tl_m1
    ·
      refine is_if (ti_le tl_20 rfl) ?_ ?_
      ·
        exact is_P tl_m1
      ·
        refine is_A (fun h1 => ?_)
        refine is_A (fun h2 => ?_)
        exact is_P (ti_add (ti_mul rfl tl_20 h1) rfl h2)
noncomputable def iz_Fitter_bearsFrom (this : Nat) (p1 : Int) (p2 : Int) (p3 : Nat) : iM Int :=
  if p1 < 0 then
    iP (-1)
  else
    if p2 < p1 then
      iP (-1)
    else
      if 91 ≤ p2 then
        iP (-1)
      else
        if p2 < (iLen p3) then
          iB (iLd (qm_rf (qm_rf this 1) 12) p1) fun x1 =>
          iB (iLd (qm_rf (qm_rf this 1) 8) p1) fun x2 =>
          iB (iLd (qm_rf (qm_rf this 1) 11) p1) fun x3 =>
          iB (iP (ibSub (ibAdd x1 x2) x3)) fun x4 =>
          iB (α := Int) (
            iB (α := (Int ⊕ Int)) (
              iW (S := (Int × Int)) (α := (Int ⊕ Int)) (fun s7 =>
                if p2 < s7.2 then
                  iP (Sum.inr (Sum.inr s7.1))
                else
                  iB (iGt this 6) fun x8 =>
                  iB (α := Int) (
                    if ¬ s7.2 = p1 then
                      iB (iLd (qm_rf (qm_rf this 1) 12) s7.2) fun x10 =>
                      iA (x10 - x4) fun y1 =>
                      iP y1
                    else
                      iP 0) fun s9 =>
                  iA (x8 - s9) fun y2 =>
                  iB (iP y2) fun x11 =>
                  if 0 ≤ x11 then
                    iB (iLd (qm_rf (qm_rf this 1) 15) s7.2) fun x12 =>
                    iB (α := Int) (
                      if x12 = 0 then
                        iP s7.1
                      else
                        iB (iLd p3 s7.2) fun x14 =>
                        if x14 = (-1) then
                          iP s7.1
                        else
                          iB (iLd (qm_rf (qm_rf this 1) 13) s7.2) fun x15 =>
                          iB (iLd (qm_rf (qm_rf this 1) 13) p1) fun x16 =>
                          iA (x15 - x16) fun y3 =>
                          iB (iP y3) fun x17 =>
                          iB (iGt this 2) fun x18 =>
                          iB (α := Int) (
                            iB (α := (Unit ⊕ Int)) (
                              if x11 < x18 then
                                iP (Sum.inl ())
                              else
                                iB (iGt this 3) fun x21 =>
                                if 0 < x21 then
                                  iB (iGt this 2) fun x22 =>
                                  iB (iGt this 3) fun x23 =>
                                  iA (x11 - x22) fun y4 =>
                                  iB (iDv y4 x23) fun x24 =>
                                  iP (Sum.inr x24)
                                else
                                  iP (Sum.inl ())) (Sum.elim (fun s20 =>
                              iP 0) iP)) fun s19 =>
                          iB (α := Int) (
                            if ¬ s19 = 0 then
                              iB (iLd p3 s7.2) fun x26 =>
                              iA (s19 + x26) fun y5 =>
                              iP y5
                            else
                              iP 0) fun s25 =>
                          iB (α := Int) (
                            if x17 ≤ 0 then
                              iP s25
                            else
                              iB (iLd p3 s7.2) fun x28 =>
                              iB (iLd (qm_rf (qm_rf this 1) 14) s7.2) fun x29 =>
                              iA (x29 - 1) fun y6 =>
                              iB (iz_Math_min x28 y6) fun x30 =>
                              iA (s19 - x17) fun y7 =>
                              iA (y7 + x30) fun y8 =>
                              iB (iP y8) fun x31 =>
                              iP x31) fun s27 =>
                          iB (iz_Math_max s7.1 s27) fun x32 =>
                          iP x32) fun s13 =>
                    iA (s7.2 + 1) fun y9 =>
                    iB (iP y9) fun x33 =>
                    iP (Sum.inl (s13, x33))
                  else
                    iP (Sum.inr (Sum.inl s7.1))) ((-1), p1)) (Sum.elim (fun s6 =>
              iP s6) iP)) fun s5 =>
          iP s5
        else
          iP (-1)
set_option maxRecDepth 20000 in
set_option maxHeartbeats 2000000 in
theorem is_Fitter_bearsFrom {this : Nat} {p1 : Int32} {p1' : Int} {p2 : Int32} {p2' : Int} {p3 : Nat} (qp1 : p1.toInt = p1') (qp2 : p2.toInt = p2') : iS (jf_Fitter_bearsFrom this p1 p2 p3) (iz_Fitter_bearsFrom this p1' p2' p3) Int32.toInt := by
  subst qp1 qp2
  unfold jf_Fitter_bearsFrom iz_Fitter_bearsFrom
  refine is_if (ti_lt rfl tl_0) ?_ ?_
  ·
    exact is_P tl_m1
  ·
    refine is_if (ti_lt rfl rfl) ?_ ?_
    ·
      exact is_P tl_m1
    ·
      refine is_if (ti_le tl_91 rfl) ?_ ?_
      ·
        exact is_P tl_m1
      ·
        refine is_if (ti_lt rfl (tl_len _)) ?_ ?_
        ·
          refine is_B (V := Int32.toInt) (is_Ld rfl) (fun x1 => ?_)
          refine is_B (V := Int32.toInt) (is_Ld rfl) (fun x2 => ?_)
          refine is_B (V := Int32.toInt) (is_Ld rfl) (fun x3 => ?_)
          refine is_B (V := Int32.toInt) (is_P (ti_wsub (ti_wadd rfl rfl) rfl)) (fun x4 => ?_)
          refine is_B (V := Int32.toInt) ?_ (fun s5 => ?_)
          ·
            refine is_E (V := Int32.toInt) ?_ (fun s6 => ?_)
            ·
              refine is_W (V := (ip2 Int32.toInt Int32.toInt)) (W := (is2 Int32.toInt Int32.toInt)) (fun s7 => ?_) (ppair tl_m1 rfl)
              refine is_if (ti_lt rfl rfl) ?_ ?_
              ·
                exact is_P (pinr (pinr rfl))
              ·
                refine is_B (V := Int32.toInt) (is_Gt rfl) (fun x8 => ?_)
                refine is_B (V := Int32.toInt) ?_ (fun s9 => ?_)
                ·
                  refine is_if (ti_not (ti_eq rfl rfl)) ?_ ?_
                  ·
                    refine is_B (V := Int32.toInt) (is_Ld rfl) (fun x10 => ?_)
                    refine is_A (fun h1 => ?_)
                    exact is_P (ti_sub rfl rfl h1)
                  ·
                    exact is_P tl_0
                refine is_A (fun h2 => ?_)
                refine is_B (V := Int32.toInt) (is_P (ti_sub rfl rfl h2)) (fun x11 => ?_)
                refine is_if (ti_le tl_0 rfl) ?_ ?_
                ·
                  refine is_B (V := Int32.toInt) (is_Ld rfl) (fun x12 => ?_)
                  refine is_B (V := Int32.toInt) ?_ (fun s13 => ?_)
                  ·
                    refine is_if (ti_eq rfl tl_0) ?_ ?_
                    ·
                      exact is_P rfl
                    ·
                      refine is_B (V := Int32.toInt) (is_Ld rfl) (fun x14 => ?_)
                      refine is_if (ti_eq rfl tl_m1) ?_ ?_
                      ·
                        exact is_P rfl
                      ·
                        refine is_B (V := Int32.toInt) (is_Ld rfl) (fun x15 => ?_)
                        refine is_B (V := Int32.toInt) (is_Ld rfl) (fun x16 => ?_)
                        refine is_A (fun h3 => ?_)
                        refine is_B (V := Int32.toInt) (is_P (ti_sub rfl rfl h3)) (fun x17 => ?_)
                        refine is_B (V := Int32.toInt) (is_Gt rfl) (fun x18 => ?_)
                        refine is_B (V := Int32.toInt) ?_ (fun s19 => ?_)
                        ·
                          refine is_E (V := id1) ?_ (fun s20 => ?_)
                          ·
                            refine is_if (ti_lt rfl rfl) ?_ ?_
                            ·
                              exact is_P (pinl rfl)
                            ·
                              refine is_B (V := Int32.toInt) (is_Gt rfl) (fun x21 => ?_)
                              refine is_if (ti_lt tl_0 rfl) ?_ ?_
                              ·
                                refine is_B (V := Int32.toInt) (is_Gt rfl) (fun x22 => ?_)
                                refine is_B (V := Int32.toInt) (is_Gt rfl) (fun x23 => ?_)
                                refine is_A (fun h4 => ?_)
                                refine is_B (V := Int32.toInt) (is_Dv (ti_sub rfl rfl h4) rfl) (fun x24 => ?_)
                                exact is_P (pinr rfl)
                              ·
                                exact is_P (pinl rfl)
                          ·
                            exact is_P tl_0
                        refine is_B (V := Int32.toInt) ?_ (fun s25 => ?_)
                        ·
                          refine is_if (ti_not (ti_eq rfl tl_0)) ?_ ?_
                          ·
                            refine is_B (V := Int32.toInt) (is_Ld rfl) (fun x26 => ?_)
                            refine is_A (fun h5 => ?_)
                            exact is_P (ti_add rfl rfl h5)
                          ·
                            exact is_P tl_0
                        refine is_B (V := Int32.toInt) ?_ (fun s27 => ?_)
                        ·
                          refine is_if (ti_le rfl tl_0) ?_ ?_
                          ·
                            exact is_P rfl
                          ·
                            refine is_B (V := Int32.toInt) (is_Ld rfl) (fun x28 => ?_)
                            refine is_B (V := Int32.toInt) (is_Ld rfl) (fun x29 => ?_)
                            refine is_A (fun h6 => ?_)
                            refine is_B (V := Int32.toInt) (is_Math_min rfl (ti_sub rfl tl_1 h6)) (fun x30 => ?_)
                            refine is_A (fun h7 => ?_)
                            refine is_A (fun h8 => ?_)
                            refine is_B (V := Int32.toInt) (is_P (ti_add (ti_sub rfl rfl h7) rfl h8)) (fun x31 => ?_)
                            exact is_P rfl
                        refine is_B (V := Int32.toInt) (is_Math_max rfl rfl) (fun x32 => ?_)
                        exact is_P rfl
                  refine is_A (fun h9 => ?_)
                  refine is_B (V := Int32.toInt) (is_P (ti_add rfl tl_1 h9)) (fun x33 => ?_)
                  exact is_P (pinl (ppair rfl rfl))
                ·
                  exact is_P (pinr (pinl rfl))
            ·
              exact is_P rfl
          exact is_P rfl
        ·
          exact is_P tl_m1
noncomputable def iz_Fitter_measure (this : Nat) (p1 : Int) (p2 : Int) (p3 : Int) : iM Unit :=
  iB (iz_Top_at (qm_rf (qm_rf this 1) 16) p1) fun x1 =>
  iB (iz_Math_max 0 x1) fun x2 =>
  iB (iz_Top_at (qm_rf (qm_rf this 1) 17) p1) fun x3 =>
  iB (iz_Math_min 90 x3) fun x4 =>
  iB (iGt this 5) fun x5 =>
  iB (α := Unit) (
    iB (α := (Unit ⊕ Unit)) (
      if ¬ p1 = x5 then
        iP (Sum.inl ())
      else
        iB (iGt this 6) fun x8 =>
        if p3 = x8 then
          iP (Sum.inr ())
        else
          iP (Sum.inl ())) (Sum.elim (fun s7 =>
      iB (iPt this 5 p1) fun _ =>
      iB (iPt this 6 p3) fun _ =>
      iB (iPt this 7 0) fun _ =>
      iW (S := Int) (α := Unit) (fun s9 =>
        if x4 < s9 then
          iP (Sum.inr ())
        else
          iB (iLr (qm_rf this 4) 0) fun r10 =>
          iB (α := Int) (
            if ¬ s9 = x4 then
              iP (-1)
            else
              iP 0) fun s11 =>
          iB (iSt r10 s9 s11) fun _ =>
          iA (s9 + 1) fun y1 =>
          iB (iP y1) fun x12 =>
          iP (Sum.inl x12)) x2) iP)) fun s6 =>
  iB (α := Unit) (
    iW (S := Unit) (α := Unit) (fun s14 =>
      iB (iGt this 7) fun x15 =>
      if p2 ≤ x15 then
        iP (Sum.inr ())
      else
        iB (iGt this 7) fun x16 =>
        if 5 ≤ x16 then
          iP (Sum.inr ())
        else
          iB (iGt this 7) fun x17 =>
          iB (iLr (qm_rf this 4) x17) fun r18 =>
          iB (iGt this 7) fun x19 =>
          iA (x19 + 1) fun y2 =>
          iB (iPt this 7 y2) fun _ =>
          iB (iGt this 7) fun x20 =>
          iB (iLr (qm_rf this 4) x20) fun r21 =>
          iB (α := Unit) (
            iW (S := Int) (α := Unit) (fun s23 =>
              if x4 < s23 then
                iP (Sum.inr ())
              else
                iB (iLd (qm_rf (qm_rf this 1) 15) s23) fun x24 =>
                iB (α := Int) (
                  if x24 = 0 then
                    iP (-1)
                  else
                    iB (iz_Fitter_bearsFrom this s23 x4 r18) fun x26 =>
                    iP x26) fun s25 =>
                iB (iSt r21 s23 s25) fun _ =>
                iA (s23 + 1) fun y3 =>
                iB (iP y3) fun x27 =>
                iP (Sum.inl x27)) x2) fun s22 =>
          iP (Sum.inl ())) ()) fun s13 =>
  iP ()
set_option maxRecDepth 20000 in
set_option maxHeartbeats 2000000 in
theorem is_Fitter_measure {this : Nat} {p1 : Int32} {p1' : Int} {p2 : Int32} {p2' : Int} {p3 : Int32} {p3' : Int} (qp1 : p1.toInt = p1') (qp2 : p2.toInt = p2') (qp3 : p3.toInt = p3') : iS (jf_Fitter_measure this p1 p2 p3) (iz_Fitter_measure this p1' p2' p3') id1 := by
  subst qp1 qp2 qp3
  unfold jf_Fitter_measure iz_Fitter_measure
  refine is_B (V := Int32.toInt) (is_Top_at rfl) (fun x1 => ?_)
  refine is_B (V := Int32.toInt) (is_Math_max tl_0 rfl) (fun x2 => ?_)
  refine is_B (V := Int32.toInt) (is_Top_at rfl) (fun x3 => ?_)
  refine is_B (V := Int32.toInt) (is_Math_min tl_90 rfl) (fun x4 => ?_)
  refine is_B (V := Int32.toInt) (is_Gt rfl) (fun x5 => ?_)
  refine is_B (V := id1) ?_ (fun s6 => ?_)
  ·
    refine is_E (V := id1) ?_ (fun s7 => ?_)
    ·
      refine is_if (ti_not (ti_eq rfl rfl)) ?_ ?_
      ·
        exact is_P (pinl rfl)
      ·
        refine is_B (V := Int32.toInt) (is_Gt rfl) (fun x8 => ?_)
        refine is_if (ti_eq rfl rfl) ?_ ?_
        ·
          exact is_P (pinr rfl)
        ·
          exact is_P (pinl rfl)
    ·
      refine is_B (V := id1) (is_Pt rfl rfl) (fun _ => ?_)
      refine is_B (V := id1) (is_Pt rfl rfl) (fun _ => ?_)
      refine is_B (V := id1) (is_Pt rfl tl_0) (fun _ => ?_)
      refine is_W (V := Int32.toInt) (W := id1) (fun s9 => ?_) rfl
      refine is_if (ti_lt rfl rfl) ?_ ?_
      ·
        exact is_P (pinr rfl)
      ·
        refine is_B (V := id1) (is_Lr tl_0) (fun r10 => ?_)
        refine is_B (V := Int32.toInt) ?_ (fun s11 => ?_)
        ·
          refine is_if (ti_not (ti_eq rfl rfl)) ?_ ?_
          ·
            exact is_P tl_m1
          ·
            exact is_P tl_0
        refine is_B (V := id1) (is_St rfl rfl) (fun _ => ?_)
        refine is_A (fun h1 => ?_)
        refine is_B (V := Int32.toInt) (is_P (ti_add rfl tl_1 h1)) (fun x12 => ?_)
        exact is_P (pinl rfl)
  refine is_B (V := id1) ?_ (fun s13 => ?_)
  ·
    refine is_W (V := id1) (W := id1) (fun s14 => ?_) rfl
    refine is_B (V := Int32.toInt) (is_Gt rfl) (fun x15 => ?_)
    refine is_if (ti_le rfl rfl) ?_ ?_
    ·
      exact is_P (pinr rfl)
    ·
      refine is_B (V := Int32.toInt) (is_Gt rfl) (fun x16 => ?_)
      refine is_if (ti_le tl_5 rfl) ?_ ?_
      ·
        exact is_P (pinr rfl)
      ·
        refine is_B (V := Int32.toInt) (is_Gt rfl) (fun x17 => ?_)
        refine is_B (V := id1) (is_Lr rfl) (fun r18 => ?_)
        refine is_B (V := Int32.toInt) (is_Gt rfl) (fun x19 => ?_)
        refine is_A (fun h2 => ?_)
        refine is_B (V := id1) (is_Pt rfl (ti_add rfl tl_1 h2)) (fun _ => ?_)
        refine is_B (V := Int32.toInt) (is_Gt rfl) (fun x20 => ?_)
        refine is_B (V := id1) (is_Lr rfl) (fun r21 => ?_)
        refine is_B (V := id1) ?_ (fun s22 => ?_)
        ·
          refine is_W (V := Int32.toInt) (W := id1) (fun s23 => ?_) rfl
          refine is_if (ti_lt rfl rfl) ?_ ?_
          ·
            exact is_P (pinr rfl)
          ·
            refine is_B (V := Int32.toInt) (is_Ld rfl) (fun x24 => ?_)
            refine is_B (V := Int32.toInt) ?_ (fun s25 => ?_)
            ·
              refine is_if (ti_eq rfl tl_0) ?_ ?_
              ·
                exact is_P tl_m1
              ·
                refine is_B (V := Int32.toInt) (is_Fitter_bearsFrom rfl rfl) (fun x26 => ?_)
                exact is_P rfl
            refine is_B (V := id1) (is_St rfl rfl) (fun _ => ?_)
            refine is_A (fun h3 => ?_)
            refine is_B (V := Int32.toInt) (is_P (ti_add rfl tl_1 h3)) (fun x27 => ?_)
            exact is_P (pinl rfl)
        exact is_P (pinl rfl)
  exact is_P rfl
noncomputable def iz_Fitter_leastFrom (this : Nat) (p1 : Int) (p2 : Int) (p3 : Int) (p4 : Int) : iM Int :=
  iB (iz_Fitter_slotOf this p1 p2 p3) fun x1 =>
  iB (α := Int) (
    if ¬ x1 = (-1) then
      iB (iz_Top_at (qm_rf this 8) x1) fun x3 =>
      iP x3
    else
      iP (-1)) fun s2 =>
  if s2 = (-1) then
    iB (iz_Run_setting (qm_rf this 0) 0) fun x4 =>
    iB (iz_Fitter_measure this p1 x4 p4) fun _ =>
    iB (iz_Fitter_bearsAt this x4 p2) fun x5 =>
    if p3 ≤ x5 then
      iB (α := Int) (
        iW (S := (Int × (Int × Int))) (α := Int) (fun s7 =>
          if 2000 ≤ s7.2.2 then
            iP (Sum.inr s7.1)
          else
            if s7.1 ≤ s7.2.1 then
              iP (Sum.inr s7.1)
            else
              iA (s7.2.1 + s7.1) fun y1 =>
              iB (iDv y1 2) fun x8 =>
              iB (iz_Fitter_measure this p1 x4 x8) fun _ =>
              iB (iz_Fitter_bearsAt this x4 p2) fun x9 =>
              iB (α := (Int × Int)) (
                if x9 < p3 then
                  iA (x8 + 1) fun y2 =>
                  iB (iP y2) fun x11 =>
                  iP (s7.1, x11)
                else
                  iP (x8, s7.2.1)) fun s10 =>
              iA (s7.2.2 + 1) fun y3 =>
              iB (iP y3) fun x12 =>
              iP (Sum.inl (s10.1, (s10.2, x12)))) (p4, (0, 0))) fun s6 =>
      if x1 < 0 then
        iP s6
      else
        if (iLen (qm_rf this 8)) ≤ x1 then
          iP s6
        else
          iB (iSt (qm_rf this 8) x1 s6) fun _ =>
          iB (iPz this 9 1) fun _ =>
          iP s6
    else
      iP (-2)
  else
    if p4 < s2 then
      iP (-2)
    else
      iP s2
set_option maxRecDepth 20000 in
set_option maxHeartbeats 2000000 in
theorem is_Fitter_leastFrom {this : Nat} {p1 : Int32} {p1' : Int} {p2 : Int32} {p2' : Int} {p3 : Int32} {p3' : Int} {p4 : Int32} {p4' : Int} (qp1 : p1.toInt = p1') (qp2 : p2.toInt = p2') (qp3 : p3.toInt = p3') (qp4 : p4.toInt = p4') : iS (jf_Fitter_leastFrom this p1 p2 p3 p4) (iz_Fitter_leastFrom this p1' p2' p3' p4') Int32.toInt := by
  subst qp1 qp2 qp3 qp4
  unfold jf_Fitter_leastFrom iz_Fitter_leastFrom
  refine is_B (V := Int32.toInt) (is_Fitter_slotOf rfl rfl rfl) (fun x1 => ?_)
  refine is_B (V := Int32.toInt) ?_ (fun s2 => ?_)
  ·
    refine is_if (ti_not (ti_eq rfl tl_m1)) ?_ ?_
    ·
      refine is_B (V := Int32.toInt) (is_Top_at rfl) (fun x3 => ?_)
      exact is_P rfl
    ·
      exact is_P tl_m1
  refine is_if (ti_eq rfl tl_m1) ?_ ?_
  ·
    refine is_B (V := Int32.toInt) (is_Run_setting tl_0) (fun x4 => ?_)
    refine is_B (V := id1) (is_Fitter_measure rfl rfl rfl) (fun _ => ?_)
    refine is_B (V := Int32.toInt) (is_Fitter_bearsAt rfl rfl) (fun x5 => ?_)
    refine is_if (ti_le rfl rfl) ?_ ?_
    ·
      refine is_B (V := Int32.toInt) ?_ (fun s6 => ?_)
      ·
        refine is_W (V := (ip2 Int32.toInt (ip2 Int32.toInt Int32.toInt))) (W := Int32.toInt) (fun s7 => ?_) (ppair rfl (ppair tl_0 tl_0))
        refine is_if (ti_le tl_2000 rfl) ?_ ?_
        ·
          exact is_P (pinr rfl)
        ·
          refine is_if (ti_le rfl rfl) ?_ ?_
          ·
            exact is_P (pinr rfl)
          ·
            refine is_A (fun h1 => ?_)
            refine is_B (V := Int32.toInt) (is_Dv (ti_add rfl rfl h1) tl_2) (fun x8 => ?_)
            refine is_B (V := id1) (is_Fitter_measure rfl rfl rfl) (fun _ => ?_)
            refine is_B (V := Int32.toInt) (is_Fitter_bearsAt rfl rfl) (fun x9 => ?_)
            refine is_B (V := (ip2 Int32.toInt Int32.toInt)) ?_ (fun s10 => ?_)
            ·
              refine is_if (ti_lt rfl rfl) ?_ ?_
              ·
                refine is_A (fun h2 => ?_)
                refine is_B (V := Int32.toInt) (is_P (ti_add rfl tl_1 h2)) (fun x11 => ?_)
                exact is_P (ppair rfl rfl)
              ·
                exact is_P (ppair rfl rfl)
            refine is_A (fun h3 => ?_)
            refine is_B (V := Int32.toInt) (is_P (ti_add rfl tl_1 h3)) (fun x12 => ?_)
            exact is_P (pinl (ppair rfl (ppair rfl rfl)))
      refine is_if (ti_lt rfl tl_0) ?_ ?_
      ·
        exact is_P rfl
      ·
        refine is_if (ti_le (tl_len _) rfl) ?_ ?_
        ·
          exact is_P rfl
        ·
          refine is_B (V := id1) (is_St rfl rfl) (fun _ => ?_)
          refine is_B (V := id1) (is_Pz rfl tl_1) (fun _ => ?_)
          exact is_P rfl
    ·
      exact is_P tl_m2
  ·
    refine is_if (ti_lt rfl rfl) ?_ ?_
    ·
      exact is_P tl_m2
    ·
      exact is_P rfl
noncomputable def iz_Fitter_leastOf (this : Nat) (p1 : Int) : iM Int :=
  iB (iz_Top_at (qm_rf (qm_rf this 1) 16) p1) fun x1 =>
  iB (iz_Fitter_leastFrom this p1 x1 0 2000) fun x2 =>
  iP x2
set_option maxRecDepth 20000 in
set_option maxHeartbeats 2000000 in
theorem is_Fitter_leastOf {this : Nat} {p1 : Int32} {p1' : Int} (qp1 : p1.toInt = p1') : iS (jf_Fitter_leastOf this p1) (iz_Fitter_leastOf this p1') Int32.toInt := by
  subst qp1
  unfold jf_Fitter_leastOf iz_Fitter_leastOf
  refine is_B (V := Int32.toInt) (is_Top_at rfl) (fun x1 => ?_)
  refine is_B (V := Int32.toInt) (is_Fitter_leastFrom rfl rfl tl_0 tl_2000) (fun x2 => ?_)
  exact is_P rfl
noncomputable def iz_Flow_mayEnd (this : Nat) (p1 : Int) : iM Int :=
  if p1 < 0 then
    iP 0
  else
    if 91 ≤ p1 then
      iP 0
    else
      iB (iLd (qm_rf this 15) p1) fun x1 =>
      if x1 = 0 then
        iP 0
      else
        iP 1
set_option maxRecDepth 20000 in
set_option maxHeartbeats 2000000 in
theorem is_Flow_mayEnd {this : Nat} {p1 : Int32} {p1' : Int} (qp1 : p1.toInt = p1') : iS (jf_Flow_mayEnd this p1) (iz_Flow_mayEnd this p1') Int32.toInt := by
  subst qp1
  unfold jf_Flow_mayEnd iz_Flow_mayEnd
  refine is_if (ti_lt rfl tl_0) ?_ ?_
  ·
    exact is_P tl_0
  ·
    refine is_if (ti_le tl_91 rfl) ?_ ?_
    ·
      exact is_P tl_0
    ·
      refine is_B (V := Int32.toInt) (is_Ld rfl) (fun x1 => ?_)
      refine is_if (ti_eq rfl tl_0) ?_ ?_
      ·
        exact is_P tl_0
      ·
        exact is_P tl_1
noncomputable def iz_Fitter_latest (this : Nat) (p1 : Int) (p2 : Int) (p3 : Int) (p4 : Int) (p5 : Int) : iM Int :=
  iB (iz_Top_at (qm_rf (qm_rf this 1) 17) p1) fun x1 =>
  iB (α := (Int ⊕ Int)) (
    iB (α := (Unit ⊕ (Int ⊕ Int))) (
      iW (S := Int) (α := (Unit ⊕ (Int ⊕ Int))) (fun s4 =>
        if s4 < p2 then
          iP (Sum.inr (Sum.inl ()))
        else
          iB (iz_Flow_mayEnd (qm_rf this 1) s4) fun x5 =>
          iB (α := (Unit ⊕ (Int ⊕ (Unit ⊕ (Int ⊕ Int))))) (
            if x5 = 0 then
              iP (Sum.inl ())
            else
              iB (iz_Fitter_leftOver this p2 s4 p3 p4) fun x7 =>
              if x7 = (-1) then
                iP (Sum.inl ())
              else
                if p5 = (-1) then
                  iP (Sum.inr (Sum.inr (Sum.inr (Sum.inl s4))))
                else
                  iB (iz_Fitter_bearsAt this p5 s4) fun x8 =>
                  if x8 < x7 then
                    iP (Sum.inl ())
                  else
                    iP (Sum.inr (Sum.inr (Sum.inr (Sum.inl s4))))) (Sum.elim (fun s6 =>
            iA (s4 + (-1)) fun y1 =>
            iB (iP y1) fun x9 =>
            iP (Sum.inl x9)) iP)) x1) (Sum.elim (fun s3 =>
      iP (Sum.inr (-1))) iP)) (Sum.elim (fun s2 =>
    iP s2) iP)
set_option maxRecDepth 20000 in
set_option maxHeartbeats 2000000 in
theorem is_Fitter_latest {this : Nat} {p1 : Int32} {p1' : Int} {p2 : Int32} {p2' : Int} {p3 : Int32} {p3' : Int} {p4 : Int32} {p4' : Int} {p5 : Int32} {p5' : Int} (qp1 : p1.toInt = p1') (qp2 : p2.toInt = p2') (qp3 : p3.toInt = p3') (qp4 : p4.toInt = p4') (qp5 : p5.toInt = p5') : iS (jf_Fitter_latest this p1 p2 p3 p4 p5) (iz_Fitter_latest this p1' p2' p3' p4' p5') Int32.toInt := by
  subst qp1 qp2 qp3 qp4 qp5
  unfold jf_Fitter_latest iz_Fitter_latest
  refine is_B (V := Int32.toInt) (is_Top_at rfl) (fun x1 => ?_)
  refine is_E (V := Int32.toInt) ?_ (fun s2 => ?_)
  ·
    refine is_E (V := id1) ?_ (fun s3 => ?_)
    ·
      refine is_W (V := Int32.toInt) (W := (is2 id1 (is2 Int32.toInt Int32.toInt))) (fun s4 => ?_) rfl
      refine is_if (ti_lt rfl rfl) ?_ ?_
      ·
        exact is_P (pinr (pinl rfl))
      ·
        refine is_B (V := Int32.toInt) (is_Flow_mayEnd rfl) (fun x5 => ?_)
        refine is_E (V := id1) ?_ (fun s6 => ?_)
        ·
          refine is_if (ti_eq rfl tl_0) ?_ ?_
          ·
            exact is_P (pinl rfl)
          ·
            refine is_B (V := Int32.toInt) (is_Fitter_leftOver rfl rfl rfl rfl) (fun x7 => ?_)
            refine is_if (ti_eq rfl tl_m1) ?_ ?_
            ·
              exact is_P (pinl rfl)
            ·
              refine is_if (ti_eq rfl tl_m1) ?_ ?_
              ·
                exact is_P (pinr (pinr (pinr (pinl rfl))))
              ·
                refine is_B (V := Int32.toInt) (is_Fitter_bearsAt rfl rfl) (fun x8 => ?_)
                refine is_if (ti_lt rfl rfl) ?_ ?_
                ·
                  exact is_P (pinl rfl)
                ·
                  exact is_P (pinr (pinr (pinr (pinl rfl))))
        ·
          refine is_A (fun h1 => ?_)
          refine is_B (V := Int32.toInt) (is_P (ti_add rfl tl_m1 h1)) (fun x9 => ?_)
          exact is_P (pinl rfl)
    ·
      exact is_P (pinr tl_m1)
  ·
    exact is_P rfl
noncomputable def iz_Flow_openSection (this : Nat) (p1 : Int) : iM Unit :=
  iB (iGt this 1) fun x1 =>
  if 17 ≤ x1 then
    iP ()
  else
    iB (iGt this 1) fun x2 =>
    iB (iGt this 0) fun x3 =>
    iB (iSt (qm_rf this 16) x2 x3) fun _ =>
    iB (iGt this 1) fun x4 =>
    iB (iGt this 0) fun x5 =>
    iB (iSt (qm_rf this 17) x4 x5) fun _ =>
    iB (iGt this 1) fun x6 =>
    iB (iSt (qm_rf this 18) x6 p1) fun _ =>
    iB (iGt this 1) fun x7 =>
    iA (x7 + 1) fun y1 =>
    iB (iPt this 1 y1) fun _ =>
    iP ()
set_option maxRecDepth 20000 in
set_option maxHeartbeats 2000000 in
theorem is_Flow_openSection {this : Nat} {p1 : Int32} {p1' : Int} (qp1 : p1.toInt = p1') : iS (jf_Flow_openSection this p1) (iz_Flow_openSection this p1') id1 := by
  subst qp1
  unfold jf_Flow_openSection iz_Flow_openSection
  refine is_B (V := Int32.toInt) (is_Gt rfl) (fun x1 => ?_)
  refine is_if (ti_le tl_17 rfl) ?_ ?_
  ·
    exact is_P rfl
  ·
    refine is_B (V := Int32.toInt) (is_Gt rfl) (fun x2 => ?_)
    refine is_B (V := Int32.toInt) (is_Gt rfl) (fun x3 => ?_)
    refine is_B (V := id1) (is_St rfl rfl) (fun _ => ?_)
    refine is_B (V := Int32.toInt) (is_Gt rfl) (fun x4 => ?_)
    refine is_B (V := Int32.toInt) (is_Gt rfl) (fun x5 => ?_)
    refine is_B (V := id1) (is_St rfl rfl) (fun _ => ?_)
    refine is_B (V := Int32.toInt) (is_Gt rfl) (fun x6 => ?_)
    refine is_B (V := id1) (is_St rfl rfl) (fun _ => ?_)
    refine is_B (V := Int32.toInt) (is_Gt rfl) (fun x7 => ?_)
    refine is_A (fun h1 => ?_)
    refine is_B (V := id1) (is_Pt rfl (ti_add rfl tl_1 h1)) (fun _ => ?_)
    exact is_P rfl
noncomputable def iz_Run_cell (this : Nat) (p1 : Int) (p2 : Int) : iM Int :=
  if p1 < 0 then
    iP 0
  else
    if 16 ≤ p1 then
      iP 0
    else
      if p2 < 0 then
        iP 0
      else
        if p2 < 16 then
          iA (p1 * 16) fun y1 =>
          iA (y1 + p2) fun y2 =>
          iB (iLd (qm_rf this 2) y2) fun x1 =>
          iP x1
        else
          iP 0
set_option maxRecDepth 20000 in
set_option maxHeartbeats 2000000 in
theorem is_Run_cell {this : Nat} {p1 : Int32} {p1' : Int} {p2 : Int32} {p2' : Int} (qp1 : p1.toInt = p1') (qp2 : p2.toInt = p2') : iS (jf_Run_cell this p1 p2) (iz_Run_cell this p1' p2') Int32.toInt := by
  subst qp1 qp2
  unfold jf_Run_cell iz_Run_cell
  refine is_if (ti_lt rfl tl_0) ?_ ?_
  ·
    exact is_P tl_0
  ·
    refine is_if (ti_le tl_16 rfl) ?_ ?_
    ·
      exact is_P tl_0
    ·
      refine is_if (ti_lt rfl tl_0) ?_ ?_
      ·
        exact is_P tl_0
      ·
        refine is_if (ti_lt rfl tl_16) ?_ ?_
        ·
          refine is_A (fun h1 => ?_)
          refine is_A (fun h2 => ?_)
          refine is_B (V := Int32.toInt) (is_Ld (ti_add (ti_mul rfl tl_16 h1) rfl h2)) (fun x1 => ?_)
          exact is_P rfl
        ·
          exact is_P tl_0
noncomputable def iz_Run_noteAt (this : Nat) (p1 : Int) (p2 : Int) : iM Int :=
  iB (iz_Run_cell this p1 7) fun x1 =>
  iB (α := (Int ⊕ Int)) (
    iB (α := (Unit ⊕ (Int ⊕ Int))) (
      iW (S := Int) (α := (Unit ⊕ (Int ⊕ Int))) (fun s4 =>
        if x1 ≤ s4 then
          iP (Sum.inr (Sum.inl ()))
        else
          if 4 ≤ s4 then
            iP (Sum.inr (Sum.inl ()))
          else
            iA (8 + s4) fun y1 =>
            iB (iz_Run_cell this p1 y1) fun x5 =>
            if ¬ x5 = p2 then
              iA (s4 + 1) fun y2 =>
              iB (iP y2) fun x6 =>
              iP (Sum.inl x6)
            else
              iP (Sum.inr (Sum.inr (Sum.inl s4)))) 0) (Sum.elim (fun s3 =>
      iP (Sum.inr 0)) iP)) (Sum.elim (fun s2 =>
    iA (12 + s2) fun y3 =>
    iB (iz_Run_cell this p1 y3) fun x7 =>
    iP x7) iP)
set_option maxRecDepth 20000 in
set_option maxHeartbeats 2000000 in
theorem is_Run_noteAt {this : Nat} {p1 : Int32} {p1' : Int} {p2 : Int32} {p2' : Int} (qp1 : p1.toInt = p1') (qp2 : p2.toInt = p2') : iS (jf_Run_noteAt this p1 p2) (iz_Run_noteAt this p1' p2') Int32.toInt := by
  subst qp1 qp2
  unfold jf_Run_noteAt iz_Run_noteAt
  refine is_B (V := Int32.toInt) (is_Run_cell rfl tl_7) (fun x1 => ?_)
  refine is_E (V := Int32.toInt) ?_ (fun s2 => ?_)
  ·
    refine is_E (V := id1) ?_ (fun s3 => ?_)
    ·
      refine is_W (V := Int32.toInt) (W := (is2 id1 (is2 Int32.toInt Int32.toInt))) (fun s4 => ?_) tl_0
      refine is_if (ti_le rfl rfl) ?_ ?_
      ·
        exact is_P (pinr (pinl rfl))
      ·
        refine is_if (ti_le tl_4 rfl) ?_ ?_
        ·
          exact is_P (pinr (pinl rfl))
        ·
          refine is_A (fun h1 => ?_)
          refine is_B (V := Int32.toInt) (is_Run_cell rfl (ti_add tl_8 rfl h1)) (fun x5 => ?_)
          refine is_if (ti_not (ti_eq rfl rfl)) ?_ ?_
          ·
            refine is_A (fun h2 => ?_)
            refine is_B (V := Int32.toInt) (is_P (ti_add rfl tl_1 h2)) (fun x6 => ?_)
            exact is_P (pinl rfl)
          ·
            exact is_P (pinr (pinr (pinl rfl)))
    ·
      exact is_P (pinr tl_0)
  ·
    refine is_A (fun h3 => ?_)
    refine is_B (V := Int32.toInt) (is_Run_cell rfl (ti_add tl_12 rfl h3)) (fun x7 => ?_)
    exact is_P rfl
noncomputable def iz_Flow_layPieces (this : Nat) (p1 : Int) : iM Unit :=
  iB (iz_Run_cell (qm_rf this 3) p1 1) fun x1 =>
  iB (iz_Run_cell (qm_rf this 3) p1 2) fun x2 =>
  iB (iz_Run_cell (qm_rf this 3) p1 3) fun x3 =>
  iB (iGt this 1) fun x4 =>
  iA (x4 - 1) fun y1 =>
  iB (iP y1) fun x5 =>
  iB (α := Unit) (
    iW (S := Int) (α := Unit) (fun s7 =>
      if x1 ≤ s7 then
        iP (Sum.inr ())
      else
        iB (iGt this 0) fun x8 =>
        if x8 < 0 then
          iP (Sum.inr ())
        else
          iB (iGt this 0) fun x9 =>
          if 90 ≤ x9 then
            iP (Sum.inr ())
          else
            iA (s7 + 1) fun y2 =>
            iB (iz_Run_noteAt (qm_rf this 3) p1 y2) fun x10 =>
            iB (iGt this 0) fun x11 =>
            iB (iSt (qm_rf this 5) x11 p1) fun _ =>
            iB (iGt this 0) fun x12 =>
            iB (iSt (qm_rf this 6) x12 s7) fun _ =>
            iB (iGt this 0) fun x13 =>
            iB (α := Int) (
              if ¬ s7 = 0 then
                iP x2
              else
                iA (x2 + x3) fun y3 =>
                iP y3) fun s14 =>
            iB (iSt (qm_rf this 7) x13 s14) fun _ =>
            iB (iGt this 0) fun x15 =>
            iB (α := Int) (
              if ¬ s7 = 0 then
                iP 0
              else
                iB (iz_Run_cell (qm_rf this 3) p1 6) fun x17 =>
                iP x17) fun s16 =>
            iB (iSt (qm_rf this 8) x15 s16) fun _ =>
            iB (iGt this 0) fun x18 =>
            iB (iSt (qm_rf this 9) x18 x10) fun _ =>
            iB (iGt this 0) fun x19 =>
            iB (iSt (qm_rf this 10) x19 x5) fun _ =>
            iB (iGt this 0) fun x20 =>
            iB (α := Int) (
              if ¬ s7 = 0 then
                iP x3
              else
                iP 0) fun s21 =>
            iB (iSt (qm_rf this 11) x20 s21) fun _ =>
            iB (iGt this 0) fun x22 =>
            iB (iGt this 0) fun x23 =>
            iB (iLd (qm_rf this 12) x23) fun x24 =>
            iB (iGt this 0) fun x25 =>
            iB (iLd (qm_rf this 7) x25) fun x26 =>
            iB (iGt this 0) fun x27 =>
            iB (iLd (qm_rf this 8) x27) fun x28 =>
            iA (x22 + 1) fun y4 =>
            iA (x24 + x26) fun y5 =>
            iA (y5 + x28) fun y6 =>
            iB (iSt (qm_rf this 12) y4 y6) fun _ =>
            iB (iGt this 0) fun x29 =>
            iB (iGt this 0) fun x30 =>
            iB (iLd (qm_rf this 13) x30) fun x31 =>
            iA (x29 + 1) fun y7 =>
            iA (x31 + x10) fun y8 =>
            iB (iSt (qm_rf this 13) y7 y8) fun _ =>
            iB (iGt this 0) fun x32 =>
            iB (α := Int) (
              if x10 ≤ 0 then
                iB (iGt this 0) fun x34 =>
                iB (iLd (qm_rf this 14) x34) fun x35 =>
                iP x35
              else
                iP x10) fun s33 =>
            iA (x32 + 1) fun y9 =>
            iB (iSt (qm_rf this 14) y9 s33) fun _ =>
            iB (α := Unit) (
              if x10 ≤ 0 then
                iP ()
              else
                iB (iGt this 2) fun x37 =>
                if 64 ≤ x37 then
                  iP ()
                else
                  iB (iGt this 2) fun x38 =>
                  iB (iGt this 0) fun x39 =>
                  iB (iSt (qm_rf this 19) x38 x39) fun _ =>
                  iB (iGt this 2) fun x40 =>
                  iA (x40 + 1) fun y10 =>
                  iB (iPt this 2 y10) fun _ =>
                  iP ()) fun s36 =>
            iB (iGt this 0) fun x41 =>
            iA (x41 + 1) fun y11 =>
            iB (iPt this 0 y11) fun _ =>
            iA (s7 + 1) fun y12 =>
            iB (iP y12) fun x42 =>
            iP (Sum.inl x42)) 0) fun s6 =>
  if x5 < 0 then
    iP ()
  else
    if 17 ≤ x5 then
      iP ()
    else
      iB (iGt this 0) fun x43 =>
      iB (iSt (qm_rf this 17) x5 x43) fun _ =>
      iP ()
set_option maxRecDepth 20000 in
set_option maxHeartbeats 2000000 in
theorem is_Flow_layPieces {this : Nat} {p1 : Int32} {p1' : Int} (qp1 : p1.toInt = p1') : iS (jf_Flow_layPieces this p1) (iz_Flow_layPieces this p1') id1 := by
  subst qp1
  unfold jf_Flow_layPieces iz_Flow_layPieces
  refine is_B (V := Int32.toInt) (is_Run_cell rfl tl_1) (fun x1 => ?_)
  refine is_B (V := Int32.toInt) (is_Run_cell rfl tl_2) (fun x2 => ?_)
  refine is_B (V := Int32.toInt) (is_Run_cell rfl tl_3) (fun x3 => ?_)
  refine is_B (V := Int32.toInt) (is_Gt rfl) (fun x4 => ?_)
  refine is_A (fun h1 => ?_)
  refine is_B (V := Int32.toInt) (is_P (ti_sub rfl tl_1 h1)) (fun x5 => ?_)
  refine is_B (V := id1) ?_ (fun s6 => ?_)
  ·
    refine is_W (V := Int32.toInt) (W := id1) (fun s7 => ?_) tl_0
    refine is_if (ti_le rfl rfl) ?_ ?_
    ·
      exact is_P (pinr rfl)
    ·
      refine is_B (V := Int32.toInt) (is_Gt rfl) (fun x8 => ?_)
      refine is_if (ti_lt rfl tl_0) ?_ ?_
      ·
        exact is_P (pinr rfl)
      ·
        refine is_B (V := Int32.toInt) (is_Gt rfl) (fun x9 => ?_)
        refine is_if (ti_le tl_90 rfl) ?_ ?_
        ·
          exact is_P (pinr rfl)
        ·
          refine is_A (fun h2 => ?_)
          refine is_B (V := Int32.toInt) (is_Run_noteAt rfl (ti_add rfl tl_1 h2)) (fun x10 => ?_)
          refine is_B (V := Int32.toInt) (is_Gt rfl) (fun x11 => ?_)
          refine is_B (V := id1) (is_St rfl rfl) (fun _ => ?_)
          refine is_B (V := Int32.toInt) (is_Gt rfl) (fun x12 => ?_)
          refine is_B (V := id1) (is_St rfl rfl) (fun _ => ?_)
          refine is_B (V := Int32.toInt) (is_Gt rfl) (fun x13 => ?_)
          refine is_B (V := Int32.toInt) ?_ (fun s14 => ?_)
          ·
            refine is_if (ti_not (ti_eq rfl tl_0)) ?_ ?_
            ·
              exact is_P rfl
            ·
              refine is_A (fun h3 => ?_)
              exact is_P (ti_add rfl rfl h3)
          refine is_B (V := id1) (is_St rfl rfl) (fun _ => ?_)
          refine is_B (V := Int32.toInt) (is_Gt rfl) (fun x15 => ?_)
          refine is_B (V := Int32.toInt) ?_ (fun s16 => ?_)
          ·
            refine is_if (ti_not (ti_eq rfl tl_0)) ?_ ?_
            ·
              exact is_P tl_0
            ·
              refine is_B (V := Int32.toInt) (is_Run_cell rfl tl_6) (fun x17 => ?_)
              exact is_P rfl
          refine is_B (V := id1) (is_St rfl rfl) (fun _ => ?_)
          refine is_B (V := Int32.toInt) (is_Gt rfl) (fun x18 => ?_)
          refine is_B (V := id1) (is_St rfl rfl) (fun _ => ?_)
          refine is_B (V := Int32.toInt) (is_Gt rfl) (fun x19 => ?_)
          refine is_B (V := id1) (is_St rfl rfl) (fun _ => ?_)
          refine is_B (V := Int32.toInt) (is_Gt rfl) (fun x20 => ?_)
          refine is_B (V := Int32.toInt) ?_ (fun s21 => ?_)
          ·
            refine is_if (ti_not (ti_eq rfl tl_0)) ?_ ?_
            ·
              exact is_P rfl
            ·
              exact is_P tl_0
          refine is_B (V := id1) (is_St rfl rfl) (fun _ => ?_)
          refine is_B (V := Int32.toInt) (is_Gt rfl) (fun x22 => ?_)
          refine is_B (V := Int32.toInt) (is_Gt rfl) (fun x23 => ?_)
          refine is_B (V := Int32.toInt) (is_Ld rfl) (fun x24 => ?_)
          refine is_B (V := Int32.toInt) (is_Gt rfl) (fun x25 => ?_)
          refine is_B (V := Int32.toInt) (is_Ld rfl) (fun x26 => ?_)
          refine is_B (V := Int32.toInt) (is_Gt rfl) (fun x27 => ?_)
          refine is_B (V := Int32.toInt) (is_Ld rfl) (fun x28 => ?_)
          refine is_A (fun h4 => ?_)
          refine is_A (fun h5 => ?_)
          refine is_A (fun h6 => ?_)
          refine is_B (V := id1) (is_St (ti_add rfl tl_1 h4) (ti_add (ti_add rfl rfl h5) rfl h6)) (fun _ => ?_)
          refine is_B (V := Int32.toInt) (is_Gt rfl) (fun x29 => ?_)
          refine is_B (V := Int32.toInt) (is_Gt rfl) (fun x30 => ?_)
          refine is_B (V := Int32.toInt) (is_Ld rfl) (fun x31 => ?_)
          refine is_A (fun h7 => ?_)
          refine is_A (fun h8 => ?_)
          refine is_B (V := id1) (is_St (ti_add rfl tl_1 h7) (ti_add rfl rfl h8)) (fun _ => ?_)
          refine is_B (V := Int32.toInt) (is_Gt rfl) (fun x32 => ?_)
          refine is_B (V := Int32.toInt) ?_ (fun s33 => ?_)
          ·
            refine is_if (ti_le rfl tl_0) ?_ ?_
            ·
              refine is_B (V := Int32.toInt) (is_Gt rfl) (fun x34 => ?_)
              refine is_B (V := Int32.toInt) (is_Ld rfl) (fun x35 => ?_)
              exact is_P rfl
            ·
              exact is_P rfl
          refine is_A (fun h9 => ?_)
          refine is_B (V := id1) (is_St (ti_add rfl tl_1 h9) rfl) (fun _ => ?_)
          refine is_B (V := id1) ?_ (fun s36 => ?_)
          ·
            refine is_if (ti_le rfl tl_0) ?_ ?_
            ·
              exact is_P rfl
            ·
              refine is_B (V := Int32.toInt) (is_Gt rfl) (fun x37 => ?_)
              refine is_if (ti_le tl_64 rfl) ?_ ?_
              ·
                exact is_P rfl
              ·
                refine is_B (V := Int32.toInt) (is_Gt rfl) (fun x38 => ?_)
                refine is_B (V := Int32.toInt) (is_Gt rfl) (fun x39 => ?_)
                refine is_B (V := id1) (is_St rfl rfl) (fun _ => ?_)
                refine is_B (V := Int32.toInt) (is_Gt rfl) (fun x40 => ?_)
                refine is_A (fun h10 => ?_)
                refine is_B (V := id1) (is_Pt rfl (ti_add rfl tl_1 h10)) (fun _ => ?_)
                exact is_P rfl
          refine is_B (V := Int32.toInt) (is_Gt rfl) (fun x41 => ?_)
          refine is_A (fun h11 => ?_)
          refine is_B (V := id1) (is_Pt rfl (ti_add rfl tl_1 h11)) (fun _ => ?_)
          refine is_A (fun h12 => ?_)
          refine is_B (V := Int32.toInt) (is_P (ti_add rfl tl_1 h12)) (fun x42 => ?_)
          exact is_P (pinl rfl)
  refine is_if (ti_lt rfl tl_0) ?_ ?_
  ·
    exact is_P rfl
  ·
    refine is_if (ti_le tl_17 rfl) ?_ ?_
    ·
      exact is_P rfl
    ·
      refine is_B (V := Int32.toInt) (is_Gt rfl) (fun x43 => ?_)
      refine is_B (V := id1) (is_St rfl rfl) (fun _ => ?_)
      exact is_P rfl
noncomputable def iz_Flow_endsBehind (this : Nat) (p1 : Int) (p2 : Int) : iM Int :=
  iB (iz_Run_cell (qm_rf this 3) p1 0) fun x1 =>
  iB (iz_Run_cell (qm_rf this 3) p1 1) fun x2 =>
  iA (x2 - p2) fun y1 =>
  iB (iP y1) fun x3 =>
  if 0 < x3 then
    if x1 = 0 then
      iB (α := Int) (
        iB (α := (Unit ⊕ Int)) (
          if p1 ≤ 0 then
            iP (Sum.inl ())
          else
            iA (p1 - 1) fun y2 =>
            iB (iz_Run_cell (qm_rf this 3) y2 0) fun x6 =>
            if ¬ x6 = 2 then
              iP (Sum.inl ())
            else
              iP (Sum.inr 1)) (Sum.elim (fun s5 =>
          iP 0) iP)) fun s4 =>
      iB (iz_Run_cell (qm_rf this 3) p1 5) fun x7 =>
      if ¬ x7 = 0 then
        iP 0
      else
        iB (iz_Run_setting (qm_rf this 3) 2) fun x8 =>
        if p2 < x8 then
          iP 0
        else
          iB (α := (Unit ⊕ Int)) (
            if s4 = 0 then
              iP (Sum.inl ())
            else
              iB (iz_Run_setting (qm_rf this 3) 4) fun x10 =>
              if p2 < x10 then
                iP (Sum.inr 0)
              else
                iP (Sum.inl ())) (Sum.elim (fun s9 =>
            iB (iz_Run_setting (qm_rf this 3) 3) fun x11 =>
            if x3 < x11 then
              iP 0
            else
              iP 1) iP)
    else
      if ¬ x1 = 3 then
        iP 0
      else
        iP 1
  else
    if x1 = 2 then
      iP 0
    else
      iB (iz_Run_cell (qm_rf this 3) p1 4) fun x12 =>
      if ¬ x12 = 0 then
        iP 0
      else
        iP 1
set_option maxRecDepth 20000 in
set_option maxHeartbeats 2000000 in
theorem is_Flow_endsBehind {this : Nat} {p1 : Int32} {p1' : Int} {p2 : Int32} {p2' : Int} (qp1 : p1.toInt = p1') (qp2 : p2.toInt = p2') : iS (jf_Flow_endsBehind this p1 p2) (iz_Flow_endsBehind this p1' p2') Int32.toInt := by
  subst qp1 qp2
  unfold jf_Flow_endsBehind iz_Flow_endsBehind
  refine is_B (V := Int32.toInt) (is_Run_cell rfl tl_0) (fun x1 => ?_)
  refine is_B (V := Int32.toInt) (is_Run_cell rfl tl_1) (fun x2 => ?_)
  refine is_A (fun h1 => ?_)
  refine is_B (V := Int32.toInt) (is_P (ti_sub rfl rfl h1)) (fun x3 => ?_)
  refine is_if (ti_lt tl_0 rfl) ?_ ?_
  ·
    refine is_if (ti_eq rfl tl_0) ?_ ?_
    ·
      refine is_B (V := Int32.toInt) ?_ (fun s4 => ?_)
      ·
        refine is_E (V := id1) ?_ (fun s5 => ?_)
        ·
          refine is_if (ti_le rfl tl_0) ?_ ?_
          ·
            exact is_P (pinl rfl)
          ·
            refine is_A (fun h2 => ?_)
            refine is_B (V := Int32.toInt) (is_Run_cell (ti_sub rfl tl_1 h2) tl_0) (fun x6 => ?_)
            refine is_if (ti_not (ti_eq rfl tl_2)) ?_ ?_
            ·
              exact is_P (pinl rfl)
            ·
              exact is_P (pinr tl_1)
        ·
          exact is_P tl_0
      refine is_B (V := Int32.toInt) (is_Run_cell rfl tl_5) (fun x7 => ?_)
      refine is_if (ti_not (ti_eq rfl tl_0)) ?_ ?_
      ·
        exact is_P tl_0
      ·
        refine is_B (V := Int32.toInt) (is_Run_setting tl_2) (fun x8 => ?_)
        refine is_if (ti_lt rfl rfl) ?_ ?_
        ·
          exact is_P tl_0
        ·
          refine is_E (V := id1) ?_ (fun s9 => ?_)
          ·
            refine is_if (ti_eq rfl tl_0) ?_ ?_
            ·
              exact is_P (pinl rfl)
            ·
              refine is_B (V := Int32.toInt) (is_Run_setting tl_4) (fun x10 => ?_)
              refine is_if (ti_lt rfl rfl) ?_ ?_
              ·
                exact is_P (pinr tl_0)
              ·
                exact is_P (pinl rfl)
          ·
            refine is_B (V := Int32.toInt) (is_Run_setting tl_3) (fun x11 => ?_)
            refine is_if (ti_lt rfl rfl) ?_ ?_
            ·
              exact is_P tl_0
            ·
              exact is_P tl_1
    ·
      refine is_if (ti_not (ti_eq rfl tl_3)) ?_ ?_
      ·
        exact is_P tl_0
      ·
        exact is_P tl_1
  ·
    refine is_if (ti_eq rfl tl_2) ?_ ?_
    ·
      exact is_P tl_0
    ·
      refine is_B (V := Int32.toInt) (is_Run_cell rfl tl_4) (fun x12 => ?_)
      refine is_if (ti_not (ti_eq rfl tl_0)) ?_ ?_
      ·
        exact is_P tl_0
      ·
        exact is_P tl_1
noncomputable def iz_Flow_markEnd (this : Nat) (p1 : Int) : iM Unit :=
  if p1 < 0 then
    iP ()
  else
    if 91 ≤ p1 then
      iP ()
    else
      iB (iSz (qm_rf this 15) p1 1) fun _ =>
      iP ()
set_option maxRecDepth 20000 in
set_option maxHeartbeats 2000000 in
theorem is_Flow_markEnd {this : Nat} {p1 : Int32} {p1' : Int} (qp1 : p1.toInt = p1') : iS (jf_Flow_markEnd this p1) (iz_Flow_markEnd this p1') id1 := by
  subst qp1
  unfold jf_Flow_markEnd iz_Flow_markEnd
  refine is_if (ti_lt rfl tl_0) ?_ ?_
  ·
    exact is_P rfl
  ·
    refine is_if (ti_le tl_91 rfl) ?_ ?_
    ·
      exact is_P rfl
    ·
      refine is_B (V := id1) (is_Sz rfl tl_1) (fun _ => ?_)
      exact is_P rfl
noncomputable def iz_Flow_markEnds (this : Nat) : iM Unit :=
  iB (α := Unit) (
    iW (S := Int) (α := Unit) (fun s2 =>
      iB (iGt this 0) fun x3 =>
      if x3 ≤ s2 then
        iP (Sum.inr ())
      else
        if 90 ≤ s2 then
          iP (Sum.inr ())
        else
          iB (iLd (qm_rf this 5) s2) fun x4 =>
          iB (iLd (qm_rf this 6) s2) fun x5 =>
          iA (x5 + 1) fun y1 =>
          iB (iz_Flow_endsBehind this x4 y1) fun x6 =>
          iA (s2 + 1) fun y2 =>
          iB (iSz (qm_rf this 15) y2 x6) fun _ =>
          iA (s2 + 1) fun y3 =>
          iB (iP y3) fun x7 =>
          iP (Sum.inl x7)) 0) fun s1 =>
  iB (α := Unit) (
    iW (S := Int) (α := Unit) (fun s9 =>
      iB (iGt this 1) fun x10 =>
      if x10 ≤ s9 then
        iP (Sum.inr ())
      else
        if 17 ≤ s9 then
          iP (Sum.inr ())
        else
          iB (iLd (qm_rf this 16) s9) fun x11 =>
          iB (iz_Flow_markEnd this x11) fun _ =>
          iB (iLd (qm_rf this 17) s9) fun x12 =>
          iB (iz_Flow_markEnd this x12) fun _ =>
          iA (s9 + 1) fun y4 =>
          iB (iP y4) fun x13 =>
          iP (Sum.inl x13)) 0) fun s8 =>
  iP ()
set_option maxRecDepth 20000 in
set_option maxHeartbeats 2000000 in
theorem is_Flow_markEnds {this : Nat} : iS (jf_Flow_markEnds this) (iz_Flow_markEnds this) id1 := by
  unfold jf_Flow_markEnds iz_Flow_markEnds
  refine is_B (V := id1) ?_ (fun s1 => ?_)
  ·
    refine is_W (V := Int32.toInt) (W := id1) (fun s2 => ?_) tl_0
    refine is_B (V := Int32.toInt) (is_Gt rfl) (fun x3 => ?_)
    refine is_if (ti_le rfl rfl) ?_ ?_
    ·
      exact is_P (pinr rfl)
    ·
      refine is_if (ti_le tl_90 rfl) ?_ ?_
      ·
        exact is_P (pinr rfl)
      ·
        refine is_B (V := Int32.toInt) (is_Ld rfl) (fun x4 => ?_)
        refine is_B (V := Int32.toInt) (is_Ld rfl) (fun x5 => ?_)
        refine is_A (fun h1 => ?_)
        refine is_B (V := Int32.toInt) (is_Flow_endsBehind rfl (ti_add rfl tl_1 h1)) (fun x6 => ?_)
        refine is_A (fun h2 => ?_)
        refine is_B (V := id1) (is_Sz (ti_add rfl tl_1 h2) rfl) (fun _ => ?_)
        refine is_A (fun h3 => ?_)
        refine is_B (V := Int32.toInt) (is_P (ti_add rfl tl_1 h3)) (fun x7 => ?_)
        exact is_P (pinl rfl)
  refine is_B (V := id1) ?_ (fun s8 => ?_)
  ·
    refine is_W (V := Int32.toInt) (W := id1) (fun s9 => ?_) tl_0
    refine is_B (V := Int32.toInt) (is_Gt rfl) (fun x10 => ?_)
    refine is_if (ti_le rfl rfl) ?_ ?_
    ·
      exact is_P (pinr rfl)
    ·
      refine is_if (ti_le tl_17 rfl) ?_ ?_
      ·
        exact is_P (pinr rfl)
      ·
        refine is_B (V := Int32.toInt) (is_Ld rfl) (fun x11 => ?_)
        refine is_B (V := id1) (is_Flow_markEnd rfl) (fun _ => ?_)
        refine is_B (V := Int32.toInt) (is_Ld rfl) (fun x12 => ?_)
        refine is_B (V := id1) (is_Flow_markEnd rfl) (fun _ => ?_)
        refine is_A (fun h4 => ?_)
        refine is_B (V := Int32.toInt) (is_P (ti_add rfl tl_1 h4)) (fun x13 => ?_)
        exact is_P (pinl rfl)
  exact is_P rfl
noncomputable def iz_Flow_lay (this : Nat) : iM Unit :=
  iB (iPt this 0 0) fun _ =>
  iB (iPt this 1 0) fun _ =>
  iB (iPt this 2 0) fun _ =>
  iB (iGt (qm_rf this 3) 0) fun x1 =>
  iB (α := Unit) (
    if x1 ≤ 0 then
      iP ()
    else
      iB (iz_Flow_openSection this 0) fun _ =>
      iP ()) fun s2 =>
  iB (α := Unit) (
    iW (S := Int) (α := Unit) (fun s4 =>
      iB (iGt (qm_rf this 3) 0) fun x5 =>
      if x5 ≤ s4 then
        iP (Sum.inr ())
      else
        if 16 ≤ s4 then
          iP (Sum.inr ())
        else
          iB (iGt this 0) fun x6 =>
          iB (iSt (qm_rf this 4) s4 x6) fun _ =>
          iB (iz_Run_cell (qm_rf this 3) s4 0) fun x7 =>
          iB (α := Unit) (
            if ¬ x7 = 4 then
              iB (iz_Flow_layPieces this s4) fun _ =>
              iP ()
            else
              iB (iz_Run_cell (qm_rf this 3) s4 2) fun x9 =>
              iB (iz_Flow_openSection this x9) fun _ =>
              iP ()) fun s8 =>
          iA (s4 + 1) fun y1 =>
          iB (iP y1) fun x10 =>
          iP (Sum.inl x10)) 0) fun s3 =>
  iB (iz_Flow_markEnds this) fun _ =>
  iP ()
set_option maxRecDepth 20000 in
set_option maxHeartbeats 2000000 in
theorem is_Flow_lay {this : Nat} : iS (jf_Flow_lay this) (iz_Flow_lay this) id1 := by
  unfold jf_Flow_lay iz_Flow_lay
  refine is_B (V := id1) (is_Pt rfl tl_0) (fun _ => ?_)
  refine is_B (V := id1) (is_Pt rfl tl_0) (fun _ => ?_)
  refine is_B (V := id1) (is_Pt rfl tl_0) (fun _ => ?_)
  refine is_B (V := Int32.toInt) (is_Gt rfl) (fun x1 => ?_)
  refine is_B (V := id1) ?_ (fun s2 => ?_)
  ·
    refine is_if (ti_le rfl tl_0) ?_ ?_
    ·
      exact is_P rfl
    ·
      refine is_B (V := id1) (is_Flow_openSection tl_0) (fun _ => ?_)
      exact is_P rfl
  refine is_B (V := id1) ?_ (fun s3 => ?_)
  ·
    refine is_W (V := Int32.toInt) (W := id1) (fun s4 => ?_) tl_0
    refine is_B (V := Int32.toInt) (is_Gt rfl) (fun x5 => ?_)
    refine is_if (ti_le rfl rfl) ?_ ?_
    ·
      exact is_P (pinr rfl)
    ·
      refine is_if (ti_le tl_16 rfl) ?_ ?_
      ·
        exact is_P (pinr rfl)
      ·
        refine is_B (V := Int32.toInt) (is_Gt rfl) (fun x6 => ?_)
        refine is_B (V := id1) (is_St rfl rfl) (fun _ => ?_)
        refine is_B (V := Int32.toInt) (is_Run_cell rfl tl_0) (fun x7 => ?_)
        refine is_B (V := id1) ?_ (fun s8 => ?_)
        ·
          refine is_if (ti_not (ti_eq rfl tl_4)) ?_ ?_
          ·
            refine is_B (V := id1) (is_Flow_layPieces rfl) (fun _ => ?_)
            exact is_P rfl
          ·
            refine is_B (V := Int32.toInt) (is_Run_cell rfl tl_2) (fun x9 => ?_)
            refine is_B (V := id1) (is_Flow_openSection rfl) (fun _ => ?_)
            exact is_P rfl
        refine is_A (fun h1 => ?_)
        refine is_B (V := Int32.toInt) (is_P (ti_add rfl tl_1 h1)) (fun x10 => ?_)
        exact is_P (pinl rfl)
  refine is_B (V := id1) (is_Flow_markEnds) (fun _ => ?_)
  exact is_P rfl
noncomputable def iz_Flow_spans (this : Nat) : iM Int :=
  iB (iGt this 1) fun x1 =>
  iA (x1 - 1) fun y1 =>
  iB (iz_Math_max 0 y1) fun x2 =>
  iP x2
set_option maxRecDepth 20000 in
set_option maxHeartbeats 2000000 in
theorem is_Flow_spans {this : Nat} : iS (jf_Flow_spans this) (iz_Flow_spans this) Int32.toInt := by
  unfold jf_Flow_spans iz_Flow_spans
  refine is_B (V := Int32.toInt) (is_Gt rfl) (fun x1 => ?_)
  refine is_A (fun h1 => ?_)
  refine is_B (V := Int32.toInt) (is_Math_max tl_0 (ti_sub rfl tl_1 h1)) (fun x2 => ?_)
  exact is_P rfl
noncomputable def iz_Flow_endsIn (this : Nat) (p1 : Int) (p2 : Int) : iM Int :=
  iB (α := Int) (
    iW (S := (Int × Int)) (α := Int) (fun s2 =>
      if p2 < s2.2 then
        iP (Sum.inr s2.1)
      else
        iB (iz_Flow_mayEnd this s2.2) fun x3 =>
        iB (α := Int) (
          if x3 = 0 then
            iP s2.1
          else
            iA (s2.1 + 1) fun y1 =>
            iB (iP y1) fun x5 =>
            iP x5) fun s4 =>
        iA (s2.2 + 1) fun y2 =>
        iB (iP y2) fun x6 =>
        iP (Sum.inl (s4, x6))) (0, p1)) fun s1 =>
  iP s1
set_option maxRecDepth 20000 in
set_option maxHeartbeats 2000000 in
theorem is_Flow_endsIn {this : Nat} {p1 : Int32} {p1' : Int} {p2 : Int32} {p2' : Int} (qp1 : p1.toInt = p1') (qp2 : p2.toInt = p2') : iS (jf_Flow_endsIn this p1 p2) (iz_Flow_endsIn this p1' p2') Int32.toInt := by
  subst qp1 qp2
  unfold jf_Flow_endsIn iz_Flow_endsIn
  refine is_B (V := Int32.toInt) ?_ (fun s1 => ?_)
  ·
    refine is_W (V := (ip2 Int32.toInt Int32.toInt)) (W := Int32.toInt) (fun s2 => ?_) (ppair tl_0 rfl)
    refine is_if (ti_lt rfl rfl) ?_ ?_
    ·
      exact is_P (pinr rfl)
    ·
      refine is_B (V := Int32.toInt) (is_Flow_mayEnd rfl) (fun x3 => ?_)
      refine is_B (V := Int32.toInt) ?_ (fun s4 => ?_)
      ·
        refine is_if (ti_eq rfl tl_0) ?_ ?_
        ·
          exact is_P rfl
        ·
          refine is_A (fun h1 => ?_)
          refine is_B (V := Int32.toInt) (is_P (ti_add rfl tl_1 h1)) (fun x5 => ?_)
          exact is_P rfl
      refine is_A (fun h2 => ?_)
      refine is_B (V := Int32.toInt) (is_P (ti_add rfl tl_1 h2)) (fun x6 => ?_)
      exact is_P (pinl (ppair rfl rfl))
  exact is_P rfl
noncomputable def iz_Run_copyFrom (this : Nat) (p1 : Nat) : iM Unit :=
  iB (iGt p1 0) fun x1 =>
  iB (iPt this 0 x1) fun _ =>
  iB (α := Unit) (
    iW (S := Int) (α := Unit) (fun s3 =>
      if 8 ≤ s3 then
        iP (Sum.inr ())
      else
        iB (iLd (qm_rf p1 1) s3) fun x4 =>
        iB (iSt (qm_rf this 1) s3 x4) fun _ =>
        iA (s3 + 1) fun y1 =>
        iB (iP y1) fun x5 =>
        iP (Sum.inl x5)) 0) fun s2 =>
  iB (α := Unit) (
    iW (S := Int) (α := Unit) (fun s7 =>
      if (iLen (qm_rf this 2)) ≤ s7 then
        iP (Sum.inr ())
      else
        iB (iLd (qm_rf p1 2) s7) fun x8 =>
        iB (iSt (qm_rf this 2) s7 x8) fun _ =>
        iA (s7 + 1) fun y2 =>
        iB (iP y2) fun x9 =>
        iP (Sum.inl x9)) 0) fun s6 =>
  iP ()
set_option maxRecDepth 20000 in
set_option maxHeartbeats 2000000 in
theorem is_Run_copyFrom {this : Nat} {p1 : Nat} : iS (jf_Run_copyFrom this p1) (iz_Run_copyFrom this p1) id1 := by
  unfold jf_Run_copyFrom iz_Run_copyFrom
  refine is_B (V := Int32.toInt) (is_Gt rfl) (fun x1 => ?_)
  refine is_B (V := id1) (is_Pt rfl rfl) (fun _ => ?_)
  refine is_B (V := id1) ?_ (fun s2 => ?_)
  ·
    refine is_W (V := Int32.toInt) (W := id1) (fun s3 => ?_) tl_0
    refine is_if (ti_le tl_8 rfl) ?_ ?_
    ·
      exact is_P (pinr rfl)
    ·
      refine is_B (V := Int32.toInt) (is_Ld rfl) (fun x4 => ?_)
      refine is_B (V := id1) (is_St rfl rfl) (fun _ => ?_)
      refine is_A (fun h1 => ?_)
      refine is_B (V := Int32.toInt) (is_P (ti_add rfl tl_1 h1)) (fun x5 => ?_)
      exact is_P (pinl rfl)
  refine is_B (V := id1) ?_ (fun s6 => ?_)
  ·
    refine is_W (V := Int32.toInt) (W := id1) (fun s7 => ?_) tl_0
    refine is_if (ti_le (tl_len _) rfl) ?_ ?_
    ·
      exact is_P (pinr rfl)
    ·
      refine is_B (V := Int32.toInt) (is_Ld rfl) (fun x8 => ?_)
      refine is_B (V := id1) (is_St rfl rfl) (fun _ => ?_)
      refine is_A (fun h2 => ?_)
      refine is_B (V := Int32.toInt) (is_P (ti_add rfl tl_1 h2)) (fun x9 => ?_)
      exact is_P (pinl rfl)
  exact is_P rfl
noncomputable def iz_Past_push (this : Nat) (p1 : Nat) : iM Unit :=
  iB (iGt this 1) fun x1 =>
  iB (α := Unit) (
    if x1 < 0 then
      iP ()
    else
      iB (iGt this 1) fun x3 =>
      if (iLen (qm_rf this 0)) ≤ x3 then
        iP ()
      else
        iB (iGt this 1) fun x4 =>
        iB (iLr (qm_rf this 0) x4) fun r5 =>
        iB (iz_Run_copyFrom r5 p1) fun _ =>
        iP ()) fun s2 =>
  iB (iGt this 1) fun x6 =>
  iB (α := Int) (
    iA (x6 + 1) fun y1 =>
    if 10 ≤ y1 then
      iP 0
    else
      iB (iGt this 1) fun x8 =>
      iA (x8 + 1) fun y2 =>
      iP y2) fun s7 =>
  iB (iPt this 1 s7) fun _ =>
  iB (iGt this 2) fun x9 =>
  iA (x9 + 1) fun y3 =>
  iB (iz_Math_min y3 10) fun x10 =>
  iB (iPt this 2 x10) fun _ =>
  iP ()
set_option maxRecDepth 20000 in
set_option maxHeartbeats 2000000 in
theorem is_Past_push {this : Nat} {p1 : Nat} : iS (jf_Past_push this p1) (iz_Past_push this p1) id1 := by
  unfold jf_Past_push iz_Past_push
  refine is_B (V := Int32.toInt) (is_Gt rfl) (fun x1 => ?_)
  refine is_B (V := id1) ?_ (fun s2 => ?_)
  ·
    refine is_if (ti_lt rfl tl_0) ?_ ?_
    ·
      exact is_P rfl
    ·
      refine is_B (V := Int32.toInt) (is_Gt rfl) (fun x3 => ?_)
      refine is_if (ti_le (tl_len _) rfl) ?_ ?_
      ·
        exact is_P rfl
      ·
        refine is_B (V := Int32.toInt) (is_Gt rfl) (fun x4 => ?_)
        refine is_B (V := id1) (is_Lr rfl) (fun r5 => ?_)
        refine is_B (V := id1) (is_Run_copyFrom) (fun _ => ?_)
        exact is_P rfl
  refine is_B (V := Int32.toInt) (is_Gt rfl) (fun x6 => ?_)
  refine is_B (V := Int32.toInt) ?_ (fun s7 => ?_)
  ·
    refine is_A (fun h1 => ?_)
    refine is_if (ti_le tl_10 (ti_add rfl tl_1 h1)) ?_ ?_
    ·
      exact is_P tl_0
    ·
      refine is_B (V := Int32.toInt) (is_Gt rfl) (fun x8 => ?_)
      refine is_A (fun h2 => ?_)
      exact is_P (ti_add rfl tl_1 h2)
  refine is_B (V := id1) (is_Pt rfl rfl) (fun _ => ?_)
  refine is_B (V := Int32.toInt) (is_Gt rfl) (fun x9 => ?_)
  refine is_A (fun h3 => ?_)
  refine is_B (V := Int32.toInt) (is_Math_min (ti_add rfl tl_1 h3) tl_10) (fun x10 => ?_)
  refine is_B (V := id1) (is_Pt rfl rfl) (fun _ => ?_)
  exact is_P rfl
noncomputable def iz_Past_pop (this : Nat) (p1 : Nat) : iM Unit :=
  iB (iGt this 1) fun x1 =>
  iB (α := Int) (
    if x1 ≤ 0 then
      iP 9
    else
      iB (iGt this 1) fun x3 =>
      iA (x3 - 1) fun y1 =>
      iP y1) fun s2 =>
  iB (iPt this 1 s2) fun _ =>
  iB (iGt this 2) fun x4 =>
  iA (x4 - 1) fun y2 =>
  iB (iz_Math_max y2 0) fun x5 =>
  iB (iPt this 2 x5) fun _ =>
  iB (iGt this 1) fun x6 =>
  if (iLen (qm_rf this 0)) ≤ x6 then
    iP ()
  else
    iB (iGt this 1) fun x7 =>
    iB (iLr (qm_rf this 0) x7) fun r8 =>
    iB (iz_Run_copyFrom p1 r8) fun _ =>
    iP ()
set_option maxRecDepth 20000 in
set_option maxHeartbeats 2000000 in
theorem is_Past_pop {this : Nat} {p1 : Nat} : iS (jf_Past_pop this p1) (iz_Past_pop this p1) id1 := by
  unfold jf_Past_pop iz_Past_pop
  refine is_B (V := Int32.toInt) (is_Gt rfl) (fun x1 => ?_)
  refine is_B (V := Int32.toInt) ?_ (fun s2 => ?_)
  ·
    refine is_if (ti_le rfl tl_0) ?_ ?_
    ·
      exact is_P tl_9
    ·
      refine is_B (V := Int32.toInt) (is_Gt rfl) (fun x3 => ?_)
      refine is_A (fun h1 => ?_)
      exact is_P (ti_sub rfl tl_1 h1)
  refine is_B (V := id1) (is_Pt rfl rfl) (fun _ => ?_)
  refine is_B (V := Int32.toInt) (is_Gt rfl) (fun x4 => ?_)
  refine is_A (fun h2 => ?_)
  refine is_B (V := Int32.toInt) (is_Math_max (ti_sub rfl tl_1 h2) tl_0) (fun x5 => ?_)
  refine is_B (V := id1) (is_Pt rfl rfl) (fun _ => ?_)
  refine is_B (V := Int32.toInt) (is_Gt rfl) (fun x6 => ?_)
  refine is_if (ti_le (tl_len _) rfl) ?_ ?_
  ·
    exact is_P rfl
  ·
    refine is_B (V := Int32.toInt) (is_Gt rfl) (fun x7 => ?_)
    refine is_B (V := id1) (is_Lr rfl) (fun r8 => ?_)
    refine is_B (V := id1) (is_Run_copyFrom) (fun _ => ?_)
    exact is_P rfl
noncomputable def iz_Press_lay (this : Nat) : iM Unit :=
  iB (iz_Flow_lay (qm_rf this 1)) fun _ =>
  iB (iz_Fitter_forget (qm_rf this 2)) fun _ =>
  iP ()
set_option maxRecDepth 20000 in
set_option maxHeartbeats 2000000 in
theorem is_Press_lay {this : Nat} : iS (jf_Press_lay this) (iz_Press_lay this) id1 := by
  unfold jf_Press_lay iz_Press_lay
  refine is_B (V := id1) (is_Flow_lay) (fun _ => ?_)
  refine is_B (V := id1) (is_Fitter_forget) (fun _ => ?_)
  exact is_P rfl
noncomputable def iz_Press_pageIsFree (this : Nat) : iM Int :=
  iB (iGt this 6) fun x1 =>
  iB (iz_Run_setting (qm_rf this 0) 1) fun x2 =>
  if ¬ x1 = x2 then
    iP 0
  else
    iP 1
set_option maxRecDepth 20000 in
set_option maxHeartbeats 2000000 in
theorem is_Press_pageIsFree {this : Nat} : iS (jf_Press_pageIsFree this) (iz_Press_pageIsFree this) Int32.toInt := by
  unfold jf_Press_pageIsFree iz_Press_pageIsFree
  refine is_B (V := Int32.toInt) (is_Gt rfl) (fun x1 => ?_)
  refine is_B (V := Int32.toInt) (is_Run_setting tl_1) (fun x2 => ?_)
  refine is_if (ti_not (ti_eq rfl rfl)) ?_ ?_
  ·
    exact is_P tl_0
  ·
    exact is_P tl_1
noncomputable def iz_Press_turnPage (this : Nat) : iM Unit :=
  iB (iGt this 5) fun x1 =>
  if x1 < 39 then
    iB (iGt this 5) fun x2 =>
    iA (x2 + 1) fun y1 =>
    iB (iPt this 5 y1) fun _ =>
    iB (iz_Run_setting (qm_rf this 0) 1) fun x3 =>
    iB (iPt this 6 x3) fun _ =>
    iP ()
  else
    iB (iGt this 7) fun x4 =>
    iB (iPt this 9 x4) fun _ =>
    iP ()
set_option maxRecDepth 20000 in
set_option maxHeartbeats 2000000 in
theorem is_Press_turnPage {this : Nat} : iS (jf_Press_turnPage this) (iz_Press_turnPage this) id1 := by
  unfold jf_Press_turnPage iz_Press_turnPage
  refine is_B (V := Int32.toInt) (is_Gt rfl) (fun x1 => ?_)
  refine is_if (ti_lt rfl tl_39) ?_ ?_
  ·
    refine is_B (V := Int32.toInt) (is_Gt rfl) (fun x2 => ?_)
    refine is_A (fun h1 => ?_)
    refine is_B (V := id1) (is_Pt rfl (ti_add rfl tl_1 h1)) (fun _ => ?_)
    refine is_B (V := Int32.toInt) (is_Run_setting tl_1) (fun x3 => ?_)
    refine is_B (V := id1) (is_Pt rfl rfl) (fun _ => ?_)
    exact is_P rfl
  ·
    refine is_B (V := Int32.toInt) (is_Gt rfl) (fun x4 => ?_)
    refine is_B (V := id1) (is_Pt rfl rfl) (fun _ => ?_)
    exact is_P rfl
noncomputable def iz_Press_putSpan (this : Nat) (p1 : Int) : iM Unit :=
  iB (iz_Top_at (qm_rf (qm_rf this 1) 18) p1) fun x1 =>
  iB (iz_Run_setting (qm_rf this 0) 7) fun x2 =>
  iB (iGt this 6) fun x3 =>
  iB (α := Unit) (
    iA (x1 + x2) fun y1 =>
    if y1 ≤ x3 then
      iP ()
    else
      iB (iz_Press_pageIsFree this) fun x5 =>
      if ¬ x5 = 0 then
        iP ()
      else
        iB (iz_Press_turnPage this) fun _ =>
        iP ()) fun s4 =>
  iA (p1 - 1) fun y2 =>
  iB (iP y2) fun x6 =>
  iB (iGt this 9) fun x7 =>
  if ¬ x7 = (-1) then
    iP ()
  else
    if x6 < 0 then
      iP ()
    else
      if 16 ≤ x6 then
        iP ()
      else
        iB (iGt this 5) fun x8 =>
        iB (iSt (qm_rf this 11) x6 x8) fun _ =>
        iB (iz_Run_setting (qm_rf this 0) 1) fun x9 =>
        iB (iGt this 6) fun x10 =>
        iA (x9 - x10) fun y3 =>
        iB (iSt (qm_rf this 12) x6 y3) fun _ =>
        iB (iPt this 10 p1) fun _ =>
        iB (iGt this 6) fun x11 =>
        iA (x11 - x1) fun y4 =>
        iB (iz_Math_max 0 y4) fun x12 =>
        iB (iPt this 6 x12) fun _ =>
        iP ()
set_option maxRecDepth 20000 in
set_option maxHeartbeats 2000000 in
theorem is_Press_putSpan {this : Nat} {p1 : Int32} {p1' : Int} (qp1 : p1.toInt = p1') : iS (jf_Press_putSpan this p1) (iz_Press_putSpan this p1') id1 := by
  subst qp1
  unfold jf_Press_putSpan iz_Press_putSpan
  refine is_B (V := Int32.toInt) (is_Top_at rfl) (fun x1 => ?_)
  refine is_B (V := Int32.toInt) (is_Run_setting tl_7) (fun x2 => ?_)
  refine is_B (V := Int32.toInt) (is_Gt rfl) (fun x3 => ?_)
  refine is_B (V := id1) ?_ (fun s4 => ?_)
  ·
    refine is_A (fun h1 => ?_)
    refine is_if (ti_le (ti_add rfl rfl h1) rfl) ?_ ?_
    ·
      exact is_P rfl
    ·
      refine is_B (V := Int32.toInt) (is_Press_pageIsFree) (fun x5 => ?_)
      refine is_if (ti_not (ti_eq rfl tl_0)) ?_ ?_
      ·
        exact is_P rfl
      ·
        refine is_B (V := id1) (is_Press_turnPage) (fun _ => ?_)
        exact is_P rfl
  refine is_A (fun h2 => ?_)
  refine is_B (V := Int32.toInt) (is_P (ti_sub rfl tl_1 h2)) (fun x6 => ?_)
  refine is_B (V := Int32.toInt) (is_Gt rfl) (fun x7 => ?_)
  refine is_if (ti_not (ti_eq rfl tl_m1)) ?_ ?_
  ·
    exact is_P rfl
  ·
    refine is_if (ti_lt rfl tl_0) ?_ ?_
    ·
      exact is_P rfl
    ·
      refine is_if (ti_le tl_16 rfl) ?_ ?_
      ·
        exact is_P rfl
      ·
        refine is_B (V := Int32.toInt) (is_Gt rfl) (fun x8 => ?_)
        refine is_B (V := id1) (is_St rfl rfl) (fun _ => ?_)
        refine is_B (V := Int32.toInt) (is_Run_setting tl_1) (fun x9 => ?_)
        refine is_B (V := Int32.toInt) (is_Gt rfl) (fun x10 => ?_)
        refine is_A (fun h3 => ?_)
        refine is_B (V := id1) (is_St rfl (ti_sub rfl rfl h3)) (fun _ => ?_)
        refine is_B (V := id1) (is_Pt rfl rfl) (fun _ => ?_)
        refine is_B (V := Int32.toInt) (is_Gt rfl) (fun x11 => ?_)
        refine is_A (fun h4 => ?_)
        refine is_B (V := Int32.toInt) (is_Math_max tl_0 (ti_sub rfl rfl h4)) (fun x12 => ?_)
        refine is_B (V := id1) (is_Pt rfl rfl) (fun _ => ?_)
        exact is_P rfl
noncomputable def iz_Press_putColumn (this : Nat) (p1 : Int) (p2 : Int) (p3 : Int) (p4 : Int) (p5 : Int) : iM Int :=
  iB (iGt this 7) fun x1 =>
  iB (iz_Flow_ownLines (qm_rf this 1) x1 p3) fun x2 =>
  iB (iGt this 7) fun x3 =>
  iB (iGt this 8) fun x4 =>
  iB (iz_Fitter_leftOver (qm_rf this 2) x3 p3 x4 p4) fun x5 =>
  iB (iz_Math_max 0 x5) fun x6 =>
  iB (iGt this 8) fun x7 =>
  iA (x2 + x7) fun y1 =>
  iA (y1 - x6) fun y2 =>
  iB (iP y2) fun x8 =>
  iB (iGt this 7) fun x9 =>
  iB (α := Int) (
    iB (α := (Unit ⊕ Int)) (
      if x9 < p3 then
        iP (Sum.inl ())
      else
        if x8 ≤ 0 then
          iP (Sum.inr 0)
        else
          iP (Sum.inl ())) (Sum.elim (fun s11 =>
      iP 1) iP)) fun s10 =>
  iB (iGt this 4) fun x12 =>
  iB (α := Unit) (
    if x12 < 0 then
      iP ()
    else
      iB (iGt this 4) fun x14 =>
      if (iLen (qm_rf this 3)) ≤ x14 then
        iP ()
      else
        iB (iGt this 4) fun x15 =>
        iB (iLr (qm_rf this 3) x15) fun r16 =>
        iB (iGt this 5) fun x17 =>
        iB (iSt r16 0 x17) fun _ =>
        iB (iSt r16 1 p2) fun _ =>
        iB (iSt r16 2 p1) fun _ =>
        iB (iGt this 7) fun x18 =>
        iB (iSt r16 3 x18) fun _ =>
        iB (iSt r16 4 p3) fun _ =>
        iB (iGt this 7) fun x19 =>
        iB (iz_Flow_text (qm_rf this 1) x19 p3) fun x20 =>
        iB (iSt r16 5 x20) fun _ =>
        iB (iGt this 8) fun x21 =>
        iB (iSt r16 6 x21) fun _ =>
        iB (iSt r16 7 x2) fun _ =>
        iB (iSt r16 8 x8) fun _ =>
        iB (iz_Run_setting (qm_rf this 0) 1) fun x22 =>
        iB (iGt this 6) fun x23 =>
        iA (x22 - x23) fun y3 =>
        iB (iSt r16 9 y3) fun _ =>
        iB (iSt r16 10 p4) fun _ =>
        iB (α := Int) (
          if p5 = 0 then
            iP 0
          else
            iP 1) fun s24 =>
        iB (iSt r16 11 s24) fun _ =>
        iP ()) fun s13 =>
  iB (iGt this 4) fun x25 =>
  iA (x25 + 1) fun y4 =>
  iB (iPt this 4 y4) fun _ =>
  iB (iPt this 7 p3) fun _ =>
  iB (iPt this 8 x6) fun _ =>
  iB (iZ s10) fun x26 =>
  iP x26
set_option maxRecDepth 20000 in
set_option maxHeartbeats 2000000 in
theorem is_Press_putColumn {this : Nat} {p1 : Int32} {p1' : Int} {p2 : Int32} {p2' : Int} {p3 : Int32} {p3' : Int} {p4 : Int32} {p4' : Int} {p5 : Int32} {p5' : Int} (qp1 : p1.toInt = p1') (qp2 : p2.toInt = p2') (qp3 : p3.toInt = p3') (qp4 : p4.toInt = p4') (qp5 : p5.toInt = p5') : iS (jf_Press_putColumn this p1 p2 p3 p4 p5) (iz_Press_putColumn this p1' p2' p3' p4' p5') Int32.toInt := by
  subst qp1 qp2 qp3 qp4 qp5
  unfold jf_Press_putColumn iz_Press_putColumn
  refine is_B (V := Int32.toInt) (is_Gt rfl) (fun x1 => ?_)
  refine is_B (V := Int32.toInt) (is_Flow_ownLines rfl rfl) (fun x2 => ?_)
  refine is_B (V := Int32.toInt) (is_Gt rfl) (fun x3 => ?_)
  refine is_B (V := Int32.toInt) (is_Gt rfl) (fun x4 => ?_)
  refine is_B (V := Int32.toInt) (is_Fitter_leftOver rfl rfl rfl rfl) (fun x5 => ?_)
  refine is_B (V := Int32.toInt) (is_Math_max tl_0 rfl) (fun x6 => ?_)
  refine is_B (V := Int32.toInt) (is_Gt rfl) (fun x7 => ?_)
  refine is_A (fun h1 => ?_)
  refine is_A (fun h2 => ?_)
  refine is_B (V := Int32.toInt) (is_P (ti_sub (ti_add rfl rfl h1) rfl h2)) (fun x8 => ?_)
  refine is_B (V := Int32.toInt) (is_Gt rfl) (fun x9 => ?_)
  refine is_B (V := Int32.toInt) ?_ (fun s10 => ?_)
  ·
    refine is_E (V := id1) ?_ (fun s11 => ?_)
    ·
      refine is_if (ti_lt rfl rfl) ?_ ?_
      ·
        exact is_P (pinl rfl)
      ·
        refine is_if (ti_le rfl tl_0) ?_ ?_
        ·
          exact is_P (pinr tl_0)
        ·
          exact is_P (pinl rfl)
    ·
      exact is_P tl_1
  refine is_B (V := Int32.toInt) (is_Gt rfl) (fun x12 => ?_)
  refine is_B (V := id1) ?_ (fun s13 => ?_)
  ·
    refine is_if (ti_lt rfl tl_0) ?_ ?_
    ·
      exact is_P rfl
    ·
      refine is_B (V := Int32.toInt) (is_Gt rfl) (fun x14 => ?_)
      refine is_if (ti_le (tl_len _) rfl) ?_ ?_
      ·
        exact is_P rfl
      ·
        refine is_B (V := Int32.toInt) (is_Gt rfl) (fun x15 => ?_)
        refine is_B (V := id1) (is_Lr rfl) (fun r16 => ?_)
        refine is_B (V := Int32.toInt) (is_Gt rfl) (fun x17 => ?_)
        refine is_B (V := id1) (is_St tl_0 rfl) (fun _ => ?_)
        refine is_B (V := id1) (is_St tl_1 rfl) (fun _ => ?_)
        refine is_B (V := id1) (is_St tl_2 rfl) (fun _ => ?_)
        refine is_B (V := Int32.toInt) (is_Gt rfl) (fun x18 => ?_)
        refine is_B (V := id1) (is_St tl_3 rfl) (fun _ => ?_)
        refine is_B (V := id1) (is_St tl_4 rfl) (fun _ => ?_)
        refine is_B (V := Int32.toInt) (is_Gt rfl) (fun x19 => ?_)
        refine is_B (V := Int32.toInt) (is_Flow_text rfl rfl) (fun x20 => ?_)
        refine is_B (V := id1) (is_St tl_5 rfl) (fun _ => ?_)
        refine is_B (V := Int32.toInt) (is_Gt rfl) (fun x21 => ?_)
        refine is_B (V := id1) (is_St tl_6 rfl) (fun _ => ?_)
        refine is_B (V := id1) (is_St tl_7 rfl) (fun _ => ?_)
        refine is_B (V := id1) (is_St tl_8 rfl) (fun _ => ?_)
        refine is_B (V := Int32.toInt) (is_Run_setting tl_1) (fun x22 => ?_)
        refine is_B (V := Int32.toInt) (is_Gt rfl) (fun x23 => ?_)
        refine is_A (fun h3 => ?_)
        refine is_B (V := id1) (is_St tl_9 (ti_sub rfl rfl h3)) (fun _ => ?_)
        refine is_B (V := id1) (is_St tl_10 rfl) (fun _ => ?_)
        refine is_B (V := Int32.toInt) ?_ (fun s24 => ?_)
        ·
          refine is_if (ti_eq rfl tl_0) ?_ ?_
          ·
            exact is_P tl_0
          ·
            exact is_P tl_1
        refine is_B (V := id1) (is_St tl_11 rfl) (fun _ => ?_)
        exact is_P rfl
  refine is_B (V := Int32.toInt) (is_Gt rfl) (fun x25 => ?_)
  refine is_A (fun h4 => ?_)
  refine is_B (V := id1) (is_Pt rfl (ti_add rfl tl_1 h4)) (fun _ => ?_)
  refine is_B (V := id1) (is_Pt rfl rfl) (fun _ => ?_)
  refine is_B (V := id1) (is_Pt rfl rfl) (fun _ => ?_)
  refine is_B (V := Int32.toInt) (is_Z rfl) (fun x26 => ?_)
  exact is_P rfl
noncomputable def iz_Press_level (this : Nat) (p1 : Int) (p2 : Int) : iM Unit :=
  iB (iz_Run_setting (qm_rf this 0) 0) fun x1 =>
  iB (iz_Fitter_measure (qm_rf this 2) p1 x1 p2) fun _ =>
  iB (α := Unit) (
    iW (S := Int) (α := Unit) (fun s3 =>
      if x1 ≤ s3 then
        iP (Sum.inr ())
      else
        iB (iGt this 7) fun x4 =>
        iB (iGt this 8) fun x5 =>
        iA (x1 - 1) fun y1 =>
        iA (y1 - s3) fun y2 =>
        iB (iz_Fitter_latest (qm_rf this 2) p1 x4 x5 p2 y2) fun x6 =>
        iB (α := Unit) (
          if x6 = (-1) then
            iP ()
          else
            iB (iz_Press_putColumn this p1 s3 x6 p2 1) fun x8 =>
            iP ()) fun s7 =>
        iA (s3 + 1) fun y3 =>
        iB (iP y3) fun x9 =>
        iP (Sum.inl x9)) 0) fun s2 =>
  iP ()
set_option maxRecDepth 20000 in
set_option maxHeartbeats 2000000 in
theorem is_Press_level {this : Nat} {p1 : Int32} {p1' : Int} {p2 : Int32} {p2' : Int} (qp1 : p1.toInt = p1') (qp2 : p2.toInt = p2') : iS (jf_Press_level this p1 p2) (iz_Press_level this p1' p2') id1 := by
  subst qp1 qp2
  unfold jf_Press_level iz_Press_level
  refine is_B (V := Int32.toInt) (is_Run_setting tl_0) (fun x1 => ?_)
  refine is_B (V := id1) (is_Fitter_measure rfl rfl rfl) (fun _ => ?_)
  refine is_B (V := id1) ?_ (fun s2 => ?_)
  ·
    refine is_W (V := Int32.toInt) (W := id1) (fun s3 => ?_) tl_0
    refine is_if (ti_le rfl rfl) ?_ ?_
    ·
      exact is_P (pinr rfl)
    ·
      refine is_B (V := Int32.toInt) (is_Gt rfl) (fun x4 => ?_)
      refine is_B (V := Int32.toInt) (is_Gt rfl) (fun x5 => ?_)
      refine is_A (fun h1 => ?_)
      refine is_A (fun h2 => ?_)
      refine is_B (V := Int32.toInt) (is_Fitter_latest rfl rfl rfl rfl (ti_sub (ti_sub rfl tl_1 h1) rfl h2)) (fun x6 => ?_)
      refine is_B (V := id1) ?_ (fun s7 => ?_)
      ·
        refine is_if (ti_eq rfl tl_m1) ?_ ?_
        ·
          exact is_P rfl
        ·
          refine is_B (V := Int32.toInt) (is_Press_putColumn rfl rfl rfl rfl tl_1) (fun x8 => ?_)
          exact is_P rfl
      refine is_A (fun h3 => ?_)
      refine is_B (V := Int32.toInt) (is_P (ti_add rfl tl_1 h3)) (fun x9 => ?_)
      exact is_P (pinl rfl)
  exact is_P rfl
noncomputable def iz_Press_fill (this : Nat) (p1 : Int) : iM Int :=
  iB (iGt this 4) fun x1 =>
  iB (iGt this 7) fun x2 =>
  iB (iGt this 8) fun x3 =>
  iB (iz_Run_setting (qm_rf this 0) 0) fun x4 =>
  iB (α := Int) (
    iB (α := (Unit ⊕ Int)) (
      iW (S := (Int × Int)) (α := (Unit ⊕ Int)) (fun s7 =>
        if x4 ≤ s7.2 then
          iP (Sum.inr (Sum.inr s7.1))
        else
          iB (iGt this 7) fun x8 =>
          iB (iGt this 8) fun x9 =>
          iB (iGt this 6) fun x10 =>
          iB (iz_Fitter_latest (qm_rf this 2) p1 x8 x9 x10 (-1)) fun x11 =>
          if ¬ x11 = (-1) then
            iB (iGt this 6) fun x12 =>
            iB (iz_Press_putColumn this p1 s7.2 x11 x12 0) fun x13 =>
            iB (α := Int) (
              iB (α := (Unit ⊕ Int)) (
                if ¬ x13 = 0 then
                  iP (Sum.inl ())
                else
                  if s7.1 = 0 then
                    iP (Sum.inr 0)
                  else
                    iP (Sum.inl ())) (Sum.elim (fun s15 =>
                iP 1) iP)) fun s14 =>
            iA (s7.2 + 1) fun y1 =>
            iB (iP y1) fun x16 =>
            iP (Sum.inl (s14, x16))
          else
            iP (Sum.inr (Sum.inl ()))) (0, 0)) (Sum.elim (fun s6 =>
      iP 0) iP)) fun s5 =>
  if ¬ s5 = 0 then
    iB (iZ s5) fun x17 =>
    iP x17
  else
    iB (iPt this 4 x1) fun _ =>
    iB (iPt this 7 x2) fun _ =>
    iB (iPt this 8 x3) fun _ =>
    iB (iZ s5) fun x18 =>
    iP x18
set_option maxRecDepth 20000 in
set_option maxHeartbeats 2000000 in
theorem is_Press_fill {this : Nat} {p1 : Int32} {p1' : Int} (qp1 : p1.toInt = p1') : iS (jf_Press_fill this p1) (iz_Press_fill this p1') Int32.toInt := by
  subst qp1
  unfold jf_Press_fill iz_Press_fill
  refine is_B (V := Int32.toInt) (is_Gt rfl) (fun x1 => ?_)
  refine is_B (V := Int32.toInt) (is_Gt rfl) (fun x2 => ?_)
  refine is_B (V := Int32.toInt) (is_Gt rfl) (fun x3 => ?_)
  refine is_B (V := Int32.toInt) (is_Run_setting tl_0) (fun x4 => ?_)
  refine is_B (V := Int32.toInt) ?_ (fun s5 => ?_)
  ·
    refine is_E (V := id1) ?_ (fun s6 => ?_)
    ·
      refine is_W (V := (ip2 Int32.toInt Int32.toInt)) (W := (is2 id1 Int32.toInt)) (fun s7 => ?_) (ppair tl_0 tl_0)
      refine is_if (ti_le rfl rfl) ?_ ?_
      ·
        exact is_P (pinr (pinr rfl))
      ·
        refine is_B (V := Int32.toInt) (is_Gt rfl) (fun x8 => ?_)
        refine is_B (V := Int32.toInt) (is_Gt rfl) (fun x9 => ?_)
        refine is_B (V := Int32.toInt) (is_Gt rfl) (fun x10 => ?_)
        refine is_B (V := Int32.toInt) (is_Fitter_latest rfl rfl rfl rfl tl_m1) (fun x11 => ?_)
        refine is_if (ti_not (ti_eq rfl tl_m1)) ?_ ?_
        ·
          refine is_B (V := Int32.toInt) (is_Gt rfl) (fun x12 => ?_)
          refine is_B (V := Int32.toInt) (is_Press_putColumn rfl rfl rfl rfl tl_0) (fun x13 => ?_)
          refine is_B (V := Int32.toInt) ?_ (fun s14 => ?_)
          ·
            refine is_E (V := id1) ?_ (fun s15 => ?_)
            ·
              refine is_if (ti_not (ti_eq rfl tl_0)) ?_ ?_
              ·
                exact is_P (pinl rfl)
              ·
                refine is_if (ti_eq rfl tl_0) ?_ ?_
                ·
                  exact is_P (pinr tl_0)
                ·
                  exact is_P (pinl rfl)
            ·
              exact is_P tl_1
          refine is_A (fun h1 => ?_)
          refine is_B (V := Int32.toInt) (is_P (ti_add rfl tl_1 h1)) (fun x16 => ?_)
          exact is_P (pinl (ppair rfl rfl))
        ·
          exact is_P (pinr (pinl rfl))
    ·
      exact is_P tl_0
  refine is_if (ti_not (ti_eq rfl tl_0)) ?_ ?_
  ·
    refine is_B (V := Int32.toInt) (is_Z rfl) (fun x17 => ?_)
    exact is_P rfl
  ·
    refine is_B (V := id1) (is_Pt rfl rfl) (fun _ => ?_)
    refine is_B (V := id1) (is_Pt rfl rfl) (fun _ => ?_)
    refine is_B (V := id1) (is_Pt rfl rfl) (fun _ => ?_)
    refine is_B (V := Int32.toInt) (is_Z rfl) (fun x18 => ?_)
    exact is_P rfl
noncomputable def iz_Press_pourSection (this : Nat) (p1 : Int) : iM Unit :=
  iB (α := Unit) (
    iW (S := (Int × Int)) (α := Unit) (fun s2 =>
      if 40 < s2.2 then
        iP (Sum.inr ())
      else
        if ¬ s2.1 = 0 then
          iP (Sum.inr ())
        else
          iB (iGt this 9) fun x3 =>
          if ¬ x3 = (-1) then
            iP (Sum.inr ())
          else
            iB (iGt this 7) fun x4 =>
            iB (iGt this 8) fun x5 =>
            iB (iGt this 6) fun x6 =>
            iB (iz_Fitter_leastFrom (qm_rf this 2) p1 x4 x5 x6) fun x7 =>
            iB (α := Int) (
              if x7 = (-2) then
                iB (iz_Press_fill this p1) fun x9 =>
                iB (α := (Unit ⊕ Int)) (
                  if ¬ x9 = 0 then
                    iP (Sum.inl ())
                  else
                    iB (iz_Press_pageIsFree this) fun x11 =>
                    if x11 = 0 then
                      iP (Sum.inl ())
                    else
                      iB (iGt this 7) fun x12 =>
                      iB (iPt this 9 x12) fun _ =>
                      iP (Sum.inr s2.1)) (Sum.elim (fun s10 =>
                  iB (iz_Press_turnPage this) fun _ =>
                  iP s2.1) iP)
              else
                iB (iz_Press_level this p1 x7) fun _ =>
                iB (iGt this 6) fun x13 =>
                iA (x13 - x7) fun y1 =>
                iB (iPt this 6 y1) fun _ =>
                iP 1) fun s8 =>
            iA (s2.2 + 1) fun y2 =>
            iB (iP y2) fun x14 =>
            iP (Sum.inl (s8, x14))) (0, 0)) fun s1 =>
  iP ()
set_option maxRecDepth 20000 in
set_option maxHeartbeats 2000000 in
theorem is_Press_pourSection {this : Nat} {p1 : Int32} {p1' : Int} (qp1 : p1.toInt = p1') : iS (jf_Press_pourSection this p1) (iz_Press_pourSection this p1') id1 := by
  subst qp1
  unfold jf_Press_pourSection iz_Press_pourSection
  refine is_B (V := id1) ?_ (fun s1 => ?_)
  ·
    refine is_W (V := (ip2 Int32.toInt Int32.toInt)) (W := id1) (fun s2 => ?_) (ppair tl_0 tl_0)
    refine is_if (ti_lt tl_40 rfl) ?_ ?_
    ·
      exact is_P (pinr rfl)
    ·
      refine is_if (ti_not (ti_eq rfl tl_0)) ?_ ?_
      ·
        exact is_P (pinr rfl)
      ·
        refine is_B (V := Int32.toInt) (is_Gt rfl) (fun x3 => ?_)
        refine is_if (ti_not (ti_eq rfl tl_m1)) ?_ ?_
        ·
          exact is_P (pinr rfl)
        ·
          refine is_B (V := Int32.toInt) (is_Gt rfl) (fun x4 => ?_)
          refine is_B (V := Int32.toInt) (is_Gt rfl) (fun x5 => ?_)
          refine is_B (V := Int32.toInt) (is_Gt rfl) (fun x6 => ?_)
          refine is_B (V := Int32.toInt) (is_Fitter_leastFrom rfl rfl rfl rfl) (fun x7 => ?_)
          refine is_B (V := Int32.toInt) ?_ (fun s8 => ?_)
          ·
            refine is_if (ti_eq rfl tl_m2) ?_ ?_
            ·
              refine is_B (V := Int32.toInt) (is_Press_fill rfl) (fun x9 => ?_)
              refine is_E (V := id1) ?_ (fun s10 => ?_)
              ·
                refine is_if (ti_not (ti_eq rfl tl_0)) ?_ ?_
                ·
                  exact is_P (pinl rfl)
                ·
                  refine is_B (V := Int32.toInt) (is_Press_pageIsFree) (fun x11 => ?_)
                  refine is_if (ti_eq rfl tl_0) ?_ ?_
                  ·
                    exact is_P (pinl rfl)
                  ·
                    refine is_B (V := Int32.toInt) (is_Gt rfl) (fun x12 => ?_)
                    refine is_B (V := id1) (is_Pt rfl rfl) (fun _ => ?_)
                    exact is_P (pinr rfl)
              ·
                refine is_B (V := id1) (is_Press_turnPage) (fun _ => ?_)
                exact is_P rfl
            ·
              refine is_B (V := id1) (is_Press_level rfl rfl) (fun _ => ?_)
              refine is_B (V := Int32.toInt) (is_Gt rfl) (fun x13 => ?_)
              refine is_A (fun h1 => ?_)
              refine is_B (V := id1) (is_Pt rfl (ti_sub rfl rfl h1)) (fun _ => ?_)
              exact is_P tl_1
          refine is_A (fun h2 => ?_)
          refine is_B (V := Int32.toInt) (is_P (ti_add rfl tl_1 h2)) (fun x14 => ?_)
          exact is_P (pinl (ppair rfl rfl))
  exact is_P rfl
noncomputable def iz_Press_answer (this : Nat) : iM Int :=
  iB (iGt this 9) fun x1 =>
  if x1 = (-1) then
    iB (iGt (qm_rf this 1) 1) fun x2 =>
    if ¬ x2 = 0 then
      iB (iGt this 5) fun x3 =>
      iA (x3 + 1) fun y1 =>
      iP y1
    else
      iP 0
  else
    iB (iGt this 9) fun x4 =>
    iA ((-2) - x4) fun y2 =>
    iP y2
set_option maxRecDepth 20000 in
set_option maxHeartbeats 2000000 in
theorem is_Press_answer {this : Nat} : iS (jf_Press_answer this) (iz_Press_answer this) Int32.toInt := by
  unfold jf_Press_answer iz_Press_answer
  refine is_B (V := Int32.toInt) (is_Gt rfl) (fun x1 => ?_)
  refine is_if (ti_eq rfl tl_m1) ?_ ?_
  ·
    refine is_B (V := Int32.toInt) (is_Gt rfl) (fun x2 => ?_)
    refine is_if (ti_not (ti_eq rfl tl_0)) ?_ ?_
    ·
      refine is_B (V := Int32.toInt) (is_Gt rfl) (fun x3 => ?_)
      refine is_A (fun h1 => ?_)
      exact is_P (ti_add rfl tl_1 h1)
    ·
      exact is_P tl_0
  ·
    refine is_B (V := Int32.toInt) (is_Gt rfl) (fun x4 => ?_)
    refine is_A (fun h2 => ?_)
    exact is_P (ti_sub tl_m2 rfl h2)
noncomputable def iz_Press_pourAll (this : Nat) : iM Int :=
  iB (iPt this 4 0) fun _ =>
  iB (iPt this 5 0) fun _ =>
  iB (iz_Run_setting (qm_rf this 0) 1) fun x1 =>
  iB (iPt this 6 x1) fun _ =>
  iB (iPt this 9 (-1)) fun _ =>
  iB (iPt this 10 0) fun _ =>
  iB (α := Unit) (
    iW (S := Int) (α := Unit) (fun s3 =>
      iB (iGt (qm_rf this 1) 1) fun x4 =>
      if x4 ≤ s3 then
        iP (Sum.inr ())
      else
        iB (iGt this 9) fun x5 =>
        if ¬ x5 = (-1) then
          iP (Sum.inr ())
        else
          iB (iz_Top_at (qm_rf (qm_rf this 1) 16) s3) fun x6 =>
          iB (iPt this 7 x6) fun _ =>
          iB (iPt this 8 0) fun _ =>
          iB (α := Unit) (
            if s3 ≤ 0 then
              iP ()
            else
              iB (iz_Press_putSpan this s3) fun _ =>
              iP ()) fun s7 =>
          iB (iGt this 9) fun x8 =>
          iB (α := Unit) (
            if ¬ x8 = (-1) then
              iP ()
            else
              iB (iGt this 7) fun x10 =>
              iB (iz_Top_at (qm_rf (qm_rf this 1) 17) s3) fun x11 =>
              if x11 ≤ x10 then
                iP ()
              else
                iB (iz_Press_pourSection this s3) fun _ =>
                iP ()) fun s9 =>
          iA (s3 + 1) fun y1 =>
          iB (iP y1) fun x12 =>
          iP (Sum.inl x12)) 0) fun s2 =>
  iB (iz_Press_answer this) fun x13 =>
  iP x13
set_option maxRecDepth 20000 in
set_option maxHeartbeats 2000000 in
theorem is_Press_pourAll {this : Nat} : iS (jf_Press_pourAll this) (iz_Press_pourAll this) Int32.toInt := by
  unfold jf_Press_pourAll iz_Press_pourAll
  refine is_B (V := id1) (is_Pt rfl tl_0) (fun _ => ?_)
  refine is_B (V := id1) (is_Pt rfl tl_0) (fun _ => ?_)
  refine is_B (V := Int32.toInt) (is_Run_setting tl_1) (fun x1 => ?_)
  refine is_B (V := id1) (is_Pt rfl rfl) (fun _ => ?_)
  refine is_B (V := id1) (is_Pt rfl tl_m1) (fun _ => ?_)
  refine is_B (V := id1) (is_Pt rfl tl_0) (fun _ => ?_)
  refine is_B (V := id1) ?_ (fun s2 => ?_)
  ·
    refine is_W (V := Int32.toInt) (W := id1) (fun s3 => ?_) tl_0
    refine is_B (V := Int32.toInt) (is_Gt rfl) (fun x4 => ?_)
    refine is_if (ti_le rfl rfl) ?_ ?_
    ·
      exact is_P (pinr rfl)
    ·
      refine is_B (V := Int32.toInt) (is_Gt rfl) (fun x5 => ?_)
      refine is_if (ti_not (ti_eq rfl tl_m1)) ?_ ?_
      ·
        exact is_P (pinr rfl)
      ·
        refine is_B (V := Int32.toInt) (is_Top_at rfl) (fun x6 => ?_)
        refine is_B (V := id1) (is_Pt rfl rfl) (fun _ => ?_)
        refine is_B (V := id1) (is_Pt rfl tl_0) (fun _ => ?_)
        refine is_B (V := id1) ?_ (fun s7 => ?_)
        ·
          refine is_if (ti_le rfl tl_0) ?_ ?_
          ·
            exact is_P rfl
          ·
            refine is_B (V := id1) (is_Press_putSpan rfl) (fun _ => ?_)
            exact is_P rfl
        refine is_B (V := Int32.toInt) (is_Gt rfl) (fun x8 => ?_)
        refine is_B (V := id1) ?_ (fun s9 => ?_)
        ·
          refine is_if (ti_not (ti_eq rfl tl_m1)) ?_ ?_
          ·
            exact is_P rfl
          ·
            refine is_B (V := Int32.toInt) (is_Gt rfl) (fun x10 => ?_)
            refine is_B (V := Int32.toInt) (is_Top_at rfl) (fun x11 => ?_)
            refine is_if (ti_le rfl rfl) ?_ ?_
            ·
              exact is_P rfl
            ·
              refine is_B (V := id1) (is_Press_pourSection rfl) (fun _ => ?_)
              exact is_P rfl
        refine is_A (fun h1 => ?_)
        refine is_B (V := Int32.toInt) (is_P (ti_add rfl tl_1 h1)) (fun x12 => ?_)
        exact is_P (pinl rfl)
  refine is_B (V := Int32.toInt) (is_Press_answer) (fun x13 => ?_)
  exact is_P rfl
noncomputable def iz_Press_cell (this : Nat) (p1 : Int) (p2 : Int) : iM Int :=
  if p1 < 0 then
    iP 0
  else
    if (iLen (qm_rf this 3)) ≤ p1 then
      iP 0
    else
      iB (iGt this 4) fun x1 =>
      if x1 ≤ p1 then
        iP 0
      else
        iB (iLr (qm_rf this 3) p1) fun r2 =>
        iB (iz_Top_at r2 p2) fun x3 =>
        iP x3
set_option maxRecDepth 20000 in
set_option maxHeartbeats 2000000 in
theorem is_Press_cell {this : Nat} {p1 : Int32} {p1' : Int} {p2 : Int32} {p2' : Int} (qp1 : p1.toInt = p1') (qp2 : p2.toInt = p2') : iS (jf_Press_cell this p1 p2) (iz_Press_cell this p1' p2') Int32.toInt := by
  subst qp1 qp2
  unfold jf_Press_cell iz_Press_cell
  refine is_if (ti_lt rfl tl_0) ?_ ?_
  ·
    exact is_P tl_0
  ·
    refine is_if (ti_le (tl_len _) rfl) ?_ ?_
    ·
      exact is_P tl_0
    ·
      refine is_B (V := Int32.toInt) (is_Gt rfl) (fun x1 => ?_)
      refine is_if (ti_le rfl rfl) ?_ ?_
      ·
        exact is_P tl_0
      ·
        refine is_B (V := id1) (is_Lr rfl) (fun r2 => ?_)
        refine is_B (V := Int32.toInt) (is_Top_at rfl) (fun x3 => ?_)
        exact is_P rfl
noncomputable def iz_Press_used (this : Nat) (p1 : Int) : iM Int :=
  iB (iz_Press_cell this p1 7) fun x1 =>
  iB (iz_Press_cell this p1 6) fun x2 =>
  iB (α := Int) (
    iA (x1 + x2) fun y1 =>
    if y1 ≤ 0 then
      iP 0
    else
      iP 1) fun s3 =>
  iB (α := Int) (
    if s3 = 0 then
      iP 0
    else
      iB (iz_Run_setting (qm_rf this 0) 6) fun x5 =>
      iP x5) fun s4 =>
  iB (iz_Press_cell this p1 5) fun x6 =>
  iB (iz_Press_cell this p1 8) fun x7 =>
  iB (iz_Run_setting (qm_rf this 0) 5) fun x8 =>
  iA (x6 + s4) fun y2 =>
  iA (x7 * x8) fun y3 =>
  iA (y2 + y3) fun y4 =>
  iP y4
set_option maxRecDepth 20000 in
set_option maxHeartbeats 2000000 in
theorem is_Press_used {this : Nat} {p1 : Int32} {p1' : Int} (qp1 : p1.toInt = p1') : iS (jf_Press_used this p1) (iz_Press_used this p1') Int32.toInt := by
  subst qp1
  unfold jf_Press_used iz_Press_used
  refine is_B (V := Int32.toInt) (is_Press_cell rfl tl_7) (fun x1 => ?_)
  refine is_B (V := Int32.toInt) (is_Press_cell rfl tl_6) (fun x2 => ?_)
  refine is_B (V := Int32.toInt) ?_ (fun s3 => ?_)
  ·
    refine is_A (fun h1 => ?_)
    refine is_if (ti_le (ti_add rfl rfl h1) tl_0) ?_ ?_
    ·
      exact is_P tl_0
    ·
      exact is_P tl_1
  refine is_B (V := Int32.toInt) ?_ (fun s4 => ?_)
  ·
    refine is_if (ti_eq rfl tl_0) ?_ ?_
    ·
      exact is_P tl_0
    ·
      refine is_B (V := Int32.toInt) (is_Run_setting tl_6) (fun x5 => ?_)
      exact is_P rfl
  refine is_B (V := Int32.toInt) (is_Press_cell rfl tl_5) (fun x6 => ?_)
  refine is_B (V := Int32.toInt) (is_Press_cell rfl tl_8) (fun x7 => ?_)
  refine is_B (V := Int32.toInt) (is_Run_setting tl_5) (fun x8 => ?_)
  refine is_A (fun h2 => ?_)
  refine is_A (fun h3 => ?_)
  refine is_A (fun h4 => ?_)
  exact is_P (ti_add (ti_add rfl rfl h2) (ti_mul rfl rfl h3) h4)
noncomputable def iz_Press_columnOf (this : Nat) (p1 : Int) : iM Int :=
  iB (α := (Unit ⊕ Int)) (
    iW (S := Int) (α := (Unit ⊕ Int)) (fun s2 =>
      iB (iGt this 4) fun x3 =>
      if x3 ≤ s2 then
        iP (Sum.inr (Sum.inl ()))
      else
        iB (iz_Press_cell this s2 3) fun x4 =>
        iB (α := (Unit ⊕ (Int ⊕ (Unit ⊕ Int)))) (
          if p1 < x4 then
            iP (Sum.inl ())
          else
            iB (iz_Press_cell this s2 4) fun x6 =>
            if x6 ≤ p1 then
              iP (Sum.inl ())
            else
              iP (Sum.inr (Sum.inr (Sum.inr s2)))) (Sum.elim (fun s5 =>
          iA (s2 + 1) fun y1 =>
          iB (iP y1) fun x7 =>
          iP (Sum.inl x7)) iP)) 0) (Sum.elim (fun s1 =>
    iP (-1)) iP)
set_option maxRecDepth 20000 in
set_option maxHeartbeats 2000000 in
theorem is_Press_columnOf {this : Nat} {p1 : Int32} {p1' : Int} (qp1 : p1.toInt = p1') : iS (jf_Press_columnOf this p1) (iz_Press_columnOf this p1') Int32.toInt := by
  subst qp1
  unfold jf_Press_columnOf iz_Press_columnOf
  refine is_E (V := id1) ?_ (fun s1 => ?_)
  ·
    refine is_W (V := Int32.toInt) (W := (is2 id1 Int32.toInt)) (fun s2 => ?_) tl_0
    refine is_B (V := Int32.toInt) (is_Gt rfl) (fun x3 => ?_)
    refine is_if (ti_le rfl rfl) ?_ ?_
    ·
      exact is_P (pinr (pinl rfl))
    ·
      refine is_B (V := Int32.toInt) (is_Press_cell rfl tl_3) (fun x4 => ?_)
      refine is_E (V := id1) ?_ (fun s5 => ?_)
      ·
        refine is_if (ti_lt rfl rfl) ?_ ?_
        ·
          exact is_P (pinl rfl)
        ·
          refine is_B (V := Int32.toInt) (is_Press_cell rfl tl_4) (fun x6 => ?_)
          refine is_if (ti_le rfl rfl) ?_ ?_
          ·
            exact is_P (pinl rfl)
          ·
            exact is_P (pinr (pinr (pinr rfl)))
      ·
        refine is_A (fun h1 => ?_)
        refine is_B (V := Int32.toInt) (is_P (ti_add rfl tl_1 h1)) (fun x7 => ?_)
        exact is_P (pinl rfl)
  ·
    exact is_P tl_m1
noncomputable def iz_Press_leftOfNote (this : Nat) (p1 : Int) (p2 : Int) : iM Int :=
  iB (iz_Press_cell this p2 4) fun x1 =>
  iA (p1 + 1) fun y1 =>
  iB (iz_Flow_ownLines (qm_rf this 1) y1 x1) fun x2 =>
  iB (α := Int) (
    if ¬ x2 = 0 then
      iP 0
    else
      iP 1) fun s3 =>
  if s3 = 0 then
    iP 0
  else
    iB (iz_Press_cell this p2 6) fun x4 =>
    iB (iz_Press_cell this p2 7) fun x5 =>
    iB (iz_Press_cell this p2 8) fun x6 =>
    iA (x4 + x5) fun y2 =>
    iA (y2 - x6) fun y3 =>
    iP y3
set_option maxRecDepth 20000 in
set_option maxHeartbeats 2000000 in
theorem is_Press_leftOfNote {this : Nat} {p1 : Int32} {p1' : Int} {p2 : Int32} {p2' : Int} (qp1 : p1.toInt = p1') (qp2 : p2.toInt = p2') : iS (jf_Press_leftOfNote this p1 p2) (iz_Press_leftOfNote this p1' p2') Int32.toInt := by
  subst qp1 qp2
  unfold jf_Press_leftOfNote iz_Press_leftOfNote
  refine is_B (V := Int32.toInt) (is_Press_cell rfl tl_4) (fun x1 => ?_)
  refine is_A (fun h1 => ?_)
  refine is_B (V := Int32.toInt) (is_Flow_ownLines (ti_add rfl tl_1 h1) rfl) (fun x2 => ?_)
  refine is_B (V := Int32.toInt) ?_ (fun s3 => ?_)
  ·
    refine is_if (ti_not (ti_eq rfl tl_0)) ?_ ?_
    ·
      exact is_P tl_0
    ·
      exact is_P tl_1
  refine is_if (ti_eq rfl tl_0) ?_ ?_
  ·
    exact is_P tl_0
  ·
    refine is_B (V := Int32.toInt) (is_Press_cell rfl tl_6) (fun x4 => ?_)
    refine is_B (V := Int32.toInt) (is_Press_cell rfl tl_7) (fun x5 => ?_)
    refine is_B (V := Int32.toInt) (is_Press_cell rfl tl_8) (fun x6 => ?_)
    refine is_A (fun h2 => ?_)
    refine is_A (fun h3 => ?_)
    exact is_P (ti_sub (ti_add rfl rfl h2) rfl h3)
noncomputable def iz_Press_linesByMark (this : Nat) (p1 : Int) : iM Int :=
  iB (iz_Press_columnOf this p1) fun x1 =>
  if ¬ x1 = (-1) then
    iB (iz_Top_at (qm_rf (qm_rf this 1) 9) p1) fun x2 =>
    iB (iz_Press_leftOfNote this p1 x1) fun x3 =>
    iA (x2 - x3) fun y1 =>
    iP y1
  else
    iP (-2)
set_option maxRecDepth 20000 in
set_option maxHeartbeats 2000000 in
theorem is_Press_linesByMark {this : Nat} {p1 : Int32} {p1' : Int} (qp1 : p1.toInt = p1') : iS (jf_Press_linesByMark this p1) (iz_Press_linesByMark this p1') Int32.toInt := by
  subst qp1
  unfold jf_Press_linesByMark iz_Press_linesByMark
  refine is_B (V := Int32.toInt) (is_Press_columnOf rfl) (fun x1 => ?_)
  refine is_if (ti_not (ti_eq rfl tl_m1)) ?_ ?_
  ·
    refine is_B (V := Int32.toInt) (is_Top_at rfl) (fun x2 => ?_)
    refine is_B (V := Int32.toInt) (is_Press_leftOfNote rfl rfl) (fun x3 => ?_)
    refine is_A (fun h1 => ?_)
    exact is_P (ti_sub rfl rfl h1)
  ·
    exact is_P tl_m2
noncomputable def iz_Press_columnsOfNote (this : Nat) (p1 : Int) : iM Int :=
  iB (iz_Press_columnOf this p1) fun x1 =>
  if ¬ x1 = (-1) then
    iB (iz_Press_leftOfNote this p1 x1) fun x2 =>
    iA (x1 + 1) fun y1 =>
    iB (iP y1) fun x3 =>
    iB (α := Int) (
      iW (S := (Int × (Int × Int))) (α := Int) (fun s5 =>
        iB (iGt this 4) fun x6 =>
        if x6 ≤ s5.2.2 then
          iP (Sum.inr s5.1)
        else
          if s5.2.1 ≤ 0 then
            iP (Sum.inr s5.1)
          else
            iB (iz_Press_cell this s5.2.2 8) fun x7 =>
            iB (α := Int) (
              if x7 ≤ 0 then
                iP s5.1
              else
                iA (s5.1 + 1) fun y2 =>
                iB (iP y2) fun x9 =>
                iP x9) fun s8 =>
            iB (iz_Press_cell this s5.2.2 8) fun x10 =>
            iA (s5.2.1 - x10) fun y3 =>
            iB (iP y3) fun x11 =>
            iA (s5.2.2 + 1) fun y4 =>
            iB (iP y4) fun x12 =>
            iP (Sum.inl (s8, (x11, x12)))) (1, (x2, x3))) fun s4 =>
    iP s4
  else
    iP (-2)
set_option maxRecDepth 20000 in
set_option maxHeartbeats 2000000 in
theorem is_Press_columnsOfNote {this : Nat} {p1 : Int32} {p1' : Int} (qp1 : p1.toInt = p1') : iS (jf_Press_columnsOfNote this p1) (iz_Press_columnsOfNote this p1') Int32.toInt := by
  subst qp1
  unfold jf_Press_columnsOfNote iz_Press_columnsOfNote
  refine is_B (V := Int32.toInt) (is_Press_columnOf rfl) (fun x1 => ?_)
  refine is_if (ti_not (ti_eq rfl tl_m1)) ?_ ?_
  ·
    refine is_B (V := Int32.toInt) (is_Press_leftOfNote rfl rfl) (fun x2 => ?_)
    refine is_A (fun h1 => ?_)
    refine is_B (V := Int32.toInt) (is_P (ti_add rfl tl_1 h1)) (fun x3 => ?_)
    refine is_B (V := Int32.toInt) ?_ (fun s4 => ?_)
    ·
      refine is_W (V := (ip2 Int32.toInt (ip2 Int32.toInt Int32.toInt))) (W := Int32.toInt) (fun s5 => ?_) (ppair tl_1 (ppair rfl rfl))
      refine is_B (V := Int32.toInt) (is_Gt rfl) (fun x6 => ?_)
      refine is_if (ti_le rfl rfl) ?_ ?_
      ·
        exact is_P (pinr rfl)
      ·
        refine is_if (ti_le rfl tl_0) ?_ ?_
        ·
          exact is_P (pinr rfl)
        ·
          refine is_B (V := Int32.toInt) (is_Press_cell rfl tl_8) (fun x7 => ?_)
          refine is_B (V := Int32.toInt) ?_ (fun s8 => ?_)
          ·
            refine is_if (ti_le rfl tl_0) ?_ ?_
            ·
              exact is_P rfl
            ·
              refine is_A (fun h2 => ?_)
              refine is_B (V := Int32.toInt) (is_P (ti_add rfl tl_1 h2)) (fun x9 => ?_)
              exact is_P rfl
          refine is_B (V := Int32.toInt) (is_Press_cell rfl tl_8) (fun x10 => ?_)
          refine is_A (fun h3 => ?_)
          refine is_B (V := Int32.toInt) (is_P (ti_sub rfl rfl h3)) (fun x11 => ?_)
          refine is_A (fun h4 => ?_)
          refine is_B (V := Int32.toInt) (is_P (ti_add rfl tl_1 h4)) (fun x12 => ?_)
          exact is_P (pinl (ppair rfl (ppair rfl rfl)))
    exact is_P rfl
  ·
    exact is_P tl_m2
noncomputable def iz_Run_takes (p1 : Int) (p2 : Int) : iM Int :=
  if p1 < 0 then
    iP 0
  else
    if 8 ≤ p1 then
      iP 0
    else
      iB (iLd 406 p1) fun x1 =>
      if p2 < x1 then
        iP 0
      else
        iB (iLd 407 p1) fun x2 =>
        if x2 < p2 then
          iP 0
        else
          iP 1
set_option maxRecDepth 20000 in
set_option maxHeartbeats 2000000 in
theorem is_Run_takes {p1 : Int32} {p1' : Int} {p2 : Int32} {p2' : Int} (qp1 : p1.toInt = p1') (qp2 : p2.toInt = p2') : iS (jf_Run_takes p1 p2) (iz_Run_takes p1' p2') Int32.toInt := by
  subst qp1 qp2
  unfold jf_Run_takes iz_Run_takes
  refine is_if (ti_lt rfl tl_0) ?_ ?_
  ·
    exact is_P tl_0
  ·
    refine is_if (ti_le tl_8 rfl) ?_ ?_
    ·
      exact is_P tl_0
    ·
      refine is_B (V := Int32.toInt) (is_Ld rfl) (fun x1 => ?_)
      refine is_if (ti_lt rfl rfl) ?_ ?_
      ·
        exact is_P tl_0
      ·
        refine is_B (V := Int32.toInt) (is_Ld rfl) (fun x2 => ?_)
        refine is_if (ti_lt rfl rfl) ?_ ?_
        ·
          exact is_P tl_0
        ·
          exact is_P tl_1
noncomputable def iz_Run_clear (this : Nat) : iM Unit :=
  iB (iPt this 0 0) fun _ =>
  iB (α := Unit) (
    iW (S := Int) (α := Unit) (fun s2 =>
      if 8 ≤ s2 then
        iP (Sum.inr ())
      else
        iB (iLd 405 s2) fun x3 =>
        iB (iSt (qm_rf this 1) s2 x3) fun _ =>
        iA (s2 + 1) fun y1 =>
        iB (iP y1) fun x4 =>
        iP (Sum.inl x4)) 0) fun s1 =>
  iP ()
set_option maxRecDepth 20000 in
set_option maxHeartbeats 2000000 in
theorem is_Run_clear {this : Nat} : iS (jf_Run_clear this) (iz_Run_clear this) id1 := by
  unfold jf_Run_clear iz_Run_clear
  refine is_B (V := id1) (is_Pt rfl tl_0) (fun _ => ?_)
  refine is_B (V := id1) ?_ (fun s1 => ?_)
  ·
    refine is_W (V := Int32.toInt) (W := id1) (fun s2 => ?_) tl_0
    refine is_if (ti_le tl_8 rfl) ?_ ?_
    ·
      exact is_P (pinr rfl)
    ·
      refine is_B (V := Int32.toInt) (is_Ld rfl) (fun x3 => ?_)
      refine is_B (V := id1) (is_St rfl rfl) (fun _ => ?_)
      refine is_A (fun h1 => ?_)
      refine is_B (V := Int32.toInt) (is_P (ti_add rfl tl_1 h1)) (fun x4 => ?_)
      exact is_P (pinl rfl)
  exact is_P rfl
noncomputable def iz_Run_put (this : Nat) (p1 : Int) (p2 : Int) : iM Unit :=
  iB (iz_Run_takes p1 p2) fun x1 =>
  if x1 = 0 then
    iP ()
  else
    iB (iSt (qm_rf this 1) p1 p2) fun _ =>
    iP ()
set_option maxRecDepth 20000 in
set_option maxHeartbeats 2000000 in
theorem is_Run_put {this : Nat} {p1 : Int32} {p1' : Int} {p2 : Int32} {p2' : Int} (qp1 : p1.toInt = p1') (qp2 : p2.toInt = p2') : iS (jf_Run_put this p1 p2) (iz_Run_put this p1' p2') id1 := by
  subst qp1 qp2
  unfold jf_Run_put iz_Run_put
  refine is_B (V := Int32.toInt) (is_Run_takes rfl rfl) (fun x1 => ?_)
  refine is_if (ti_eq rfl tl_0) ?_ ?_
  ·
    exact is_P rfl
  ·
    refine is_B (V := id1) (is_St rfl rfl) (fun _ => ?_)
    exact is_P rfl
noncomputable def iz_Run_has (this : Nat) (p1 : Int) : iM Int :=
  if p1 < 0 then
    iP 0
  else
    iB (iGt this 0) fun x1 =>
    if x1 ≤ p1 then
      iP 0
    else
      iP 1
set_option maxRecDepth 20000 in
set_option maxHeartbeats 2000000 in
theorem is_Run_has {this : Nat} {p1 : Int32} {p1' : Int} (qp1 : p1.toInt = p1') : iS (jf_Run_has this p1) (iz_Run_has this p1') Int32.toInt := by
  subst qp1
  unfold jf_Run_has iz_Run_has
  refine is_if (ti_lt rfl tl_0) ?_ ?_
  ·
    exact is_P tl_0
  ·
    refine is_B (V := Int32.toInt) (is_Gt rfl) (fun x1 => ?_)
    refine is_if (ti_le rfl rfl) ?_ ?_
    ·
      exact is_P tl_0
    ·
      exact is_P tl_1
noncomputable def iz_Run_hasPieces (this : Nat) (p1 : Int) : iM Int :=
  iB (iz_Run_has this p1) fun x1 =>
  if x1 = 0 then
    iP 0
  else
    iB (iz_Run_cell this p1 0) fun x2 =>
    if x2 = 4 then
      iP 0
    else
      iP 1
set_option maxRecDepth 20000 in
set_option maxHeartbeats 2000000 in
theorem is_Run_hasPieces {this : Nat} {p1 : Int32} {p1' : Int} (qp1 : p1.toInt = p1') : iS (jf_Run_hasPieces this p1) (iz_Run_hasPieces this p1') Int32.toInt := by
  subst qp1
  unfold jf_Run_hasPieces iz_Run_hasPieces
  refine is_B (V := Int32.toInt) (is_Run_has rfl) (fun x1 => ?_)
  refine is_if (ti_eq rfl tl_0) ?_ ?_
  ·
    exact is_P tl_0
  ·
    refine is_B (V := Int32.toInt) (is_Run_cell rfl tl_0) (fun x2 => ?_)
    refine is_if (ti_eq rfl tl_4) ?_ ?_
    ·
      exact is_P tl_0
    ·
      exact is_P tl_1
noncomputable def iz_Run_putCell (this : Nat) (p1 : Int) (p2 : Int) (p3 : Int) : iM Unit :=
  if p1 < 0 then
    iP ()
  else
    if 16 ≤ p1 then
      iP ()
    else
      if p2 < 0 then
        iP ()
      else
        if 16 ≤ p2 then
          iP ()
        else
          iA (p1 * 16) fun y1 =>
          iA (y1 + p2) fun y2 =>
          iB (iSt (qm_rf this 2) y2 p3) fun _ =>
          iP ()
set_option maxRecDepth 20000 in
set_option maxHeartbeats 2000000 in
theorem is_Run_putCell {this : Nat} {p1 : Int32} {p1' : Int} {p2 : Int32} {p2' : Int} {p3 : Int32} {p3' : Int} (qp1 : p1.toInt = p1') (qp2 : p2.toInt = p2') (qp3 : p3.toInt = p3') : iS (jf_Run_putCell this p1 p2 p3) (iz_Run_putCell this p1' p2' p3') id1 := by
  subst qp1 qp2 qp3
  unfold jf_Run_putCell iz_Run_putCell
  refine is_if (ti_lt rfl tl_0) ?_ ?_
  ·
    exact is_P rfl
  ·
    refine is_if (ti_le tl_16 rfl) ?_ ?_
    ·
      exact is_P rfl
    ·
      refine is_if (ti_lt rfl tl_0) ?_ ?_
      ·
        exact is_P rfl
      ·
        refine is_if (ti_le tl_16 rfl) ?_ ?_
        ·
          exact is_P rfl
        ·
          refine is_A (fun h1 => ?_)
          refine is_A (fun h2 => ?_)
          refine is_B (V := id1) (is_St (ti_add (ti_mul rfl tl_16 h1) rfl h2) rfl) (fun _ => ?_)
          exact is_P rfl
noncomputable def iz_Run_allPieces (this : Nat) : iM Int :=
  iB (α := Int) (
    iW (S := (Int × Int)) (α := Int) (fun s2 =>
      iB (iGt this 0) fun x3 =>
      if x3 ≤ s2.2 then
        iP (Sum.inr s2.1)
      else
        iB (iz_Run_cell this s2.2 1) fun x4 =>
        iA (s2.1 + x4) fun y1 =>
        iB (iP y1) fun x5 =>
        iA (s2.2 + 1) fun y2 =>
        iB (iP y2) fun x6 =>
        iP (Sum.inl (x5, x6))) (0, 0)) fun s1 =>
  iP s1
set_option maxRecDepth 20000 in
set_option maxHeartbeats 2000000 in
theorem is_Run_allPieces {this : Nat} : iS (jf_Run_allPieces this) (iz_Run_allPieces this) Int32.toInt := by
  unfold jf_Run_allPieces iz_Run_allPieces
  refine is_B (V := Int32.toInt) ?_ (fun s1 => ?_)
  ·
    refine is_W (V := (ip2 Int32.toInt Int32.toInt)) (W := Int32.toInt) (fun s2 => ?_) (ppair tl_0 tl_0)
    refine is_B (V := Int32.toInt) (is_Gt rfl) (fun x3 => ?_)
    refine is_if (ti_le rfl rfl) ?_ ?_
    ·
      exact is_P (pinr rfl)
    ·
      refine is_B (V := Int32.toInt) (is_Run_cell rfl tl_1) (fun x4 => ?_)
      refine is_A (fun h1 => ?_)
      refine is_B (V := Int32.toInt) (is_P (ti_add rfl rfl h1)) (fun x5 => ?_)
      refine is_A (fun h2 => ?_)
      refine is_B (V := Int32.toInt) (is_P (ti_add rfl tl_1 h2)) (fun x6 => ?_)
      exact is_P (pinl (ppair rfl rfl))
  exact is_P rfl
noncomputable def iz_Run_add (this : Nat) (p1 : Int) : iM Int :=
  iB (iGt this 0) fun x1 =>
  if 16 ≤ x1 then
    iP x1
  else
    iB (α := Unit) (
      iW (S := Int) (α := Unit) (fun s3 =>
        if 16 ≤ s3 then
          iP (Sum.inr ())
        else
          iB (iz_Run_putCell this x1 s3 0) fun _ =>
          iA (s3 + 1) fun y1 =>
          iB (iP y1) fun x4 =>
          iP (Sum.inl x4)) 0) fun s2 =>
    iB (iz_Run_putCell this x1 0 p1) fun _ =>
    iB (iGt this 0) fun x5 =>
    iA (x5 + 1) fun y2 =>
    iB (iPt this 0 y2) fun _ =>
    iP x1
set_option maxRecDepth 20000 in
set_option maxHeartbeats 2000000 in
theorem is_Run_add {this : Nat} {p1 : Int32} {p1' : Int} (qp1 : p1.toInt = p1') : iS (jf_Run_add this p1) (iz_Run_add this p1') Int32.toInt := by
  subst qp1
  unfold jf_Run_add iz_Run_add
  refine is_B (V := Int32.toInt) (is_Gt rfl) (fun x1 => ?_)
  refine is_if (ti_le tl_16 rfl) ?_ ?_
  ·
    exact is_P rfl
  ·
    refine is_B (V := id1) ?_ (fun s2 => ?_)
    ·
      refine is_W (V := Int32.toInt) (W := id1) (fun s3 => ?_) tl_0
      refine is_if (ti_le tl_16 rfl) ?_ ?_
      ·
        exact is_P (pinr rfl)
      ·
        refine is_B (V := id1) (is_Run_putCell rfl rfl tl_0) (fun _ => ?_)
        refine is_A (fun h1 => ?_)
        refine is_B (V := Int32.toInt) (is_P (ti_add rfl tl_1 h1)) (fun x4 => ?_)
        exact is_P (pinl rfl)
    refine is_B (V := id1) (is_Run_putCell rfl tl_0 rfl) (fun _ => ?_)
    refine is_B (V := Int32.toInt) (is_Gt rfl) (fun x5 => ?_)
    refine is_A (fun h2 => ?_)
    refine is_B (V := id1) (is_Pt rfl (ti_add rfl tl_1 h2)) (fun _ => ?_)
    exact is_P rfl
noncomputable def iz_Run_exchange (this : Nat) (p1 : Int) (p2 : Int) : iM Unit :=
  iB (α := Unit) (
    iW (S := Int) (α := Unit) (fun s2 =>
      if 16 ≤ s2 then
        iP (Sum.inr ())
      else
        iB (iz_Run_cell this p1 s2) fun x3 =>
        iB (iz_Run_cell this p2 s2) fun x4 =>
        iB (iz_Run_putCell this p1 s2 x4) fun _ =>
        iB (iz_Run_putCell this p2 s2 x3) fun _ =>
        iA (s2 + 1) fun y1 =>
        iB (iP y1) fun x5 =>
        iP (Sum.inl x5)) 0) fun s1 =>
  iP ()
set_option maxRecDepth 20000 in
set_option maxHeartbeats 2000000 in
theorem is_Run_exchange {this : Nat} {p1 : Int32} {p1' : Int} {p2 : Int32} {p2' : Int} (qp1 : p1.toInt = p1') (qp2 : p2.toInt = p2') : iS (jf_Run_exchange this p1 p2) (iz_Run_exchange this p1' p2') id1 := by
  subst qp1 qp2
  unfold jf_Run_exchange iz_Run_exchange
  refine is_B (V := id1) ?_ (fun s1 => ?_)
  ·
    refine is_W (V := Int32.toInt) (W := id1) (fun s2 => ?_) tl_0
    refine is_if (ti_le tl_16 rfl) ?_ ?_
    ·
      exact is_P (pinr rfl)
    ·
      refine is_B (V := Int32.toInt) (is_Run_cell rfl rfl) (fun x3 => ?_)
      refine is_B (V := Int32.toInt) (is_Run_cell rfl rfl) (fun x4 => ?_)
      refine is_B (V := id1) (is_Run_putCell rfl rfl rfl) (fun _ => ?_)
      refine is_B (V := id1) (is_Run_putCell rfl rfl rfl) (fun _ => ?_)
      refine is_A (fun h1 => ?_)
      refine is_B (V := Int32.toInt) (is_P (ti_add rfl tl_1 h1)) (fun x5 => ?_)
      exact is_P (pinl rfl)
  exact is_P rfl
noncomputable def iz_Run_copyCells (this : Nat) (p1 : Int) (p2 : Int) : iM Unit :=
  iB (α := Unit) (
    iW (S := Int) (α := Unit) (fun s2 =>
      if 16 ≤ s2 then
        iP (Sum.inr ())
      else
        iB (iz_Run_cell this p1 s2) fun x3 =>
        iB (iz_Run_putCell this p2 s2 x3) fun _ =>
        iA (s2 + 1) fun y1 =>
        iB (iP y1) fun x4 =>
        iP (Sum.inl x4)) 0) fun s1 =>
  iP ()
set_option maxRecDepth 20000 in
set_option maxHeartbeats 2000000 in
theorem is_Run_copyCells {this : Nat} {p1 : Int32} {p1' : Int} {p2 : Int32} {p2' : Int} (qp1 : p1.toInt = p1') (qp2 : p2.toInt = p2') : iS (jf_Run_copyCells this p1 p2) (iz_Run_copyCells this p1' p2') id1 := by
  subst qp1 qp2
  unfold jf_Run_copyCells iz_Run_copyCells
  refine is_B (V := id1) ?_ (fun s1 => ?_)
  ·
    refine is_W (V := Int32.toInt) (W := id1) (fun s2 => ?_) tl_0
    refine is_if (ti_le tl_16 rfl) ?_ ?_
    ·
      exact is_P (pinr rfl)
    ·
      refine is_B (V := Int32.toInt) (is_Run_cell rfl rfl) (fun x3 => ?_)
      refine is_B (V := id1) (is_Run_putCell rfl rfl rfl) (fun _ => ?_)
      refine is_A (fun h1 => ?_)
      refine is_B (V := Int32.toInt) (is_P (ti_add rfl tl_1 h1)) (fun x4 => ?_)
      exact is_P (pinl rfl)
  exact is_P rfl
noncomputable def iz_Run_repeat (this : Nat) (p1 : Int) : iM Unit :=
  iB (iz_Run_cell this p1 0) fun x1 =>
  iB (iz_Run_add this x1) fun x2 =>
  iB (iz_Run_copyCells this p1 x2) fun _ =>
  iP ()
set_option maxRecDepth 20000 in
set_option maxHeartbeats 2000000 in
theorem is_Run_repeat {this : Nat} {p1 : Int32} {p1' : Int} (qp1 : p1.toInt = p1') : iS (jf_Run_repeat this p1) (iz_Run_repeat this p1') id1 := by
  subst qp1
  unfold jf_Run_repeat iz_Run_repeat
  refine is_B (V := Int32.toInt) (is_Run_cell rfl tl_0) (fun x1 => ?_)
  refine is_B (V := Int32.toInt) (is_Run_add rfl) (fun x2 => ?_)
  refine is_B (V := id1) (is_Run_copyCells rfl rfl) (fun _ => ?_)
  exact is_P rfl
noncomputable def iz_Run_remove (this : Nat) (p1 : Int) : iM Unit :=
  iB (α := Unit) (
    iW (S := Int) (α := Unit) (fun s2 =>
      iB (iGt this 0) fun x3 =>
      iA (s2 + 1) fun y1 =>
      if x3 ≤ y1 then
        iP (Sum.inr ())
      else
        iA (s2 + 1) fun y2 =>
        iB (iz_Run_copyCells this y2 s2) fun _ =>
        iA (s2 + 1) fun y3 =>
        iB (iP y3) fun x4 =>
        iP (Sum.inl x4)) p1) fun s1 =>
  iB (iGt this 0) fun x5 =>
  iA (x5 - 1) fun y4 =>
  iB (iPt this 0 y4) fun _ =>
  iP ()
set_option maxRecDepth 20000 in
set_option maxHeartbeats 2000000 in
theorem is_Run_remove {this : Nat} {p1 : Int32} {p1' : Int} (qp1 : p1.toInt = p1') : iS (jf_Run_remove this p1) (iz_Run_remove this p1') id1 := by
  subst qp1
  unfold jf_Run_remove iz_Run_remove
  refine is_B (V := id1) ?_ (fun s1 => ?_)
  ·
    refine is_W (V := Int32.toInt) (W := id1) (fun s2 => ?_) rfl
    refine is_B (V := Int32.toInt) (is_Gt rfl) (fun x3 => ?_)
    refine is_A (fun h1 => ?_)
    refine is_if (ti_le rfl (ti_add rfl tl_1 h1)) ?_ ?_
    ·
      exact is_P (pinr rfl)
    ·
      refine is_A (fun h2 => ?_)
      refine is_B (V := id1) (is_Run_copyCells (ti_add rfl tl_1 h2) rfl) (fun _ => ?_)
      refine is_A (fun h3 => ?_)
      refine is_B (V := Int32.toInt) (is_P (ti_add rfl tl_1 h3)) (fun x4 => ?_)
      exact is_P (pinl rfl)
  refine is_B (V := Int32.toInt) (is_Gt rfl) (fun x5 => ?_)
  refine is_A (fun h4 => ?_)
  refine is_B (V := id1) (is_Pt rfl (ti_sub rfl tl_1 h4)) (fun _ => ?_)
  exact is_P rfl
noncomputable def iz_Run_addMark (this : Nat) (p1 : Int) (p2 : Int) (p3 : Int) : iM Unit :=
  iB (iz_Run_cell this p1 7) fun x1 =>
  if x1 < 0 then
    iP ()
  else
    if 4 ≤ x1 then
      iP ()
    else
      iA (8 + x1) fun y1 =>
      iB (iz_Run_putCell this p1 y1 p2) fun _ =>
      iA (12 + x1) fun y2 =>
      iB (iz_Run_putCell this p1 y2 p3) fun _ =>
      iA (x1 + 1) fun y3 =>
      iB (iz_Run_putCell this p1 7 y3) fun _ =>
      iP ()
set_option maxRecDepth 20000 in
set_option maxHeartbeats 2000000 in
theorem is_Run_addMark {this : Nat} {p1 : Int32} {p1' : Int} {p2 : Int32} {p2' : Int} {p3 : Int32} {p3' : Int} (qp1 : p1.toInt = p1') (qp2 : p2.toInt = p2') (qp3 : p3.toInt = p3') : iS (jf_Run_addMark this p1 p2 p3) (iz_Run_addMark this p1' p2' p3') id1 := by
  subst qp1 qp2 qp3
  unfold jf_Run_addMark iz_Run_addMark
  refine is_B (V := Int32.toInt) (is_Run_cell rfl tl_7) (fun x1 => ?_)
  refine is_if (ti_lt rfl tl_0) ?_ ?_
  ·
    exact is_P rfl
  ·
    refine is_if (ti_le tl_4 rfl) ?_ ?_
    ·
      exact is_P rfl
    ·
      refine is_A (fun h1 => ?_)
      refine is_B (V := id1) (is_Run_putCell rfl (ti_add tl_8 rfl h1) rfl) (fun _ => ?_)
      refine is_A (fun h2 => ?_)
      refine is_B (V := id1) (is_Run_putCell rfl (ti_add tl_12 rfl h2) rfl) (fun _ => ?_)
      refine is_A (fun h3 => ?_)
      refine is_B (V := id1) (is_Run_putCell rfl tl_7 (ti_add rfl tl_1 h3)) (fun _ => ?_)
      exact is_P rfl
noncomputable def iz_Tape_append (this : Nat) (p1 : Int) : iM Unit :=
  iB (α := Unit) (
    iW (S := Int) (α := Unit) (fun s2 =>
      if s2 < 0 then
        iP (Sum.inr ())
      else
        iB (iGt this 1) fun x3 =>
        iB (α := Unit) (
          if x3 < 0 then
            iP ()
          else
            iB (iGt this 1) fun x5 =>
            if (iLen (qm_rf this 0)) ≤ x5 then
              iP ()
            else
              iB (iGt this 1) fun x6 =>
              iB (iSt (qm_rf this 0) x6 (ibAnd (ibShr p1 (ibAnd s2 31)) 255)) fun _ =>
              iB (iGt this 1) fun x7 =>
              iA (x7 + 1) fun y1 =>
              iB (iPt this 1 y1) fun _ =>
              iP ()) fun s4 =>
        iA (s2 + (-8)) fun y2 =>
        iB (iP y2) fun x8 =>
        iP (Sum.inl x8)) 24) fun s1 =>
  iP ()
set_option maxRecDepth 20000 in
set_option maxHeartbeats 2000000 in
theorem is_Tape_append {this : Nat} {p1 : Int32} {p1' : Int} (qp1 : p1.toInt = p1') : iS (jf_Tape_append this p1) (iz_Tape_append this p1') id1 := by
  subst qp1
  unfold jf_Tape_append iz_Tape_append
  refine is_B (V := id1) ?_ (fun s1 => ?_)
  ·
    refine is_W (V := Int32.toInt) (W := id1) (fun s2 => ?_) tl_24
    refine is_if (ti_lt rfl tl_0) ?_ ?_
    ·
      exact is_P (pinr rfl)
    ·
      refine is_B (V := Int32.toInt) (is_Gt rfl) (fun x3 => ?_)
      refine is_B (V := id1) ?_ (fun s4 => ?_)
      ·
        refine is_if (ti_lt rfl tl_0) ?_ ?_
        ·
          exact is_P rfl
        ·
          refine is_B (V := Int32.toInt) (is_Gt rfl) (fun x5 => ?_)
          refine is_if (ti_le (tl_len _) rfl) ?_ ?_
          ·
            exact is_P rfl
          ·
            refine is_B (V := Int32.toInt) (is_Gt rfl) (fun x6 => ?_)
            refine is_B (V := id1) (is_St rfl (ti_and (ti_shr rfl (ti_and rfl tl_31)) tl_255)) (fun _ => ?_)
            refine is_B (V := Int32.toInt) (is_Gt rfl) (fun x7 => ?_)
            refine is_A (fun h1 => ?_)
            refine is_B (V := id1) (is_Pt rfl (ti_add rfl tl_1 h1)) (fun _ => ?_)
            exact is_P rfl
      refine is_A (fun h2 => ?_)
      refine is_B (V := Int32.toInt) (is_P (ti_add rfl tl_m8 h2)) (fun x8 => ?_)
      exact is_P (pinl rfl)
  exact is_P rfl
noncomputable def iz_Teller_signOf (p1 : Int) : iM Int :=
  iB (α := (Unit ⊕ Int)) (
    if p1 < 97 then
      iP (Sum.inl ())
    else
      if 122 < p1 then
        iP (Sum.inl ())
      else
        iP (Sum.inr 0)) (Sum.elim (fun s1 =>
    iB (α := (Unit ⊕ Int)) (
      if p1 < 48 then
        iP (Sum.inl ())
      else
        if 57 < p1 then
          iP (Sum.inl ())
        else
          iP (Sum.inr 1)) (Sum.elim (fun s2 =>
      if ¬ p1 = 59 then
        iP 3
      else
        iP 2) iP)) iP)
set_option maxRecDepth 20000 in
set_option maxHeartbeats 2000000 in
theorem is_Teller_signOf {p1 : Int32} {p1' : Int} (qp1 : p1.toInt = p1') : iS (jf_Teller_signOf p1) (iz_Teller_signOf p1') Int32.toInt := by
  subst qp1
  unfold jf_Teller_signOf iz_Teller_signOf
  refine is_E (V := id1) ?_ (fun s1 => ?_)
  ·
    refine is_if (ti_lt rfl tl_97) ?_ ?_
    ·
      exact is_P (pinl rfl)
    ·
      refine is_if (ti_lt tl_122 rfl) ?_ ?_
      ·
        exact is_P (pinl rfl)
      ·
        exact is_P (pinr tl_0)
  ·
    refine is_E (V := id1) ?_ (fun s2 => ?_)
    ·
      refine is_if (ti_lt rfl tl_48) ?_ ?_
      ·
        exact is_P (pinl rfl)
      ·
        refine is_if (ti_lt tl_57 rfl) ?_ ?_
        ·
          exact is_P (pinl rfl)
        ·
          exact is_P (pinr tl_1)
    ·
      refine is_if (ti_not (ti_eq rfl tl_59)) ?_ ?_
      ·
        exact is_P tl_3
      ·
        exact is_P tl_2
noncomputable def iz_Teller_numberOf (this : Nat) (p1 : Int) (p2 : Int) : iM Int :=
  iB (α := Int) (
    iW (S := (Int × Int)) (α := Int) (fun s2 =>
      if p2 ≤ s2.2 then
        iP (Sum.inr s2.1)
      else
        iB (iz_Top_at (qm_rf (qm_rf this 0) 0) s2.2) fun x3 =>
        iA (s2.1 * 10) fun y1 =>
        iA (y1 + x3) fun y2 =>
        iA (y2 - 48) fun y3 =>
        iB (iz_Math_min 100000 y3) fun x4 =>
        iA (s2.2 + 1) fun y4 =>
        iB (iP y4) fun x5 =>
        iP (Sum.inl (x4, x5))) (0, p1)) fun s1 =>
  iP s1
set_option maxRecDepth 20000 in
set_option maxHeartbeats 2000000 in
theorem is_Teller_numberOf {this : Nat} {p1 : Int32} {p1' : Int} {p2 : Int32} {p2' : Int} (qp1 : p1.toInt = p1') (qp2 : p2.toInt = p2') : iS (jf_Teller_numberOf this p1 p2) (iz_Teller_numberOf this p1' p2') Int32.toInt := by
  subst qp1 qp2
  unfold jf_Teller_numberOf iz_Teller_numberOf
  refine is_B (V := Int32.toInt) ?_ (fun s1 => ?_)
  ·
    refine is_W (V := (ip2 Int32.toInt Int32.toInt)) (W := Int32.toInt) (fun s2 => ?_) (ppair tl_0 rfl)
    refine is_if (ti_le rfl rfl) ?_ ?_
    ·
      exact is_P (pinr rfl)
    ·
      refine is_B (V := Int32.toInt) (is_Top_at rfl) (fun x3 => ?_)
      refine is_A (fun h1 => ?_)
      refine is_A (fun h2 => ?_)
      refine is_A (fun h3 => ?_)
      refine is_B (V := Int32.toInt) (is_Math_min tl_100000 (ti_sub (ti_add (ti_mul rfl tl_10 h1) rfl h2) tl_48 h3)) (fun x4 => ?_)
      refine is_A (fun h4 => ?_)
      refine is_B (V := Int32.toInt) (is_P (ti_add rfl tl_1 h4)) (fun x5 => ?_)
      exact is_P (pinl (ppair rfl rfl))
  exact is_P rfl
noncomputable def iz_Teller_sign (this : Nat) : iM Int :=
  iB (iGt this 5) fun x1 =>
  if x1 < 0 then
    iP 4
  else
    iB (iGt this 5) fun x2 =>
    if 401 ≤ x2 then
      iP 4
    else
      iB (iGt this 5) fun x3 =>
      iB (iLd (qm_rf this 2) x3) fun x4 =>
      iP x4
set_option maxRecDepth 20000 in
set_option maxHeartbeats 2000000 in
theorem is_Teller_sign {this : Nat} : iS (jf_Teller_sign this) (iz_Teller_sign this) Int32.toInt := by
  unfold jf_Teller_sign iz_Teller_sign
  refine is_B (V := Int32.toInt) (is_Gt rfl) (fun x1 => ?_)
  refine is_if (ti_lt rfl tl_0) ?_ ?_
  ·
    exact is_P tl_4
  ·
    refine is_B (V := Int32.toInt) (is_Gt rfl) (fun x2 => ?_)
    refine is_if (ti_le tl_401 rfl) ?_ ?_
    ·
      exact is_P tl_4
    ·
      refine is_B (V := Int32.toInt) (is_Gt rfl) (fun x3 => ?_)
      refine is_B (V := Int32.toInt) (is_Ld rfl) (fun x4 => ?_)
      exact is_P rfl
noncomputable def iz_Teller_place (this : Nat) : iM Int :=
  iB (iGt this 5) fun x1 =>
  if x1 < 0 then
    iB (iGt (qm_rf this 0) 1) fun x2 =>
    iP x2
  else
    iB (iGt this 5) fun x3 =>
    if 401 ≤ x3 then
      iB (iGt (qm_rf this 0) 1) fun x4 =>
      iP x4
    else
      iB (iGt this 5) fun x5 =>
      iB (iLd (qm_rf this 3) x5) fun x6 =>
      iP x6
set_option maxRecDepth 20000 in
set_option maxHeartbeats 2000000 in
theorem is_Teller_place {this : Nat} : iS (jf_Teller_place this) (iz_Teller_place this) Int32.toInt := by
  unfold jf_Teller_place iz_Teller_place
  refine is_B (V := Int32.toInt) (is_Gt rfl) (fun x1 => ?_)
  refine is_if (ti_lt rfl tl_0) ?_ ?_
  ·
    refine is_B (V := Int32.toInt) (is_Gt rfl) (fun x2 => ?_)
    exact is_P rfl
  ·
    refine is_B (V := Int32.toInt) (is_Gt rfl) (fun x3 => ?_)
    refine is_if (ti_le tl_401 rfl) ?_ ?_
    ·
      refine is_B (V := Int32.toInt) (is_Gt rfl) (fun x4 => ?_)
      exact is_P rfl
    ·
      refine is_B (V := Int32.toInt) (is_Gt rfl) (fun x5 => ?_)
      refine is_B (V := Int32.toInt) (is_Ld rfl) (fun x6 => ?_)
      exact is_P rfl
