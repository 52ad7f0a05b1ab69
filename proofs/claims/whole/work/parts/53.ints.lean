noncomputable def iz_Top_order (this : Nat) (p1 : Int) : iM Int :=
  if p1 < 0 then
    iP (-1)
  else
    if p1 ≤ 1 then
      iB (iz_Run_copyFrom (qm_rf (qm_rf this 7) 0) (qm_rf this 0)) fun _ =>
      iB (α := (Int × Int)) (
        iW (S := (Int × (Int × Int))) (α := (Int × Int)) (fun s2 =>
          iB (iGt (qm_rf this 0) 0) fun x3 =>
          iA (s2.2.2 + 1) fun y1 =>
          if x3 ≤ y1 then
            iP (Sum.inr (s2.1, s2.2.1))
          else
            iA (s2.2.2 + 1) fun y2 =>
            iB (iz_Run_exchange (qm_rf (qm_rf this 7) 0) s2.2.2 y2) fun _ =>
            iB (iz_Press_lay (qm_rf this 7)) fun _ =>
            iB (iz_Press_pourAll (qm_rf this 7)) fun x4 =>
            iA (s2.2.2 + 1) fun y3 =>
            iB (iz_Run_exchange (qm_rf (qm_rf this 7) 0) s2.2.2 y3) fun _ =>
            iB (α := (Int × Int)) (
              if x4 < 0 then
                iP (s2.1, s2.2.1)
              else
                iB (α := (Unit ⊕ (Int × Int))) (
                  if s2.2.1 = (-2) then
                    iP (Sum.inl ())
                  else
                    if s2.2.1 ≤ x4 then
                      iP (Sum.inr (s2.1, s2.2.1))
                    else
                      iP (Sum.inl ())) (Sum.elim (fun s6 =>
                  iP (s2.2.2, x4)) iP)) fun s5 =>
            iA (s2.2.2 + 1) fun y4 =>
            iB (iP y4) fun x7 =>
            iP (Sum.inl (s5.1, (s5.2, x7)))) ((-2), ((-2), 0))) fun s1 =>
      if ¬ p1 = 0 then
        iP s1.2
      else
        iP s1.1
    else
      iP (-1)
set_option maxRecDepth 20000 in
set_option maxHeartbeats 2000000 in
theorem is_Top_order {this : Nat} {p1 : Int32} {p1' : Int} (qp1 : p1.toInt = p1') : iS (jf_Top_order this p1) (iz_Top_order this p1') Int32.toInt := by
  subst qp1
  unfold jf_Top_order iz_Top_order
  refine is_if (ti_lt rfl tl_0) ?_ ?_
  ·
    exact is_P tl_m1
  ·
    refine is_if (ti_le rfl tl_1) ?_ ?_
    ·
      refine is_B (V := id1) (is_Run_copyFrom) (fun _ => ?_)
      refine is_B (V := (ip2 Int32.toInt Int32.toInt)) ?_ (fun s1 => ?_)
      ·
        refine is_W (V := (ip2 Int32.toInt (ip2 Int32.toInt Int32.toInt))) (W := (ip2 Int32.toInt Int32.toInt)) (fun s2 => ?_) (ppair tl_m2 (ppair tl_m2 tl_0))
        refine is_B (V := Int32.toInt) (is_Gt rfl) (fun x3 => ?_)
        refine is_A (fun h1 => ?_)
        refine is_if (ti_le rfl (ti_add rfl tl_1 h1)) ?_ ?_
        ·
          exact is_P (pinr (ppair rfl rfl))
        ·
          refine is_A (fun h2 => ?_)
          refine is_B (V := id1) (is_Run_exchange rfl (ti_add rfl tl_1 h2)) (fun _ => ?_)
          refine is_B (V := id1) (is_Press_lay) (fun _ => ?_)
          refine is_B (V := Int32.toInt) (is_Press_pourAll) (fun x4 => ?_)
          refine is_A (fun h3 => ?_)
          refine is_B (V := id1) (is_Run_exchange rfl (ti_add rfl tl_1 h3)) (fun _ => ?_)
          refine is_B (V := (ip2 Int32.toInt Int32.toInt)) ?_ (fun s5 => ?_)
          ·
            refine is_if (ti_lt rfl tl_0) ?_ ?_
            ·
              exact is_P (ppair rfl rfl)
            ·
              refine is_E (V := id1) ?_ (fun s6 => ?_)
              ·
                refine is_if (ti_eq rfl tl_m2) ?_ ?_
                ·
                  exact is_P (pinl rfl)
                ·
                  refine is_if (ti_le rfl rfl) ?_ ?_
                  ·
                    exact is_P (pinr (ppair rfl rfl))
                  ·
                    exact is_P (pinl rfl)
              ·
                exact is_P (ppair rfl rfl)
          refine is_A (fun h4 => ?_)
          refine is_B (V := Int32.toInt) (is_P (ti_add rfl tl_1 h4)) (fun x7 => ?_)
          exact is_P (pinl (ppair rfl (ppair rfl rfl)))
      refine is_if (ti_not (ti_eq rfl tl_0)) ?_ ?_
      ·
        exact is_P rfl
      ·
        exact is_P rfl
    ·
      exact is_P tl_m1
noncomputable def iz_Model_begins (p1 : Nat) : iM Unit :=
  iB (α := Unit) (
    iW (S := Int) (α := Unit) (fun s2 =>
      if 265 ≤ s2 then
        iP (Sum.inr ())
      else
        iB (iSt p1 s2 0) fun _ =>
        iA (s2 + 1) fun y1 =>
        iB (iP y1) fun x3 =>
        iP (Sum.inl x3)) 0) fun s1 =>
  iB (iSt p1 0 2) fun _ =>
  iB (iSt p1 1 60) fun _ =>
  iB (iSt p1 2 2) fun _ =>
  iB (iSt p1 3 2) fun _ =>
  iB (iSt p1 4 2) fun _ =>
  iB (iSt p1 5 1) fun _ =>
  iB (iSt p1 6 1) fun _ =>
  iP ()
set_option maxRecDepth 20000 in
set_option maxHeartbeats 2000000 in
theorem is_Model_begins {p1 : Nat} : iS (jf_Model_begins p1) (iz_Model_begins p1) id1 := by
  unfold jf_Model_begins iz_Model_begins
  refine is_B (V := id1) ?_ (fun s1 => ?_)
  ·
    refine is_W (V := Int32.toInt) (W := id1) (fun s2 => ?_) tl_0
    refine is_if (ti_le tl_265 rfl) ?_ ?_
    ·
      exact is_P (pinr rfl)
    ·
      refine is_B (V := id1) (is_St rfl tl_0) (fun _ => ?_)
      refine is_A (fun h1 => ?_)
      refine is_B (V := Int32.toInt) (is_P (ti_add rfl tl_1 h1)) (fun x3 => ?_)
      exact is_P (pinl rfl)
  refine is_B (V := id1) (is_St tl_0 tl_2) (fun _ => ?_)
  refine is_B (V := id1) (is_St tl_1 tl_60) (fun _ => ?_)
  refine is_B (V := id1) (is_St tl_2 tl_2) (fun _ => ?_)
  refine is_B (V := id1) (is_St tl_3 tl_2) (fun _ => ?_)
  refine is_B (V := id1) (is_St tl_4 tl_2) (fun _ => ?_)
  refine is_B (V := id1) (is_St tl_5 tl_1) (fun _ => ?_)
  refine is_B (V := id1) (is_St tl_6 tl_1) (fun _ => ?_)
  exact is_P rfl
noncomputable def iz_Model_lowOf (p1 : Int) : iM Int :=
  if ¬ p1 = 1 then
    if p1 = 4 then
      iP 0
    else
      if p1 = 6 then
        iP 0
      else
        if ¬ p1 = 7 then
          iP 1
        else
          iP 0
  else
    iP 10
set_option maxRecDepth 20000 in
set_option maxHeartbeats 2000000 in
theorem is_Model_lowOf {p1 : Int32} {p1' : Int} (qp1 : p1.toInt = p1') : iS (jf_Model_lowOf p1) (iz_Model_lowOf p1') Int32.toInt := by
  subst qp1
  unfold jf_Model_lowOf iz_Model_lowOf
  refine is_if (ti_not (ti_eq rfl tl_1)) ?_ ?_
  ·
    refine is_if (ti_eq rfl tl_4) ?_ ?_
    ·
      exact is_P tl_0
    ·
      refine is_if (ti_eq rfl tl_6) ?_ ?_
      ·
        exact is_P tl_0
      ·
        refine is_if (ti_not (ti_eq rfl tl_7)) ?_ ?_
        ·
          exact is_P tl_1
        ·
          exact is_P tl_0
  ·
    exact is_P tl_10
noncomputable def iz_Model_highOf (p1 : Int) : iM Int :=
  if p1 = 0 then
    iP 5
  else
    if p1 = 1 then
      iP 400
    else
      if p1 = 2 then
        iP 9
      else
        if p1 = 3 then
          iP 9
        else
          if p1 = 4 then
            iP 9
          else
            if p1 = 5 then
              iP 3
            else
              if p1 = 6 then
                iP 9
              else
                if p1 = 7 then
                  iP 60
                else
                  iP 9
set_option maxRecDepth 20000 in
set_option maxHeartbeats 2000000 in
theorem is_Model_highOf {p1 : Int32} {p1' : Int} (qp1 : p1.toInt = p1') : iS (jf_Model_highOf p1) (iz_Model_highOf p1') Int32.toInt := by
  subst qp1
  unfold jf_Model_highOf iz_Model_highOf
  refine is_if (ti_eq rfl tl_0) ?_ ?_
  ·
    exact is_P tl_5
  ·
    refine is_if (ti_eq rfl tl_1) ?_ ?_
    ·
      exact is_P tl_400
    ·
      refine is_if (ti_eq rfl tl_2) ?_ ?_
      ·
        exact is_P tl_9
      ·
        refine is_if (ti_eq rfl tl_3) ?_ ?_
        ·
          exact is_P tl_9
        ·
          refine is_if (ti_eq rfl tl_4) ?_ ?_
          ·
            exact is_P tl_9
          ·
            refine is_if (ti_eq rfl tl_5) ?_ ?_
            ·
              exact is_P tl_3
            ·
              refine is_if (ti_eq rfl tl_6) ?_ ?_
              ·
                exact is_P tl_9
              ·
                refine is_if (ti_eq rfl tl_7) ?_ ?_
                ·
                  exact is_P tl_60
                ·
                  exact is_P tl_9
noncomputable def iz_Model_isSetting (p1 : Int) (p2 : Int) : iM Int :=
  iB (iz_Model_in p1 0 7) fun x1 =>
  if x1 = 0 then
    iP 0
  else
    iB (iz_Model_lowOf p1) fun x2 =>
    iB (iz_Model_highOf p1) fun x3 =>
    iB (iz_Model_in p2 x2 x3) fun x4 =>
    if x4 = 0 then
      iP 0
    else
      iP 1
set_option maxRecDepth 20000 in
set_option maxHeartbeats 2000000 in
theorem is_Model_isSetting {p1 : Int32} {p1' : Int} {p2 : Int32} {p2' : Int} (qp1 : p1.toInt = p1') (qp2 : p2.toInt = p2') : iS (jf_Model_isSetting p1 p2) (iz_Model_isSetting p1' p2') Int32.toInt := by
  subst qp1 qp2
  unfold jf_Model_isSetting iz_Model_isSetting
  refine is_B (V := Int32.toInt) (is_Model_in (ti_64 rfl) t64_0 t64_7) (fun x1 => ?_)
  refine is_if (ti_eq rfl tl_0) ?_ ?_
  ·
    exact is_P tl_0
  ·
    refine is_B (V := Int32.toInt) (is_Model_lowOf rfl) (fun x2 => ?_)
    refine is_B (V := Int32.toInt) (is_Model_highOf rfl) (fun x3 => ?_)
    refine is_B (V := Int32.toInt) (is_Model_in (ti_64 rfl) (ti_64 rfl) (ti_64 rfl)) (fun x4 => ?_)
    refine is_if (ti_eq rfl tl_0) ?_ ?_
    ·
      exact is_P tl_0
    ·
      exact is_P tl_1
noncomputable def iz_Model_blocks (this : Nat) : iM Int :=
  iB (iLd (qm_rf this 0) 8) fun x1 =>
  iP x1
set_option maxRecDepth 20000 in
set_option maxHeartbeats 2000000 in
theorem is_Model_blocks {this : Nat} : iS (jf_Model_blocks this) (iz_Model_blocks this) Int32.toInt := by
  unfold jf_Model_blocks iz_Model_blocks
  refine is_B (V := Int32.toInt) (is_Ld tl_8) (fun x1 => ?_)
  exact is_P rfl
noncomputable def iz_Model_of (this : Nat) (p1 : Int) (p2 : Int) : iM Int :=
  iA (16 * p1) fun y1 =>
  iA (9 + y1) fun y2 =>
  iA (y2 + p2) fun y3 =>
  iB (iLd (qm_rf this 0) y3) fun x1 =>
  iP x1
set_option maxRecDepth 20000 in
set_option maxHeartbeats 2000000 in
theorem is_Model_of {this : Nat} {p1 : Int32} {p1' : Int} {p2 : Int32} {p2' : Int} (qp1 : p1.toInt = p1') (qp2 : p2.toInt = p2') : iS (jf_Model_of this p1 p2) (iz_Model_of this p1' p2') Int32.toInt := by
  subst qp1 qp2
  unfold jf_Model_of iz_Model_of
  refine is_A (fun h1 => ?_)
  refine is_A (fun h2 => ?_)
  refine is_A (fun h3 => ?_)
  refine is_B (V := Int32.toInt) (is_Ld (ti_add (ti_add tl_9 (ti_mul tl_16 rfl h1) h2) rfl h3)) (fun x1 => ?_)
  exact is_P rfl
noncomputable def iz_Model_isBlock (this : Nat) (p1 : Int) : iM Int :=
  iB (iz_Model_blocks this) fun x1 =>
  iA (x1 - 1) fun y1 =>
  iB (iz_Model_in p1 0 y1) fun x2 =>
  iB (iZ x2) fun x3 =>
  iP x3
set_option maxRecDepth 20000 in
set_option maxHeartbeats 2000000 in
theorem is_Model_isBlock {this : Nat} {p1 : Int32} {p1' : Int} (qp1 : p1.toInt = p1') : iS (jf_Model_isBlock this p1) (iz_Model_isBlock this p1') Int32.toInt := by
  subst qp1
  unfold jf_Model_isBlock iz_Model_isBlock
  refine is_B (V := Int32.toInt) (is_Model_blocks) (fun x1 => ?_)
  refine is_A (fun h1 => ?_)
  refine is_B (V := Int32.toInt) (is_Model_in (ti_64 rfl) t64_0 (ti_64 (ti_sub rfl tl_1 h1))) (fun x2 => ?_)
  refine is_B (V := Int32.toInt) (is_Z rfl) (fun x3 => ?_)
  exact is_P rfl
noncomputable def iz_Model_noteOf (this : Nat) (p1 : Int) (p2 : Int) : iM Int :=
  iB (α := (Int ⊕ Int)) (
    iB (α := (Unit ⊕ (Int ⊕ Int))) (
      iW (S := Int) (α := (Unit ⊕ (Int ⊕ Int))) (fun s3 =>
        iB (iz_Model_of this p1 7) fun x4 =>
        if x4 ≤ s3 then
          iP (Sum.inr (Sum.inl ()))
        else
          iA (2 * s3) fun y1 =>
          iA (8 + y1) fun y2 =>
          iB (iz_Model_of this p1 y2) fun x5 =>
          iA (p2 + 1) fun y3 =>
          if ¬ x5 = y3 then
            iA (s3 + 1) fun y4 =>
            iB (iP y4) fun x6 =>
            iP (Sum.inl x6)
          else
            iP (Sum.inr (Sum.inr (Sum.inl s3)))) 0) (Sum.elim (fun s2 =>
      iP (Sum.inr 0)) iP)) (Sum.elim (fun s1 =>
    iA (2 * s1) fun y5 =>
    iA (8 + y5) fun y6 =>
    iA (y6 + 1) fun y7 =>
    iB (iz_Model_of this p1 y7) fun x7 =>
    iP x7) iP)
set_option maxRecDepth 20000 in
set_option maxHeartbeats 2000000 in
theorem is_Model_noteOf {this : Nat} {p1 : Int32} {p1' : Int} {p2 : Int32} {p2' : Int} (qp1 : p1.toInt = p1') (qp2 : p2.toInt = p2') : iS (jf_Model_noteOf this p1 p2) (iz_Model_noteOf this p1' p2') Int32.toInt := by
  subst qp1 qp2
  unfold jf_Model_noteOf iz_Model_noteOf
  refine is_E (V := Int32.toInt) ?_ (fun s1 => ?_)
  ·
    refine is_E (V := id1) ?_ (fun s2 => ?_)
    ·
      refine is_W (V := Int32.toInt) (W := (is2 id1 (is2 Int32.toInt Int32.toInt))) (fun s3 => ?_) tl_0
      refine is_B (V := Int32.toInt) (is_Model_of rfl tl_7) (fun x4 => ?_)
      refine is_if (ti_le rfl rfl) ?_ ?_
      ·
        exact is_P (pinr (pinl rfl))
      ·
        refine is_A (fun h1 => ?_)
        refine is_A (fun h2 => ?_)
        refine is_B (V := Int32.toInt) (is_Model_of rfl (ti_add tl_8 (ti_mul tl_2 rfl h1) h2)) (fun x5 => ?_)
        refine is_A (fun h3 => ?_)
        refine is_if (ti_not (ti_eq rfl (ti_add rfl tl_1 h3))) ?_ ?_
        ·
          refine is_A (fun h4 => ?_)
          refine is_B (V := Int32.toInt) (is_P (ti_add rfl tl_1 h4)) (fun x6 => ?_)
          exact is_P (pinl rfl)
        ·
          exact is_P (pinr (pinr (pinl rfl)))
    ·
      exact is_P (pinr tl_0)
  ·
    refine is_A (fun h5 => ?_)
    refine is_A (fun h6 => ?_)
    refine is_A (fun h7 => ?_)
    refine is_B (V := Int32.toInt) (is_Model_of rfl (ti_add (ti_add tl_8 (ti_mul tl_2 rfl h5) h6) tl_1 h7)) (fun x7 => ?_)
    exact is_P rfl
noncomputable def iz_Model_laysPiece (this : Nat) (p1 : Int) (p2 : Int) : iM Unit :=
  iB (iGt this 13) fun x1 =>
  iB (iSt (qm_rf this 6) x1 p1) fun _ =>
  iB (iSt (qm_rf this 7) x1 p2) fun _ =>
  iB (iz_Model_of this p1 2) fun x2 =>
  iB (α := Int) (
    if ¬ p2 = 0 then
      iP 0
    else
      iB (iz_Model_of this p1 3) fun x4 =>
      iP x4) fun s3 =>
  iA (x2 + s3) fun y1 =>
  iB (iSt (qm_rf this 8) x1 y1) fun _ =>
  iB (α := Int) (
    if ¬ p2 = 0 then
      iP 0
    else
      iB (iz_Model_of this p1 6) fun x6 =>
      iP x6) fun s5 =>
  iB (iSt (qm_rf this 9) x1 s5) fun _ =>
  iB (iz_Model_noteOf this p1 p2) fun x7 =>
  iB (iSt (qm_rf this 10) x1 x7) fun _ =>
  iB (iGt this 16) fun x8 =>
  iB (iSt (qm_rf this 11) x1 x8) fun _ =>
  iB (iGt this 13) fun x9 =>
  iA (x9 + 1) fun y2 =>
  iB (iPt this 13 y2) fun _ =>
  iP ()
set_option maxRecDepth 20000 in
set_option maxHeartbeats 2000000 in
theorem is_Model_laysPiece {this : Nat} {p1 : Int32} {p1' : Int} {p2 : Int32} {p2' : Int} (qp1 : p1.toInt = p1') (qp2 : p2.toInt = p2') : iS (jf_Model_laysPiece this p1 p2) (iz_Model_laysPiece this p1' p2') id1 := by
  subst qp1 qp2
  unfold jf_Model_laysPiece iz_Model_laysPiece
  refine is_B (V := Int32.toInt) (is_Gt rfl) (fun x1 => ?_)
  refine is_B (V := id1) (is_St rfl rfl) (fun _ => ?_)
  refine is_B (V := id1) (is_St rfl rfl) (fun _ => ?_)
  refine is_B (V := Int32.toInt) (is_Model_of rfl tl_2) (fun x2 => ?_)
  refine is_B (V := Int32.toInt) ?_ (fun s3 => ?_)
  ·
    refine is_if (ti_not (ti_eq rfl tl_0)) ?_ ?_
    ·
      exact is_P tl_0
    ·
      refine is_B (V := Int32.toInt) (is_Model_of rfl tl_3) (fun x4 => ?_)
      exact is_P rfl
  refine is_A (fun h1 => ?_)
  refine is_B (V := id1) (is_St rfl (ti_add rfl rfl h1)) (fun _ => ?_)
  refine is_B (V := Int32.toInt) ?_ (fun s5 => ?_)
  ·
    refine is_if (ti_not (ti_eq rfl tl_0)) ?_ ?_
    ·
      exact is_P tl_0
    ·
      refine is_B (V := Int32.toInt) (is_Model_of rfl tl_6) (fun x6 => ?_)
      exact is_P rfl
  refine is_B (V := id1) (is_St rfl rfl) (fun _ => ?_)
  refine is_B (V := Int32.toInt) (is_Model_noteOf rfl rfl) (fun x7 => ?_)
  refine is_B (V := id1) (is_St rfl rfl) (fun _ => ?_)
  refine is_B (V := Int32.toInt) (is_Gt rfl) (fun x8 => ?_)
  refine is_B (V := id1) (is_St rfl rfl) (fun _ => ?_)
  refine is_B (V := Int32.toInt) (is_Gt rfl) (fun x9 => ?_)
  refine is_A (fun h2 => ?_)
  refine is_B (V := id1) (is_Pt rfl (ti_add rfl tl_1 h2)) (fun _ => ?_)
  exact is_P rfl
noncomputable def iz_Model_mayEnd (this : Nat) (p1 : Int) : iM Int :=
  iB (iLd (qm_rf this 6) p1) fun x1 =>
  iB (iLd (qm_rf this 7) p1) fun x2 =>
  iA (x2 + 1) fun y1 =>
  iB (iP y1) fun x3 =>
  iB (iz_Model_of this x1 1) fun x4 =>
  if ¬ x3 = x4 then
    iB (iz_Model_of this x1 0) fun x5 =>
    if ¬ x5 = 3 then
      iB (iz_Model_of this x1 5) fun x6 =>
      if x6 = 1 then
        iP 0
      else
        iB (iLd (qm_rf this 0) 2) fun x7 =>
        if x3 < x7 then
          iP 0
        else
          iB (iLd (qm_rf this 0) 3) fun x8 =>
          iA (x4 - x3) fun y2 =>
          if x8 ≤ y2 then
            if x1 = 0 then
              iP 1
            else
              iA (x1 - 1) fun y3 =>
              iB (iz_Model_of this y3 0) fun x9 =>
              if ¬ x9 = 2 then
                iP 1
              else
                iB (iLd (qm_rf this 0) 4) fun x10 =>
                if x3 < x10 then
                  iP 0
                else
                  iP 1
          else
            iP 0
    else
      iP 1
  else
    iB (iz_Model_of this x1 0) fun x11 =>
    if x11 = 2 then
      iP 0
    else
      iB (iz_Model_of this x1 4) fun x12 =>
      if ¬ x12 = 0 then
        iP 0
      else
        iP 1
set_option maxRecDepth 20000 in
set_option maxHeartbeats 2000000 in
theorem is_Model_mayEnd {this : Nat} {p1 : Int32} {p1' : Int} (qp1 : p1.toInt = p1') : iS (jf_Model_mayEnd this p1) (iz_Model_mayEnd this p1') Int32.toInt := by
  subst qp1
  unfold jf_Model_mayEnd iz_Model_mayEnd
  refine is_B (V := Int32.toInt) (is_Ld rfl) (fun x1 => ?_)
  refine is_B (V := Int32.toInt) (is_Ld rfl) (fun x2 => ?_)
  refine is_A (fun h1 => ?_)
  refine is_B (V := Int32.toInt) (is_P (ti_add rfl tl_1 h1)) (fun x3 => ?_)
  refine is_B (V := Int32.toInt) (is_Model_of rfl tl_1) (fun x4 => ?_)
  refine is_if (ti_not (ti_eq rfl rfl)) ?_ ?_
  ·
    refine is_B (V := Int32.toInt) (is_Model_of rfl tl_0) (fun x5 => ?_)
    refine is_if (ti_not (ti_eq rfl tl_3)) ?_ ?_
    ·
      refine is_B (V := Int32.toInt) (is_Model_of rfl tl_5) (fun x6 => ?_)
      refine is_if (ti_eq rfl tl_1) ?_ ?_
      ·
        exact is_P tl_0
      ·
        refine is_B (V := Int32.toInt) (is_Ld tl_2) (fun x7 => ?_)
        refine is_if (ti_lt rfl rfl) ?_ ?_
        ·
          exact is_P tl_0
        ·
          refine is_B (V := Int32.toInt) (is_Ld tl_3) (fun x8 => ?_)
          refine is_A (fun h2 => ?_)
          refine is_if (ti_le rfl (ti_sub rfl rfl h2)) ?_ ?_
          ·
            refine is_if (ti_eq rfl tl_0) ?_ ?_
            ·
              exact is_P tl_1
            ·
              refine is_A (fun h3 => ?_)
              refine is_B (V := Int32.toInt) (is_Model_of (ti_sub rfl tl_1 h3) tl_0) (fun x9 => ?_)
              refine is_if (ti_not (ti_eq rfl tl_2)) ?_ ?_
              ·
                exact is_P tl_1
              ·
                refine is_B (V := Int32.toInt) (is_Ld tl_4) (fun x10 => ?_)
                refine is_if (ti_lt rfl rfl) ?_ ?_
                ·
                  exact is_P tl_0
                ·
                  exact is_P tl_1
          ·
            exact is_P tl_0
    ·
      exact is_P tl_1
  ·
    refine is_B (V := Int32.toInt) (is_Model_of rfl tl_0) (fun x11 => ?_)
    refine is_if (ti_eq rfl tl_2) ?_ ?_
    ·
      exact is_P tl_0
    ·
      refine is_B (V := Int32.toInt) (is_Model_of rfl tl_4) (fun x12 => ?_)
      refine is_if (ti_not (ti_eq rfl tl_0)) ?_ ?_
      ·
        exact is_P tl_0
      ·
        exact is_P tl_1
noncomputable def iz_Model_laysSums (this : Nat) : iM Unit :=
  iB (iSt (qm_rf this 18) 0 0) fun _ =>
  iB (iSt (qm_rf this 19) 0 0) fun _ =>
  iB (iSt (qm_rf this 20) 0 0) fun _ =>
  iB (iSt (qm_rf this 21) 0 0) fun _ =>
  iB (α := Unit) (
    iW (S := Int) (α := Unit) (fun s2 =>
      iB (iGt this 13) fun x3 =>
      if x3 ≤ s2 then
        iP (Sum.inr ())
      else
        iB (iLd (qm_rf this 18) s2) fun x4 =>
        iB (iLd (qm_rf this 8) s2) fun x5 =>
        iA (s2 + 1) fun y1 =>
        iA (x4 + x5) fun y2 =>
        iB (iSt (qm_rf this 18) y1 y2) fun _ =>
        iB (iLd (qm_rf this 19) s2) fun x6 =>
        iB (iLd (qm_rf this 9) s2) fun x7 =>
        iA (s2 + 1) fun y3 =>
        iA (x6 + x7) fun y4 =>
        iB (iSt (qm_rf this 19) y3 y4) fun _ =>
        iB (iLd (qm_rf this 20) s2) fun x8 =>
        iB (iLd (qm_rf this 10) s2) fun x9 =>
        iA (s2 + 1) fun y5 =>
        iA (x8 + x9) fun y6 =>
        iB (iSt (qm_rf this 20) y5 y6) fun _ =>
        iB (iLd (qm_rf this 10) s2) fun x10 =>
        iB (α := Int) (
          if x10 ≤ 0 then
            iB (iLd (qm_rf this 21) s2) fun x12 =>
            iP x12
          else
            iB (iLd (qm_rf this 10) s2) fun x13 =>
            iP x13) fun s11 =>
        iA (s2 + 1) fun y7 =>
        iB (iSt (qm_rf this 21) y7 s11) fun _ =>
        iA (s2 + 1) fun y8 =>
        iB (iP y8) fun x14 =>
        iP (Sum.inl x14)) 0) fun s1 =>
  iP ()
set_option maxRecDepth 20000 in
set_option maxHeartbeats 2000000 in
theorem is_Model_laysSums {this : Nat} : iS (jf_Model_laysSums this) (iz_Model_laysSums this) id1 := by
  unfold jf_Model_laysSums iz_Model_laysSums
  refine is_B (V := id1) (is_St tl_0 tl_0) (fun _ => ?_)
  refine is_B (V := id1) (is_St tl_0 tl_0) (fun _ => ?_)
  refine is_B (V := id1) (is_St tl_0 tl_0) (fun _ => ?_)
  refine is_B (V := id1) (is_St tl_0 tl_0) (fun _ => ?_)
  refine is_B (V := id1) ?_ (fun s1 => ?_)
  ·
    refine is_W (V := Int32.toInt) (W := id1) (fun s2 => ?_) tl_0
    refine is_B (V := Int32.toInt) (is_Gt rfl) (fun x3 => ?_)
    refine is_if (ti_le rfl rfl) ?_ ?_
    ·
      exact is_P (pinr rfl)
    ·
      refine is_B (V := Int32.toInt) (is_Ld rfl) (fun x4 => ?_)
      refine is_B (V := Int32.toInt) (is_Ld rfl) (fun x5 => ?_)
      refine is_A (fun h1 => ?_)
      refine is_A (fun h2 => ?_)
      refine is_B (V := id1) (is_St (ti_add rfl tl_1 h1) (ti_add rfl rfl h2)) (fun _ => ?_)
      refine is_B (V := Int32.toInt) (is_Ld rfl) (fun x6 => ?_)
      refine is_B (V := Int32.toInt) (is_Ld rfl) (fun x7 => ?_)
      refine is_A (fun h3 => ?_)
      refine is_A (fun h4 => ?_)
      refine is_B (V := id1) (is_St (ti_add rfl tl_1 h3) (ti_add rfl rfl h4)) (fun _ => ?_)
      refine is_B (V := Int32.toInt) (is_Ld rfl) (fun x8 => ?_)
      refine is_B (V := Int32.toInt) (is_Ld rfl) (fun x9 => ?_)
      refine is_A (fun h5 => ?_)
      refine is_A (fun h6 => ?_)
      refine is_B (V := id1) (is_St (ti_add rfl tl_1 h5) (ti_add rfl rfl h6)) (fun _ => ?_)
      refine is_B (V := Int32.toInt) (is_Ld rfl) (fun x10 => ?_)
      refine is_B (V := Int32.toInt) ?_ (fun s11 => ?_)
      ·
        refine is_if (ti_le rfl tl_0) ?_ ?_
        ·
          refine is_B (V := Int32.toInt) (is_Ld rfl) (fun x12 => ?_)
          exact is_P rfl
        ·
          refine is_B (V := Int32.toInt) (is_Ld rfl) (fun x13 => ?_)
          exact is_P rfl
      refine is_A (fun h7 => ?_)
      refine is_B (V := id1) (is_St (ti_add rfl tl_1 h7) rfl) (fun _ => ?_)
      refine is_A (fun h8 => ?_)
      refine is_B (V := Int32.toInt) (is_P (ti_add rfl tl_1 h8)) (fun x14 => ?_)
      exact is_P (pinl rfl)
  exact is_P rfl
noncomputable def iz_Model_lays (this : Nat) : iM Unit :=
  iB (iPt this 13 0) fun _ =>
  iB (iPt this 16 0) fun _ =>
  iB (iSt (qm_rf this 14) 0 0) fun _ =>
  iB (iSt (qm_rf this 15) 0 0) fun _ =>
  iB (α := Unit) (
    iW (S := Int) (α := Unit) (fun s2 =>
      iB (iz_Model_blocks this) fun x3 =>
      if x3 ≤ s2 then
        iP (Sum.inr ())
      else
        iB (iGt this 13) fun x4 =>
        iB (iSt (qm_rf this 17) s2 x4) fun _ =>
        iB (iz_Model_of this s2 0) fun x5 =>
        iB (α := Unit) (
          if ¬ x5 = 4 then
            iW (S := Int) (α := Unit) (fun s7 =>
              iB (iz_Model_of this s2 1) fun x8 =>
              if x8 ≤ s7 then
                iP (Sum.inr ())
              else
                iB (iz_Model_laysPiece this s2 s7) fun _ =>
                iA (s7 + 1) fun y1 =>
                iB (iP y1) fun x9 =>
                iP (Sum.inl x9)) 0
          else
            iB (iGt this 16) fun x10 =>
            iA (x10 + 1) fun y2 =>
            iB (iPt this 16 y2) fun _ =>
            iB (iGt this 16) fun x11 =>
            iB (iGt this 13) fun x12 =>
            iB (iSt (qm_rf this 14) x11 x12) fun _ =>
            iB (iGt this 16) fun x13 =>
            iB (iz_Model_of this s2 2) fun x14 =>
            iB (iSt (qm_rf this 15) x13 x14) fun _ =>
            iP ()) fun s6 =>
        iA (s2 + 1) fun y3 =>
        iB (iP y3) fun x15 =>
        iP (Sum.inl x15)) 0) fun s1 =>
  iB (iGt this 16) fun x16 =>
  iB (iz_Model_blocks this) fun x17 =>
  iB (α := Int) (
    if ¬ x17 = 0 then
      iP 1
    else
      iP 0) fun s18 =>
  iA (x16 + s18) fun y4 =>
  iB (iPt this 16 y4) fun _ =>
  iB (iGt this 16) fun x19 =>
  iB (iGt this 13) fun x20 =>
  iB (iSt (qm_rf this 14) x19 x20) fun _ =>
  iB (α := Unit) (
    iW (S := Int) (α := Unit) (fun s22 =>
      iB (iGt this 13) fun x23 =>
      if x23 ≤ s22 then
        iP (Sum.inr ())
      else
        iB (iLd (qm_rf this 11) s22) fun x24 =>
        iA (x24 + 1) fun y5 =>
        iB (iLd (qm_rf this 14) y5) fun x25 =>
        iB (α := Int) (
          iB (α := (Unit ⊕ Int)) (
            iA (s22 + 1) fun y6 =>
            if y6 = x25 then
              iP (Sum.inl ())
            else
              iB (iz_Model_mayEnd this s22) fun x28 =>
              if x28 = 0 then
                iP (Sum.inr 0)
              else
                iP (Sum.inl ())) (Sum.elim (fun s27 =>
            iP 1) iP)) fun s26 =>
        iB (iSz (qm_rf this 12) s22 s26) fun _ =>
        iA (s22 + 1) fun y7 =>
        iB (iP y7) fun x29 =>
        iP (Sum.inl x29)) 0) fun s21 =>
  iB (iz_Model_laysSums this) fun _ =>
  iP ()
set_option maxRecDepth 20000 in
set_option maxHeartbeats 2000000 in
theorem is_Model_lays {this : Nat} : iS (jf_Model_lays this) (iz_Model_lays this) id1 := by
  unfold jf_Model_lays iz_Model_lays
  refine is_B (V := id1) (is_Pt rfl tl_0) (fun _ => ?_)
  refine is_B (V := id1) (is_Pt rfl tl_0) (fun _ => ?_)
  refine is_B (V := id1) (is_St tl_0 tl_0) (fun _ => ?_)
  refine is_B (V := id1) (is_St tl_0 tl_0) (fun _ => ?_)
  refine is_B (V := id1) ?_ (fun s1 => ?_)
  ·
    refine is_W (V := Int32.toInt) (W := id1) (fun s2 => ?_) tl_0
    refine is_B (V := Int32.toInt) (is_Model_blocks) (fun x3 => ?_)
    refine is_if (ti_le rfl rfl) ?_ ?_
    ·
      exact is_P (pinr rfl)
    ·
      refine is_B (V := Int32.toInt) (is_Gt rfl) (fun x4 => ?_)
      refine is_B (V := id1) (is_St rfl rfl) (fun _ => ?_)
      refine is_B (V := Int32.toInt) (is_Model_of rfl tl_0) (fun x5 => ?_)
      refine is_B (V := id1) ?_ (fun s6 => ?_)
      ·
        refine is_if (ti_not (ti_eq rfl tl_4)) ?_ ?_
        ·
          refine is_W (V := Int32.toInt) (W := id1) (fun s7 => ?_) tl_0
          refine is_B (V := Int32.toInt) (is_Model_of rfl tl_1) (fun x8 => ?_)
          refine is_if (ti_le rfl rfl) ?_ ?_
          ·
            exact is_P (pinr rfl)
          ·
            refine is_B (V := id1) (is_Model_laysPiece rfl rfl) (fun _ => ?_)
            refine is_A (fun h1 => ?_)
            refine is_B (V := Int32.toInt) (is_P (ti_add rfl tl_1 h1)) (fun x9 => ?_)
            exact is_P (pinl rfl)
        ·
          refine is_B (V := Int32.toInt) (is_Gt rfl) (fun x10 => ?_)
          refine is_A (fun h2 => ?_)
          refine is_B (V := id1) (is_Pt rfl (ti_add rfl tl_1 h2)) (fun _ => ?_)
          refine is_B (V := Int32.toInt) (is_Gt rfl) (fun x11 => ?_)
          refine is_B (V := Int32.toInt) (is_Gt rfl) (fun x12 => ?_)
          refine is_B (V := id1) (is_St rfl rfl) (fun _ => ?_)
          refine is_B (V := Int32.toInt) (is_Gt rfl) (fun x13 => ?_)
          refine is_B (V := Int32.toInt) (is_Model_of rfl tl_2) (fun x14 => ?_)
          refine is_B (V := id1) (is_St rfl rfl) (fun _ => ?_)
          exact is_P rfl
      refine is_A (fun h3 => ?_)
      refine is_B (V := Int32.toInt) (is_P (ti_add rfl tl_1 h3)) (fun x15 => ?_)
      exact is_P (pinl rfl)
  refine is_B (V := Int32.toInt) (is_Gt rfl) (fun x16 => ?_)
  refine is_B (V := Int32.toInt) (is_Model_blocks) (fun x17 => ?_)
  refine is_B (V := Int32.toInt) ?_ (fun s18 => ?_)
  ·
    refine is_if (ti_not (ti_eq rfl tl_0)) ?_ ?_
    ·
      exact is_P tl_1
    ·
      exact is_P tl_0
  refine is_A (fun h4 => ?_)
  refine is_B (V := id1) (is_Pt rfl (ti_add rfl rfl h4)) (fun _ => ?_)
  refine is_B (V := Int32.toInt) (is_Gt rfl) (fun x19 => ?_)
  refine is_B (V := Int32.toInt) (is_Gt rfl) (fun x20 => ?_)
  refine is_B (V := id1) (is_St rfl rfl) (fun _ => ?_)
  refine is_B (V := id1) ?_ (fun s21 => ?_)
  ·
    refine is_W (V := Int32.toInt) (W := id1) (fun s22 => ?_) tl_0
    refine is_B (V := Int32.toInt) (is_Gt rfl) (fun x23 => ?_)
    refine is_if (ti_le rfl rfl) ?_ ?_
    ·
      exact is_P (pinr rfl)
    ·
      refine is_B (V := Int32.toInt) (is_Ld rfl) (fun x24 => ?_)
      refine is_A (fun h5 => ?_)
      refine is_B (V := Int32.toInt) (is_Ld (ti_add rfl tl_1 h5)) (fun x25 => ?_)
      refine is_B (V := Int32.toInt) ?_ (fun s26 => ?_)
      ·
        refine is_E (V := id1) ?_ (fun s27 => ?_)
        ·
          refine is_A (fun h6 => ?_)
          refine is_if (ti_eq (ti_add rfl tl_1 h6) rfl) ?_ ?_
          ·
            exact is_P (pinl rfl)
          ·
            refine is_B (V := Int32.toInt) (is_Model_mayEnd rfl) (fun x28 => ?_)
            refine is_if (ti_eq rfl tl_0) ?_ ?_
            ·
              exact is_P (pinr tl_0)
            ·
              exact is_P (pinl rfl)
        ·
          exact is_P tl_1
      refine is_B (V := id1) (is_Sz rfl rfl) (fun _ => ?_)
      refine is_A (fun h7 => ?_)
      refine is_B (V := Int32.toInt) (is_P (ti_add rfl tl_1 h7)) (fun x29 => ?_)
      exact is_P (pinl rfl)
  refine is_B (V := id1) (is_Model_laysSums) (fun _ => ?_)
  exact is_P rfl
noncomputable def iz_Model_endOf (this : Nat) (p1 : Int) : iM Int :=
  iA (p1 + 1) fun y1 =>
  iB (iLd (qm_rf this 14) y1) fun x1 =>
  iP x1
set_option maxRecDepth 20000 in
set_option maxHeartbeats 2000000 in
theorem is_Model_endOf {this : Nat} {p1 : Int32} {p1' : Int} (qp1 : p1.toInt = p1') : iS (jf_Model_endOf this p1) (iz_Model_endOf this p1') Int32.toInt := by
  subst qp1
  unfold jf_Model_endOf iz_Model_endOf
  refine is_A (fun h1 => ?_)
  refine is_B (V := Int32.toInt) (is_Ld (ti_add rfl tl_1 h1)) (fun x1 => ?_)
  exact is_P rfl
noncomputable def iz_Model_isEnd (this : Nat) (p1 : Int) (p2 : Int) : iM Int :=
  iB (iLd (qm_rf this 14) p1) fun x1 =>
  if p2 = x1 then
    iP 1
  else
    iA (p2 - 1) fun y1 =>
    iB (iLd (qm_rf this 12) y1) fun x2 =>
    if x2 = 0 then
      iP 0
    else
      iP 1
set_option maxRecDepth 20000 in
set_option maxHeartbeats 2000000 in
theorem is_Model_isEnd {this : Nat} {p1 : Int32} {p1' : Int} {p2 : Int32} {p2' : Int} (qp1 : p1.toInt = p1') (qp2 : p2.toInt = p2') : iS (jf_Model_isEnd this p1 p2) (iz_Model_isEnd this p1' p2') Int32.toInt := by
  subst qp1 qp2
  unfold jf_Model_isEnd iz_Model_isEnd
  refine is_B (V := Int32.toInt) (is_Ld rfl) (fun x1 => ?_)
  refine is_if (ti_eq rfl rfl) ?_ ?_
  ·
    exact is_P tl_1
  ·
    refine is_A (fun h1 => ?_)
    refine is_B (V := Int32.toInt) (is_Ld (ti_sub rfl tl_1 h1)) (fun x2 => ?_)
    refine is_if (ti_eq rfl tl_0) ?_ ?_
    ·
      exact is_P tl_0
    ·
      exact is_P tl_1
noncomputable def iz_Model_textOf (this : Nat) (p1 : Int) (p2 : Int) : iM Int :=
  if ¬ p2 = p1 then
    iB (iLd (qm_rf this 7) p1) fun x1 =>
    iB (α := Int) (
      if x1 ≤ 0 then
        iP 0
      else
        iB (iLd (qm_rf this 6) p1) fun x3 =>
        iB (iz_Model_of this x3 3) fun x4 =>
        iP x4) fun s2 =>
    iB (iLd (qm_rf this 18) p2) fun x5 =>
    iB (iLd (qm_rf this 18) p1) fun x6 =>
    iB (iLd (qm_rf this 19) p2) fun x7 =>
    iA (p1 + 1) fun y1 =>
    iB (iLd (qm_rf this 19) y1) fun x8 =>
    iA (x5 - x6) fun y2 =>
    iA (y2 + x7) fun y3 =>
    iA (y3 - x8) fun y4 =>
    iA (y4 + s2) fun y5 =>
    iP y5
  else
    iP 0
set_option maxRecDepth 20000 in
set_option maxHeartbeats 2000000 in
theorem is_Model_textOf {this : Nat} {p1 : Int32} {p1' : Int} {p2 : Int32} {p2' : Int} (qp1 : p1.toInt = p1') (qp2 : p2.toInt = p2') : iS (jf_Model_textOf this p1 p2) (iz_Model_textOf this p1' p2') Int32.toInt := by
  subst qp1 qp2
  unfold jf_Model_textOf iz_Model_textOf
  refine is_if (ti_not (ti_eq rfl rfl)) ?_ ?_
  ·
    refine is_B (V := Int32.toInt) (is_Ld rfl) (fun x1 => ?_)
    refine is_B (V := Int32.toInt) ?_ (fun s2 => ?_)
    ·
      refine is_if (ti_le rfl tl_0) ?_ ?_
      ·
        exact is_P tl_0
      ·
        refine is_B (V := Int32.toInt) (is_Ld rfl) (fun x3 => ?_)
        refine is_B (V := Int32.toInt) (is_Model_of rfl tl_3) (fun x4 => ?_)
        exact is_P rfl
    refine is_B (V := Int32.toInt) (is_Ld rfl) (fun x5 => ?_)
    refine is_B (V := Int32.toInt) (is_Ld rfl) (fun x6 => ?_)
    refine is_B (V := Int32.toInt) (is_Ld rfl) (fun x7 => ?_)
    refine is_A (fun h1 => ?_)
    refine is_B (V := Int32.toInt) (is_Ld (ti_add rfl tl_1 h1)) (fun x8 => ?_)
    refine is_A (fun h2 => ?_)
    refine is_A (fun h3 => ?_)
    refine is_A (fun h4 => ?_)
    refine is_A (fun h5 => ?_)
    exact is_P (ti_add (ti_sub (ti_add (ti_sub rfl rfl h2) rfl h3) rfl h4) rfl h5)
  ·
    exact is_P tl_0
noncomputable def iz_Model_ownOf (this : Nat) (p1 : Int) (p2 : Int) : iM Int :=
  iB (iLd (qm_rf this 20) p2) fun x1 =>
  iB (iLd (qm_rf this 20) p1) fun x2 =>
  iA (x1 - x2) fun y1 =>
  iP y1
set_option maxRecDepth 20000 in
set_option maxHeartbeats 2000000 in
theorem is_Model_ownOf {this : Nat} {p1 : Int32} {p1' : Int} {p2 : Int32} {p2' : Int} (qp1 : p1.toInt = p1') (qp2 : p2.toInt = p2') : iS (jf_Model_ownOf this p1 p2) (iz_Model_ownOf this p1' p2') Int32.toInt := by
  subst qp1 qp2
  unfold jf_Model_ownOf iz_Model_ownOf
  refine is_B (V := Int32.toInt) (is_Ld rfl) (fun x1 => ?_)
  refine is_B (V := Int32.toInt) (is_Ld rfl) (fun x2 => ?_)
  refine is_A (fun h1 => ?_)
  exact is_P (ti_sub rfl rfl h1)
noncomputable def iz_Model_roomOf (this : Nat) (p1 : Int) (p2 : Int) (p3 : Int) : iM Int :=
  iB (iz_Model_textOf this p1 p2) fun x1 =>
  iB (iLd (qm_rf this 0) 6) fun x2 =>
  iA (p3 - x1) fun y1 =>
  iA (y1 - x2) fun y2 =>
  iB (iP y2) fun x3 =>
  if 0 ≤ x3 then
    iB (iLd (qm_rf this 0) 5) fun x4 =>
    iB (iDv x3 x4) fun x5 =>
    iP x5
  else
    iP 0
set_option maxRecDepth 20000 in
set_option maxHeartbeats 2000000 in
theorem is_Model_roomOf {this : Nat} {p1 : Int32} {p1' : Int} {p2 : Int32} {p2' : Int} {p3 : Int32} {p3' : Int} (qp1 : p1.toInt = p1') (qp2 : p2.toInt = p2') (qp3 : p3.toInt = p3') : iS (jf_Model_roomOf this p1 p2 p3) (iz_Model_roomOf this p1' p2' p3') Int32.toInt := by
  subst qp1 qp2 qp3
  unfold jf_Model_roomOf iz_Model_roomOf
  refine is_B (V := Int32.toInt) (is_Model_textOf rfl rfl) (fun x1 => ?_)
  refine is_B (V := Int32.toInt) (is_Ld tl_6) (fun x2 => ?_)
  refine is_A (fun h1 => ?_)
  refine is_A (fun h2 => ?_)
  refine is_B (V := Int32.toInt) (is_P (ti_sub (ti_sub rfl rfl h1) rfl h2)) (fun x3 => ?_)
  refine is_if (ti_le tl_0 rfl) ?_ ?_
  ·
    refine is_B (V := Int32.toInt) (is_Ld tl_5) (fun x4 => ?_)
    refine is_B (V := Int32.toInt) (is_Dv rfl rfl) (fun x5 => ?_)
    exact is_P rfl
  ·
    exact is_P tl_0
noncomputable def iz_Model_canEnd (this : Nat) (p1 : Int) (p2 : Int) (p3 : Int) (p4 : Int) : iM Int :=
  iB (iz_Model_ownOf this p1 p2) fun x1 =>
  iB (iz_Model_textOf this p1 p2) fun x2 =>
  iB (α := Int) (
    iA (x1 + p3) fun y1 =>
    if y1 ≤ 0 then
      iP 0
    else
      iB (iLd (qm_rf this 0) 6) fun x4 =>
      iP x4) fun s3 =>
  iA (x2 + s3) fun y2 =>
  if y2 ≤ p4 then
    iB (iz_Model_roomOf this p1 p2 p4) fun x5 =>
    if x1 ≤ 0 then
      if p3 = 0 then
        iP 1
      else
        if x5 < 1 then
          iP 0
        else
          iP 1
    else
      iB (iLd (qm_rf this 21) p2) fun x6 =>
      iA (p3 + x1) fun y3 =>
      iA (y3 - x6) fun y4 =>
      iA (y4 + 1) fun y5 =>
      if x5 < y5 then
        iP 0
      else
        iP 1
  else
    iP 0
set_option maxRecDepth 20000 in
set_option maxHeartbeats 2000000 in
theorem is_Model_canEnd {this : Nat} {p1 : Int32} {p1' : Int} {p2 : Int32} {p2' : Int} {p3 : Int32} {p3' : Int} {p4 : Int32} {p4' : Int} (qp1 : p1.toInt = p1') (qp2 : p2.toInt = p2') (qp3 : p3.toInt = p3') (qp4 : p4.toInt = p4') : iS (jf_Model_canEnd this p1 p2 p3 p4) (iz_Model_canEnd this p1' p2' p3' p4') Int32.toInt := by
  subst qp1 qp2 qp3 qp4
  unfold jf_Model_canEnd iz_Model_canEnd
  refine is_B (V := Int32.toInt) (is_Model_ownOf rfl rfl) (fun x1 => ?_)
  refine is_B (V := Int32.toInt) (is_Model_textOf rfl rfl) (fun x2 => ?_)
  refine is_B (V := Int32.toInt) ?_ (fun s3 => ?_)
  ·
    refine is_A (fun h1 => ?_)
    refine is_if (ti_le (ti_add rfl rfl h1) tl_0) ?_ ?_
    ·
      exact is_P tl_0
    ·
      refine is_B (V := Int32.toInt) (is_Ld tl_6) (fun x4 => ?_)
      exact is_P rfl
  refine is_A (fun h2 => ?_)
  refine is_if (ti_le (ti_add rfl rfl h2) rfl) ?_ ?_
  ·
    refine is_B (V := Int32.toInt) (is_Model_roomOf rfl rfl rfl) (fun x5 => ?_)
    refine is_if (ti_le rfl tl_0) ?_ ?_
    ·
      refine is_if (ti_eq rfl tl_0) ?_ ?_
      ·
        exact is_P tl_1
      ·
        refine is_if (ti_lt rfl tl_1) ?_ ?_
        ·
          exact is_P tl_0
        ·
          exact is_P tl_1
    ·
      refine is_B (V := Int32.toInt) (is_Ld rfl) (fun x6 => ?_)
      refine is_A (fun h3 => ?_)
      refine is_A (fun h4 => ?_)
      refine is_A (fun h5 => ?_)
      refine is_if (ti_lt rfl (ti_add (ti_sub (ti_add rfl rfl h3) rfl h4) tl_1 h5)) ?_ ?_
      ·
        exact is_P tl_0
      ·
        exact is_P tl_1
  ·
    exact is_P tl_0
noncomputable def iz_Model_standsOf (this : Nat) (p1 : Int) (p2 : Int) (p3 : Int) (p4 : Int) : iM Int :=
  iB (iz_Model_ownOf this p1 p2) fun x1 =>
  iA (x1 + p3) fun y1 =>
  iB (iP y1) fun x2 =>
  iB (α := Int) (
    if ¬ x2 = 0 then
      iB (iz_Model_roomOf this p1 p2 p4) fun x4 =>
      iP x4
    else
      iP 0) fun s3 =>
  if s3 ≤ x2 then
    iP s3
  else
    iP x2
set_option maxRecDepth 20000 in
set_option maxHeartbeats 2000000 in
theorem is_Model_standsOf {this : Nat} {p1 : Int32} {p1' : Int} {p2 : Int32} {p2' : Int} {p3 : Int32} {p3' : Int} {p4 : Int32} {p4' : Int} (qp1 : p1.toInt = p1') (qp2 : p2.toInt = p2') (qp3 : p3.toInt = p3') (qp4 : p4.toInt = p4') : iS (jf_Model_standsOf this p1 p2 p3 p4) (iz_Model_standsOf this p1' p2' p3' p4') Int32.toInt := by
  subst qp1 qp2 qp3 qp4
  unfold jf_Model_standsOf iz_Model_standsOf
  refine is_B (V := Int32.toInt) (is_Model_ownOf rfl rfl) (fun x1 => ?_)
  refine is_A (fun h1 => ?_)
  refine is_B (V := Int32.toInt) (is_P (ti_add rfl rfl h1)) (fun x2 => ?_)
  refine is_B (V := Int32.toInt) ?_ (fun s3 => ?_)
  ·
    refine is_if (ti_not (ti_eq rfl tl_0)) ?_ ?_
    ·
      refine is_B (V := Int32.toInt) (is_Model_roomOf rfl rfl rfl) (fun x4 => ?_)
      exact is_P rfl
    ·
      exact is_P tl_0
  refine is_if (ti_le rfl rfl) ?_ ?_
  ·
    exact is_P rfl
  ·
    exact is_P rfl
noncomputable def iz_Model_mostInto (this : Nat) (p1 : Int) (p2 : Int) (p3 : Int) (p4 : Int) : iM Int :=
  iB (iz_Model_ownOf this p1 p2) fun x1 =>
  iB (iz_Model_textOf this p1 p2) fun x2 =>
  iB (α := Int) (
    if x1 ≤ 0 then
      iP 0
    else
      iB (iLd (qm_rf this 0) 6) fun x4 =>
      iP x4) fun s3 =>
  iA (x2 + s3) fun y1 =>
  if y1 ≤ p4 then
    iB (iLd (qm_rf this 0) 6) fun x5 =>
    iB (α := Int) (
      iA (x2 + x5) fun y2 =>
      if y2 ≤ p4 then
        iB (iz_Model_roomOf this p1 p2 p4) fun x7 =>
        iP x7
      else
        iP 0) fun s6 =>
    if ¬ x1 = 0 then
      iB (iLd (qm_rf this 21) p2) fun x8 =>
      iA (s6 - x1) fun y3 =>
      iA (y3 + x8) fun y4 =>
      iA (y4 - 1) fun y5 =>
      iB (iP y5) fun x9 =>
      iA (s6 - x1) fun y6 =>
      iA (y6 + p3) fun y7 =>
      iB (iP y7) fun x10 =>
      if x10 ≤ x9 then
        iP x10
      else
        iP x9
    else
      if s6 < 1 then
        iP 0
      else
        iA (s6 + p3) fun y8 =>
        iP y8
  else
    iP (-1)
set_option maxRecDepth 20000 in
set_option maxHeartbeats 2000000 in
theorem is_Model_mostInto {this : Nat} {p1 : Int32} {p1' : Int} {p2 : Int32} {p2' : Int} {p3 : Int32} {p3' : Int} {p4 : Int32} {p4' : Int} (qp1 : p1.toInt = p1') (qp2 : p2.toInt = p2') (qp3 : p3.toInt = p3') (qp4 : p4.toInt = p4') : iS (jf_Model_mostInto this p1 p2 p3 p4) (iz_Model_mostInto this p1' p2' p3' p4') Int32.toInt := by
  subst qp1 qp2 qp3 qp4
  unfold jf_Model_mostInto iz_Model_mostInto
  refine is_B (V := Int32.toInt) (is_Model_ownOf rfl rfl) (fun x1 => ?_)
  refine is_B (V := Int32.toInt) (is_Model_textOf rfl rfl) (fun x2 => ?_)
  refine is_B (V := Int32.toInt) ?_ (fun s3 => ?_)
  ·
    refine is_if (ti_le rfl tl_0) ?_ ?_
    ·
      exact is_P tl_0
    ·
      refine is_B (V := Int32.toInt) (is_Ld tl_6) (fun x4 => ?_)
      exact is_P rfl
  refine is_A (fun h1 => ?_)
  refine is_if (ti_le (ti_add rfl rfl h1) rfl) ?_ ?_
  ·
    refine is_B (V := Int32.toInt) (is_Ld tl_6) (fun x5 => ?_)
    refine is_B (V := Int32.toInt) ?_ (fun s6 => ?_)
    ·
      refine is_A (fun h2 => ?_)
      refine is_if (ti_le (ti_add rfl rfl h2) rfl) ?_ ?_
      ·
        refine is_B (V := Int32.toInt) (is_Model_roomOf rfl rfl rfl) (fun x7 => ?_)
        exact is_P rfl
      ·
        exact is_P tl_0
    refine is_if (ti_not (ti_eq rfl tl_0)) ?_ ?_
    ·
      refine is_B (V := Int32.toInt) (is_Ld rfl) (fun x8 => ?_)
      refine is_A (fun h3 => ?_)
      refine is_A (fun h4 => ?_)
      refine is_A (fun h5 => ?_)
      refine is_B (V := Int32.toInt) (is_P (ti_sub (ti_add (ti_sub rfl rfl h3) rfl h4) tl_1 h5)) (fun x9 => ?_)
      refine is_A (fun h6 => ?_)
      refine is_A (fun h7 => ?_)
      refine is_B (V := Int32.toInt) (is_P (ti_add (ti_sub rfl rfl h6) rfl h7)) (fun x10 => ?_)
      refine is_if (ti_le rfl rfl) ?_ ?_
      ·
        exact is_P rfl
      ·
        exact is_P rfl
    ·
      refine is_if (ti_lt rfl tl_1) ?_ ?_
      ·
        exact is_P tl_0
      ·
        refine is_A (fun h8 => ?_)
        exact is_P (ti_add rfl rfl h8)
  ·
    exact is_P tl_m1
noncomputable def iz_Model_laysMay (this : Nat) (p1 : Int) (p2 : Int) (p3 : Int) : iM Unit :=
  iB (iz_Model_endOf this p1) fun x1 =>
  iB (α := Unit) (
    iW (S := Int) (α := Unit) (fun s3 =>
      iB (iLd (qm_rf this 0) 0) fun x4 =>
      if x4 < s3 then
        iP (Sum.inr ())
      else
        iB (α := Unit) (
          iW (S := Int) (α := Unit) (fun s6 =>
            if x1 < s6 then
              iP (Sum.inr ())
            else
              iB (α := Int) (
                iB (α := (Unit ⊕ Int)) (
                  if ¬ s3 = 0 then
                    iP (Sum.inl ())
                  else
                    if ¬ s6 = x1 then
                      iP (Sum.inl ())
                    else
                      iP (Sum.inr 0)) (Sum.elim (fun s8 =>
                  iP (-1)) iP)) fun s7 =>
              iB (α := Int) (
                iW (S := (Int × Int)) (α := Int) (fun s10 =>
                  if x1 < s10.2 then
                    iP (Sum.inr s10.1)
                  else
                    if s3 ≤ 0 then
                      iP (Sum.inr s10.1)
                    else
                      iA (s3 - 1) fun y1 =>
                      iA (92 * y1) fun y2 =>
                      iA (y2 + s10.2) fun y3 =>
                      iB (iLd (qm_rf this 22) y3) fun x11 =>
                      iB (α := Int) (
                        if x11 < 0 then
                          iP s10.1
                        else
                          iB (α := (Unit ⊕ Int)) (
                            if s10.2 ≤ s6 then
                              iP (Sum.inl ())
                            else
                              iB (iz_Model_isEnd this p1 s10.2) fun x14 =>
                              if ¬ x14 = 0 then
                                iP (Sum.inl ())
                              else
                                iP (Sum.inr s10.1)) (Sum.elim (fun s13 =>
                            iB (iz_Model_mostInto this s6 s10.2 x11 p3) fun x15 =>
                            iB (α := Int) (
                              if x15 ≤ s10.1 then
                                iP s10.1
                              else
                                iP x15) fun s16 =>
                            iP s16) iP)) fun s12 =>
                      iA (s10.2 + 1) fun y4 =>
                      iB (iP y4) fun x17 =>
                      iP (Sum.inl (s12, x17))) (s7, s6)) fun s9 =>
              iA (92 * s3) fun y5 =>
              iA (y5 + s6) fun y6 =>
              iB (iSt (qm_rf this 22) y6 s9) fun _ =>
              iA (s6 + 1) fun y7 =>
              iB (iP y7) fun x18 =>
              iP (Sum.inl x18)) p2) fun s5 =>
        iA (s3 + 1) fun y8 =>
        iB (iP y8) fun x19 =>
        iP (Sum.inl x19)) 0) fun s2 =>
  iP ()
set_option maxRecDepth 20000 in
set_option maxHeartbeats 2000000 in
theorem is_Model_laysMay {this : Nat} {p1 : Int32} {p1' : Int} {p2 : Int32} {p2' : Int} {p3 : Int32} {p3' : Int} (qp1 : p1.toInt = p1') (qp2 : p2.toInt = p2') (qp3 : p3.toInt = p3') : iS (jf_Model_laysMay this p1 p2 p3) (iz_Model_laysMay this p1' p2' p3') id1 := by
  subst qp1 qp2 qp3
  unfold jf_Model_laysMay iz_Model_laysMay
  refine is_B (V := Int32.toInt) (is_Model_endOf rfl) (fun x1 => ?_)
  refine is_B (V := id1) ?_ (fun s2 => ?_)
  ·
    refine is_W (V := Int32.toInt) (W := id1) (fun s3 => ?_) tl_0
    refine is_B (V := Int32.toInt) (is_Ld tl_0) (fun x4 => ?_)
    refine is_if (ti_lt rfl rfl) ?_ ?_
    ·
      exact is_P (pinr rfl)
    ·
      refine is_B (V := id1) ?_ (fun s5 => ?_)
      ·
        refine is_W (V := Int32.toInt) (W := id1) (fun s6 => ?_) rfl
        refine is_if (ti_lt rfl rfl) ?_ ?_
        ·
          exact is_P (pinr rfl)
        ·
          refine is_B (V := Int32.toInt) ?_ (fun s7 => ?_)
          ·
            refine is_E (V := id1) ?_ (fun s8 => ?_)
            ·
              refine is_if (ti_not (ti_eq rfl tl_0)) ?_ ?_
              ·
                exact is_P (pinl rfl)
              ·
                refine is_if (ti_not (ti_eq rfl rfl)) ?_ ?_
                ·
                  exact is_P (pinl rfl)
                ·
                  exact is_P (pinr tl_0)
            ·
              exact is_P tl_m1
          refine is_B (V := Int32.toInt) ?_ (fun s9 => ?_)
          ·
            refine is_W (V := (ip2 Int32.toInt Int32.toInt)) (W := Int32.toInt) (fun s10 => ?_) (ppair rfl rfl)
            refine is_if (ti_lt rfl rfl) ?_ ?_
            ·
              exact is_P (pinr rfl)
            ·
              refine is_if (ti_le rfl tl_0) ?_ ?_
              ·
                exact is_P (pinr rfl)
              ·
                refine is_A (fun h1 => ?_)
                refine is_A (fun h2 => ?_)
                refine is_A (fun h3 => ?_)
                refine is_B (V := Int32.toInt) (is_Ld (ti_add (ti_mul tl_92 (ti_sub rfl tl_1 h1) h2) rfl h3)) (fun x11 => ?_)
                refine is_B (V := Int32.toInt) ?_ (fun s12 => ?_)
                ·
                  refine is_if (ti_lt rfl tl_0) ?_ ?_
                  ·
                    exact is_P rfl
                  ·
                    refine is_E (V := id1) ?_ (fun s13 => ?_)
                    ·
                      refine is_if (ti_le rfl rfl) ?_ ?_
                      ·
                        exact is_P (pinl rfl)
                      ·
                        refine is_B (V := Int32.toInt) (is_Model_isEnd rfl rfl) (fun x14 => ?_)
                        refine is_if (ti_not (ti_eq rfl tl_0)) ?_ ?_
                        ·
                          exact is_P (pinl rfl)
                        ·
                          exact is_P (pinr rfl)
                    ·
                      refine is_B (V := Int32.toInt) (is_Model_mostInto rfl rfl rfl rfl) (fun x15 => ?_)
                      refine is_B (V := Int32.toInt) ?_ (fun s16 => ?_)
                      ·
                        refine is_if (ti_le rfl rfl) ?_ ?_
                        ·
                          exact is_P rfl
                        ·
                          exact is_P rfl
                      exact is_P rfl
                refine is_A (fun h4 => ?_)
                refine is_B (V := Int32.toInt) (is_P (ti_add rfl tl_1 h4)) (fun x17 => ?_)
                exact is_P (pinl (ppair rfl rfl))
          refine is_A (fun h5 => ?_)
          refine is_A (fun h6 => ?_)
          refine is_B (V := id1) (is_St (ti_add (ti_mul tl_92 rfl h5) rfl h6) rfl) (fun _ => ?_)
          refine is_A (fun h7 => ?_)
          refine is_B (V := Int32.toInt) (is_P (ti_add rfl tl_1 h7)) (fun x18 => ?_)
          exact is_P (pinl rfl)
      refine is_A (fun h8 => ?_)
      refine is_B (V := Int32.toInt) (is_P (ti_add rfl tl_1 h8)) (fun x19 => ?_)
      exact is_P (pinl rfl)
  exact is_P rfl
noncomputable def iz_Model_fitsFrom (this : Nat) (p1 : Int) (p2 : Int) (p3 : Int) (p4 : Int) : iM Int :=
  iB (iz_Model_laysMay this p1 p2 p4) fun _ =>
  iB (iLd (qm_rf this 0) 0) fun x1 =>
  iA (92 * x1) fun y1 =>
  iA (y1 + p2) fun y2 =>
  iB (iLd (qm_rf this 22) y2) fun x2 =>
  if x2 < p3 then
    iP 0
  else
    iP 1
set_option maxRecDepth 20000 in
set_option maxHeartbeats 2000000 in
theorem is_Model_fitsFrom {this : Nat} {p1 : Int32} {p1' : Int} {p2 : Int32} {p2' : Int} {p3 : Int32} {p3' : Int} {p4 : Int32} {p4' : Int} (qp1 : p1.toInt = p1') (qp2 : p2.toInt = p2') (qp3 : p3.toInt = p3') (qp4 : p4.toInt = p4') : iS (jf_Model_fitsFrom this p1 p2 p3 p4) (iz_Model_fitsFrom this p1' p2' p3' p4') Int32.toInt := by
  subst qp1 qp2 qp3 qp4
  unfold jf_Model_fitsFrom iz_Model_fitsFrom
  refine is_B (V := id1) (is_Model_laysMay rfl rfl rfl) (fun _ => ?_)
  refine is_B (V := Int32.toInt) (is_Ld tl_0) (fun x1 => ?_)
  refine is_A (fun h1 => ?_)
  refine is_A (fun h2 => ?_)
  refine is_B (V := Int32.toInt) (is_Ld (ti_add (ti_mul tl_92 rfl h1) rfl h2)) (fun x2 => ?_)
  refine is_if (ti_lt rfl rfl) ?_ ?_
  ·
    exact is_P tl_0
  ·
    exact is_P tl_1
noncomputable def iz_Model_leastFrom (this : Nat) (p1 : Int) (p2 : Int) (p3 : Int) (p4 : Int) : iM Int :=
  iB (α := Int) (
    iW (S := (Int × Int)) (α := Int) (fun s2 =>
      if s2.2 ≤ s2.1 then
        iP (Sum.inr s2.1)
      else
        iA (s2.1 + s2.2) fun y1 =>
        iB (iDv y1 2) fun x3 =>
        iB (iz_Model_fitsFrom this p1 p2 p3 x3) fun x4 =>
        iB (α := (Int × Int)) (
          if x4 = 0 then
            iA (x3 + 1) fun y2 =>
            iB (iP y2) fun x6 =>
            iP (x6, s2.2)
          else
            iP (s2.1, x3)) fun s5 =>
        iP (Sum.inl (s5.1, s5.2))) (0, p4)) fun s1 =>
  iP s1
set_option maxRecDepth 20000 in
set_option maxHeartbeats 2000000 in
theorem is_Model_leastFrom {this : Nat} {p1 : Int32} {p1' : Int} {p2 : Int32} {p2' : Int} {p3 : Int32} {p3' : Int} {p4 : Int32} {p4' : Int} (qp1 : p1.toInt = p1') (qp2 : p2.toInt = p2') (qp3 : p3.toInt = p3') (qp4 : p4.toInt = p4') : iS (jf_Model_leastFrom this p1 p2 p3 p4) (iz_Model_leastFrom this p1' p2' p3' p4') Int32.toInt := by
  subst qp1 qp2 qp3 qp4
  unfold jf_Model_leastFrom iz_Model_leastFrom
  refine is_B (V := Int32.toInt) ?_ (fun s1 => ?_)
  ·
    refine is_W (V := (ip2 Int32.toInt Int32.toInt)) (W := Int32.toInt) (fun s2 => ?_) (ppair tl_0 rfl)
    refine is_if (ti_le rfl rfl) ?_ ?_
    ·
      exact is_P (pinr rfl)
    ·
      refine is_A (fun h1 => ?_)
      refine is_B (V := Int32.toInt) (is_Dv (ti_add rfl rfl h1) tl_2) (fun x3 => ?_)
      refine is_B (V := Int32.toInt) (is_Model_fitsFrom rfl rfl rfl rfl) (fun x4 => ?_)
      refine is_B (V := (ip2 Int32.toInt Int32.toInt)) ?_ (fun s5 => ?_)
      ·
        refine is_if (ti_eq rfl tl_0) ?_ ?_
        ·
          refine is_A (fun h2 => ?_)
          refine is_B (V := Int32.toInt) (is_P (ti_add rfl tl_1 h2)) (fun x6 => ?_)
          exact is_P (ppair rfl rfl)
        ·
          exact is_P (ppair rfl rfl)
      exact is_P (pinl (ppair rfl rfl))
  exact is_P rfl
noncomputable def iz_Model_puts (this : Nat) (p1 : Int) (p2 : Int) (p3 : Int) (p4 : Int) (p5 : Int) : iM Unit :=
  iB (iGt this 32) fun x1 =>
  iB (iGt this 33) fun x2 =>
  iB (iSt (qm_rf this 23) x1 x2) fun _ =>
  iB (iSt (qm_rf this 24) x1 p2) fun _ =>
  iB (iSt (qm_rf this 25) x1 p1) fun _ =>
  iB (iGt this 36) fun x3 =>
  iB (iSt (qm_rf this 26) x1 x3) fun _ =>
  iB (iSt (qm_rf this 27) x1 p3) fun _ =>
  iB (iGt this 37) fun x4 =>
  iB (iSt (qm_rf this 28) x1 x4) fun _ =>
  iB (iLd (qm_rf this 0) 1) fun x5 =>
  iB (iGt this 34) fun x6 =>
  iA (x5 - x6) fun y1 =>
  iB (iSt (qm_rf this 29) x1 y1) fun _ =>
  iB (iSt (qm_rf this 30) x1 p4) fun _ =>
  iB (iSz (qm_rf this 31) x1 p5) fun _ =>
  iB (iGt this 37) fun x7 =>
  iB (iGt this 36) fun x8 =>
  iB (iz_Model_ownOf this x8 p3) fun x9 =>
  iB (iGt this 36) fun x10 =>
  iB (iGt this 37) fun x11 =>
  iB (iz_Model_standsOf this x10 p3 x11 p4) fun x12 =>
  iA (x9 - x12) fun y2 =>
  iA (x7 + y2) fun y3 =>
  iB (iPt this 37 y3) fun _ =>
  iB (iPt this 36 p3) fun _ =>
  iB (iGt this 32) fun x13 =>
  iA (x13 + 1) fun y4 =>
  iB (iPt this 32 y4) fun _ =>
  iP ()
set_option maxRecDepth 20000 in
set_option maxHeartbeats 2000000 in
theorem is_Model_puts {this : Nat} {p1 : Int32} {p1' : Int} {p2 : Int32} {p2' : Int} {p3 : Int32} {p3' : Int} {p4 : Int32} {p4' : Int} {p5 : Int32} {p5' : Int} (qp1 : p1.toInt = p1') (qp2 : p2.toInt = p2') (qp3 : p3.toInt = p3') (qp4 : p4.toInt = p4') (qp5 : p5.toInt = p5') : iS (jf_Model_puts this p1 p2 p3 p4 p5) (iz_Model_puts this p1' p2' p3' p4' p5') id1 := by
  subst qp1 qp2 qp3 qp4 qp5
  unfold jf_Model_puts iz_Model_puts
  refine is_B (V := Int32.toInt) (is_Gt rfl) (fun x1 => ?_)
  refine is_B (V := Int32.toInt) (is_Gt rfl) (fun x2 => ?_)
  refine is_B (V := id1) (is_St rfl rfl) (fun _ => ?_)
  refine is_B (V := id1) (is_St rfl rfl) (fun _ => ?_)
  refine is_B (V := id1) (is_St rfl rfl) (fun _ => ?_)
  refine is_B (V := Int32.toInt) (is_Gt rfl) (fun x3 => ?_)
  refine is_B (V := id1) (is_St rfl rfl) (fun _ => ?_)
  refine is_B (V := id1) (is_St rfl rfl) (fun _ => ?_)
  refine is_B (V := Int32.toInt) (is_Gt rfl) (fun x4 => ?_)
  refine is_B (V := id1) (is_St rfl rfl) (fun _ => ?_)
  refine is_B (V := Int32.toInt) (is_Ld tl_1) (fun x5 => ?_)
  refine is_B (V := Int32.toInt) (is_Gt rfl) (fun x6 => ?_)
  refine is_A (fun h1 => ?_)
  refine is_B (V := id1) (is_St rfl (ti_sub rfl rfl h1)) (fun _ => ?_)
  refine is_B (V := id1) (is_St rfl rfl) (fun _ => ?_)
  refine is_B (V := id1) (is_Sz rfl rfl) (fun _ => ?_)
  refine is_B (V := Int32.toInt) (is_Gt rfl) (fun x7 => ?_)
  refine is_B (V := Int32.toInt) (is_Gt rfl) (fun x8 => ?_)
  refine is_B (V := Int32.toInt) (is_Model_ownOf rfl rfl) (fun x9 => ?_)
  refine is_B (V := Int32.toInt) (is_Gt rfl) (fun x10 => ?_)
  refine is_B (V := Int32.toInt) (is_Gt rfl) (fun x11 => ?_)
  refine is_B (V := Int32.toInt) (is_Model_standsOf rfl rfl rfl rfl) (fun x12 => ?_)
  refine is_A (fun h2 => ?_)
  refine is_A (fun h3 => ?_)
  refine is_B (V := id1) (is_Pt rfl (ti_add rfl (ti_sub rfl rfl h2) h3)) (fun _ => ?_)
  refine is_B (V := id1) (is_Pt rfl rfl) (fun _ => ?_)
  refine is_B (V := Int32.toInt) (is_Gt rfl) (fun x13 => ?_)
  refine is_A (fun h4 => ?_)
  refine is_B (V := id1) (is_Pt rfl (ti_add rfl tl_1 h4)) (fun _ => ?_)
  exact is_P rfl
noncomputable def iz_Model_turnsPage (this : Nat) (p1 : Int) : iM Int :=
  iB (iGt this 33) fun x1 =>
  iA (x1 + 1) fun y1 =>
  iB (iPt this 33 y1) fun _ =>
  iB (iLd (qm_rf this 0) 1) fun x2 =>
  iB (iPt this 34 x2) fun _ =>
  iB (iGt this 33) fun x3 =>
  if 40 ≤ x3 then
    iB (iGt this 33) fun x4 =>
    iA (x4 - 1) fun y2 =>
    iB (iPt this 33 y2) fun _ =>
    iB (iPt this 35 p1) fun _ =>
    iP 0
  else
    iP 1
set_option maxRecDepth 20000 in
set_option maxHeartbeats 2000000 in
theorem is_Model_turnsPage {this : Nat} {p1 : Int32} {p1' : Int} (qp1 : p1.toInt = p1') : iS (jf_Model_turnsPage this p1) (iz_Model_turnsPage this p1') Int32.toInt := by
  subst qp1
  unfold jf_Model_turnsPage iz_Model_turnsPage
  refine is_B (V := Int32.toInt) (is_Gt rfl) (fun x1 => ?_)
  refine is_A (fun h1 => ?_)
  refine is_B (V := id1) (is_Pt rfl (ti_add rfl tl_1 h1)) (fun _ => ?_)
  refine is_B (V := Int32.toInt) (is_Ld tl_1) (fun x2 => ?_)
  refine is_B (V := id1) (is_Pt rfl rfl) (fun _ => ?_)
  refine is_B (V := Int32.toInt) (is_Gt rfl) (fun x3 => ?_)
  refine is_if (ti_le tl_40 rfl) ?_ ?_
  ·
    refine is_B (V := Int32.toInt) (is_Gt rfl) (fun x4 => ?_)
    refine is_A (fun h2 => ?_)
    refine is_B (V := id1) (is_Pt rfl (ti_sub rfl tl_1 h2)) (fun _ => ?_)
    refine is_B (V := id1) (is_Pt rfl rfl) (fun _ => ?_)
    exact is_P tl_0
  ·
    exact is_P tl_1
noncomputable def iz_Model_poursSpan (this : Nat) (p1 : Int) : iM Int :=
  iB (α := (Unit ⊕ Int)) (
    iW (S := Unit) (α := (Unit ⊕ Int)) (fun s2 =>
      iB (iLd (qm_rf this 15) p1) fun x3 =>
      iB (iLd (qm_rf this 0) 7) fun x4 =>
      iB (iGt this 34) fun x5 =>
      iA (x3 + x4) fun y1 =>
      if y1 ≤ x5 then
        iP (Sum.inr (Sum.inl ()))
      else
        iB (iGt this 34) fun x6 =>
        iB (iLd (qm_rf this 0) 1) fun x7 =>
        if x7 ≤ x6 then
          iP (Sum.inr (Sum.inl ()))
        else
          iB (iLd (qm_rf this 14) p1) fun x8 =>
          iB (iz_Model_turnsPage this x8) fun x9 =>
          if ¬ x9 = 0 then
            iP (Sum.inl ())
          else
            iP (Sum.inr (Sum.inr 0))) ()) (Sum.elim (fun s1 =>
    iB (iGt this 33) fun x10 =>
    iB (iSt (qm_rf this 38) p1 x10) fun _ =>
    iB (iLd (qm_rf this 0) 1) fun x11 =>
    iB (iGt this 34) fun x12 =>
    iA (x11 - x12) fun y2 =>
    iB (iSt (qm_rf this 39) p1 y2) fun _ =>
    iB (iGt this 34) fun x13 =>
    iB (iLd (qm_rf this 15) p1) fun x14 =>
    if x13 ≤ x14 then
      iB (iPt this 34 0) fun _ =>
      iP 1
    else
      iB (iGt this 34) fun x15 =>
      iB (iLd (qm_rf this 15) p1) fun x16 =>
      iA (x15 - x16) fun y3 =>
      iB (iPt this 34 y3) fun _ =>
      iP 1) iP)
set_option maxRecDepth 20000 in
set_option maxHeartbeats 2000000 in
theorem is_Model_poursSpan {this : Nat} {p1 : Int32} {p1' : Int} (qp1 : p1.toInt = p1') : iS (jf_Model_poursSpan this p1) (iz_Model_poursSpan this p1') Int32.toInt := by
  subst qp1
  unfold jf_Model_poursSpan iz_Model_poursSpan
  refine is_E (V := id1) ?_ (fun s1 => ?_)
  ·
    refine is_W (V := id1) (W := (is2 id1 Int32.toInt)) (fun s2 => ?_) rfl
    refine is_B (V := Int32.toInt) (is_Ld rfl) (fun x3 => ?_)
    refine is_B (V := Int32.toInt) (is_Ld tl_7) (fun x4 => ?_)
    refine is_B (V := Int32.toInt) (is_Gt rfl) (fun x5 => ?_)
    refine is_A (fun h1 => ?_)
    refine is_if (ti_le (ti_add rfl rfl h1) rfl) ?_ ?_
    ·
      exact is_P (pinr (pinl rfl))
    ·
      refine is_B (V := Int32.toInt) (is_Gt rfl) (fun x6 => ?_)
      refine is_B (V := Int32.toInt) (is_Ld tl_1) (fun x7 => ?_)
      refine is_if (ti_le rfl rfl) ?_ ?_
      ·
        exact is_P (pinr (pinl rfl))
      ·
        refine is_B (V := Int32.toInt) (is_Ld rfl) (fun x8 => ?_)
        refine is_B (V := Int32.toInt) (is_Model_turnsPage rfl) (fun x9 => ?_)
        refine is_if (ti_not (ti_eq rfl tl_0)) ?_ ?_
        ·
          exact is_P (pinl rfl)
        ·
          exact is_P (pinr (pinr tl_0))
  ·
    refine is_B (V := Int32.toInt) (is_Gt rfl) (fun x10 => ?_)
    refine is_B (V := id1) (is_St rfl rfl) (fun _ => ?_)
    refine is_B (V := Int32.toInt) (is_Ld tl_1) (fun x11 => ?_)
    refine is_B (V := Int32.toInt) (is_Gt rfl) (fun x12 => ?_)
    refine is_A (fun h2 => ?_)
    refine is_B (V := id1) (is_St rfl (ti_sub rfl rfl h2)) (fun _ => ?_)
    refine is_B (V := Int32.toInt) (is_Gt rfl) (fun x13 => ?_)
    refine is_B (V := Int32.toInt) (is_Ld rfl) (fun x14 => ?_)
    refine is_if (ti_le rfl rfl) ?_ ?_
    ·
      refine is_B (V := id1) (is_Pt rfl tl_0) (fun _ => ?_)
      exact is_P tl_1
    ·
      refine is_B (V := Int32.toInt) (is_Gt rfl) (fun x15 => ?_)
      refine is_B (V := Int32.toInt) (is_Ld rfl) (fun x16 => ?_)
      refine is_A (fun h3 => ?_)
      refine is_B (V := id1) (is_Pt rfl (ti_sub rfl rfl h3)) (fun _ => ?_)
      exact is_P tl_1
noncomputable def iz_Model_isGood (this : Nat) (p1 : Int) (p2 : Int) (p3 : Int) (p4 : Int) : iM Int :=
  iB (iGt this 36) fun x1 =>
  iB (α := (Unit ⊕ Int)) (
    if p2 ≤ x1 then
      iP (Sum.inl ())
    else
      iB (iz_Model_isEnd this p1 p2) fun x3 =>
      if x3 = 0 then
        iP (Sum.inr 0)
      else
        iP (Sum.inl ())) (Sum.elim (fun s2 =>
    iB (iGt this 36) fun x4 =>
    iB (iGt this 37) fun x5 =>
    iB (iz_Model_canEnd this x4 p2 x5 p4) fun x6 =>
    if ¬ x6 = 0 then
      iB (iGt this 37) fun x7 =>
      iB (iGt this 36) fun x8 =>
      iB (iz_Model_ownOf this x8 p2) fun x9 =>
      iB (iGt this 36) fun x10 =>
      iB (iGt this 37) fun x11 =>
      iB (iz_Model_standsOf this x10 p2 x11 p4) fun x12 =>
      iA (p3 + p2) fun y1 =>
      iB (iLd (qm_rf this 22) y1) fun x13 =>
      iA (x7 + x9) fun y2 =>
      iA (y2 - x12) fun y3 =>
      if x13 < y3 then
        iP 0
      else
        iP 1
    else
      iP 0) iP)
set_option maxRecDepth 20000 in
set_option maxHeartbeats 2000000 in
theorem is_Model_isGood {this : Nat} {p1 : Int32} {p1' : Int} {p2 : Int32} {p2' : Int} {p3 : Int32} {p3' : Int} {p4 : Int32} {p4' : Int} (qp1 : p1.toInt = p1') (qp2 : p2.toInt = p2') (qp3 : p3.toInt = p3') (qp4 : p4.toInt = p4') : iS (jf_Model_isGood this p1 p2 p3 p4) (iz_Model_isGood this p1' p2' p3' p4') Int32.toInt := by
  subst qp1 qp2 qp3 qp4
  unfold jf_Model_isGood iz_Model_isGood
  refine is_B (V := Int32.toInt) (is_Gt rfl) (fun x1 => ?_)
  refine is_E (V := id1) ?_ (fun s2 => ?_)
  ·
    refine is_if (ti_le rfl rfl) ?_ ?_
    ·
      exact is_P (pinl rfl)
    ·
      refine is_B (V := Int32.toInt) (is_Model_isEnd rfl rfl) (fun x3 => ?_)
      refine is_if (ti_eq rfl tl_0) ?_ ?_
      ·
        exact is_P (pinr tl_0)
      ·
        exact is_P (pinl rfl)
  ·
    refine is_B (V := Int32.toInt) (is_Gt rfl) (fun x4 => ?_)
    refine is_B (V := Int32.toInt) (is_Gt rfl) (fun x5 => ?_)
    refine is_B (V := Int32.toInt) (is_Model_canEnd rfl rfl rfl rfl) (fun x6 => ?_)
    refine is_if (ti_not (ti_eq rfl tl_0)) ?_ ?_
    ·
      refine is_B (V := Int32.toInt) (is_Gt rfl) (fun x7 => ?_)
      refine is_B (V := Int32.toInt) (is_Gt rfl) (fun x8 => ?_)
      refine is_B (V := Int32.toInt) (is_Model_ownOf rfl rfl) (fun x9 => ?_)
      refine is_B (V := Int32.toInt) (is_Gt rfl) (fun x10 => ?_)
      refine is_B (V := Int32.toInt) (is_Gt rfl) (fun x11 => ?_)
      refine is_B (V := Int32.toInt) (is_Model_standsOf rfl rfl rfl rfl) (fun x12 => ?_)
      refine is_A (fun h1 => ?_)
      refine is_B (V := Int32.toInt) (is_Ld (ti_add rfl rfl h1)) (fun x13 => ?_)
      refine is_A (fun h2 => ?_)
      refine is_A (fun h3 => ?_)
      refine is_if (ti_lt rfl (ti_sub (ti_add rfl rfl h2) rfl h3)) ?_ ?_
      ·
        exact is_P tl_0
      ·
        exact is_P tl_1
    ·
      exact is_P tl_0
noncomputable def iz_Model_levelsBy (this : Nat) (p1 : Int) (p2 : Int) : iM Unit :=
  iB (iGt this 36) fun x1 =>
  iB (iz_Model_laysMay this p1 x1 p2) fun _ =>
  iB (α := Unit) (
    iW (S := Int) (α := Unit) (fun s3 =>
      iB (iLd (qm_rf this 0) 0) fun x4 =>
      if x4 ≤ s3 then
        iP (Sum.inr ())
      else
        iB (iLd (qm_rf this 0) 0) fun x5 =>
        iA (x5 - 1) fun y1 =>
        iA (y1 - s3) fun y2 =>
        iA (92 * y2) fun y3 =>
        iB (iP y3) fun x6 =>
        iB (iz_Model_endOf this p1) fun x7 =>
        iB (α := Int) (
          iW (S := Int) (α := Int) (fun s9 =>
            iB (iz_Model_isGood this p1 s9 x6 p2) fun x10 =>
            if ¬ x10 = 0 then
              iP (Sum.inr s9)
            else
              iA (s9 + (-1)) fun y4 =>
              iB (iP y4) fun x11 =>
              iP (Sum.inl x11)) x7) fun s8 =>
        iB (iz_Model_puts this p1 s3 s8 p2 1) fun _ =>
        iA (s3 + 1) fun y5 =>
        iB (iP y5) fun x12 =>
        iP (Sum.inl x12)) 0) fun s2 =>
  iP ()
set_option maxRecDepth 20000 in
set_option maxHeartbeats 2000000 in
theorem is_Model_levelsBy {this : Nat} {p1 : Int32} {p1' : Int} {p2 : Int32} {p2' : Int} (qp1 : p1.toInt = p1') (qp2 : p2.toInt = p2') : iS (jf_Model_levelsBy this p1 p2) (iz_Model_levelsBy this p1' p2') id1 := by
  subst qp1 qp2
  unfold jf_Model_levelsBy iz_Model_levelsBy
  refine is_B (V := Int32.toInt) (is_Gt rfl) (fun x1 => ?_)
  refine is_B (V := id1) (is_Model_laysMay rfl rfl rfl) (fun _ => ?_)
  refine is_B (V := id1) ?_ (fun s2 => ?_)
  ·
    refine is_W (V := Int32.toInt) (W := id1) (fun s3 => ?_) tl_0
    refine is_B (V := Int32.toInt) (is_Ld tl_0) (fun x4 => ?_)
    refine is_if (ti_le rfl rfl) ?_ ?_
    ·
      exact is_P (pinr rfl)
    ·
      refine is_B (V := Int32.toInt) (is_Ld tl_0) (fun x5 => ?_)
      refine is_A (fun h1 => ?_)
      refine is_A (fun h2 => ?_)
      refine is_A (fun h3 => ?_)
      refine is_B (V := Int32.toInt) (is_P (ti_mul tl_92 (ti_sub (ti_sub rfl tl_1 h1) rfl h2) h3)) (fun x6 => ?_)
      refine is_B (V := Int32.toInt) (is_Model_endOf rfl) (fun x7 => ?_)
      refine is_B (V := Int32.toInt) ?_ (fun s8 => ?_)
      ·
        refine is_W (V := Int32.toInt) (W := Int32.toInt) (fun s9 => ?_) rfl
        refine is_B (V := Int32.toInt) (is_Model_isGood rfl rfl rfl rfl) (fun x10 => ?_)
        refine is_if (ti_not (ti_eq rfl tl_0)) ?_ ?_
        ·
          exact is_P (pinr rfl)
        ·
          refine is_A (fun h4 => ?_)
          refine is_B (V := Int32.toInt) (is_P (ti_add rfl tl_m1 h4)) (fun x11 => ?_)
          exact is_P (pinl rfl)
      refine is_B (V := id1) (is_Model_puts rfl rfl rfl rfl tl_1) (fun _ => ?_)
      refine is_A (fun h5 => ?_)
      refine is_B (V := Int32.toInt) (is_P (ti_add rfl tl_1 h5)) (fun x12 => ?_)
      exact is_P (pinl rfl)
  exact is_P rfl
noncomputable def iz_Model_levels (this : Nat) (p1 : Int) : iM Unit :=
  iB (iGt this 36) fun x1 =>
  iB (iGt this 37) fun x2 =>
  iB (iGt this 34) fun x3 =>
  iB (iz_Model_leastFrom this p1 x1 x2 x3) fun x4 =>
  iB (iz_Model_levelsBy this p1 x4) fun _ =>
  iB (iGt this 34) fun x5 =>
  iA (x5 - x4) fun y1 =>
  iB (iPt this 34 y1) fun _ =>
  iP ()
set_option maxRecDepth 20000 in
set_option maxHeartbeats 2000000 in
theorem is_Model_levels {this : Nat} {p1 : Int32} {p1' : Int} (qp1 : p1.toInt = p1') : iS (jf_Model_levels this p1) (iz_Model_levels this p1') id1 := by
  subst qp1
  unfold jf_Model_levels iz_Model_levels
  refine is_B (V := Int32.toInt) (is_Gt rfl) (fun x1 => ?_)
  refine is_B (V := Int32.toInt) (is_Gt rfl) (fun x2 => ?_)
  refine is_B (V := Int32.toInt) (is_Gt rfl) (fun x3 => ?_)
  refine is_B (V := Int32.toInt) (is_Model_leastFrom rfl rfl rfl rfl) (fun x4 => ?_)
  refine is_B (V := id1) (is_Model_levelsBy rfl rfl) (fun _ => ?_)
  refine is_B (V := Int32.toInt) (is_Gt rfl) (fun x5 => ?_)
  refine is_A (fun h1 => ?_)
  refine is_B (V := id1) (is_Pt rfl (ti_sub rfl rfl h1)) (fun _ => ?_)
  exact is_P rfl
noncomputable def iz_Model_fills (this : Nat) (p1 : Int) : iM Int :=
  iB (α := (Int ⊕ Int)) (
    iW (S := (Int × Int)) (α := (Int ⊕ Int)) (fun s2 =>
      iB (iLd (qm_rf this 0) 0) fun x3 =>
      if x3 ≤ s2.2 then
        iP (Sum.inr (Sum.inl s2.1))
      else
        iB (iz_Model_endOf this p1) fun x4 =>
        iB (α := Int) (
          iW (S := Int) (α := Int) (fun s6 =>
            iB (iGt this 36) fun x7 =>
            if s6 < x7 then
              iP (Sum.inr s6)
            else
              iB (iGt this 36) fun x8 =>
              iB (α := (Unit ⊕ (Int ⊕ Int))) (
                iB (α := (Unit ⊕ (Unit ⊕ (Int ⊕ Int)))) (
                  if s6 ≤ x8 then
                    iP (Sum.inl ())
                  else
                    iB (iz_Model_isEnd this p1 s6) fun x11 =>
                    if x11 = 0 then
                      iP (Sum.inr (Sum.inl ()))
                    else
                      iP (Sum.inl ())) (Sum.elim (fun s10 =>
                  iB (iGt this 36) fun x12 =>
                  iB (iGt this 37) fun x13 =>
                  iB (iGt this 34) fun x14 =>
                  iB (iz_Model_canEnd this x12 s6 x13 x14) fun x15 =>
                  if ¬ x15 = 0 then
                    iP (Sum.inr (Sum.inr s6))
                  else
                    iP (Sum.inl ())) iP)) (Sum.elim (fun s9 =>
                iA (s6 + (-1)) fun y1 =>
                iB (iP y1) fun x16 =>
                iP (Sum.inl x16)) iP)) x4) fun s5 =>
        iB (iGt this 36) fun x17 =>
        if x17 ≤ s5 then
          iB (α := Int) (
            iB (α := (Unit ⊕ Int)) (
              if ¬ s2.1 = 0 then
                iP (Sum.inl ())
              else
                iB (iGt this 36) fun x20 =>
                if x20 < s5 then
                  iP (Sum.inl ())
                else
                  iB (iGt this 36) fun x21 =>
                  iB (iGt this 37) fun x22 =>
                  iB (iGt this 34) fun x23 =>
                  iB (iz_Model_standsOf this x21 s5 x22 x23) fun x24 =>
                  if x24 ≤ 0 then
                    iP (Sum.inr 0)
                  else
                    iP (Sum.inl ())) (Sum.elim (fun s19 =>
              iP 1) iP)) fun s18 =>
          iB (iGt this 34) fun x25 =>
          iB (iz_Model_puts this p1 s2.2 s5 x25 0) fun _ =>
          iA (s2.2 + 1) fun y2 =>
          iB (iP y2) fun x26 =>
          iP (Sum.inl (s18, x26))
        else
          iP (Sum.inr (Sum.inr (-2)))) (0, 0)) (Sum.elim (fun s1 =>
    if s1 = 0 then
      iP 0
    else
      iP 1) iP)
set_option maxRecDepth 20000 in
set_option maxHeartbeats 2000000 in
theorem is_Model_fills {this : Nat} {p1 : Int32} {p1' : Int} (qp1 : p1.toInt = p1') : iS (jf_Model_fills this p1) (iz_Model_fills this p1') Int32.toInt := by
  subst qp1
  unfold jf_Model_fills iz_Model_fills
  refine is_E (V := Int32.toInt) ?_ (fun s1 => ?_)
  ·
    refine is_W (V := (ip2 Int32.toInt Int32.toInt)) (W := (is2 Int32.toInt Int32.toInt)) (fun s2 => ?_) (ppair tl_0 tl_0)
    refine is_B (V := Int32.toInt) (is_Ld tl_0) (fun x3 => ?_)
    refine is_if (ti_le rfl rfl) ?_ ?_
    ·
      exact is_P (pinr (pinl rfl))
    ·
      refine is_B (V := Int32.toInt) (is_Model_endOf rfl) (fun x4 => ?_)
      refine is_B (V := Int32.toInt) ?_ (fun s5 => ?_)
      ·
        refine is_W (V := Int32.toInt) (W := Int32.toInt) (fun s6 => ?_) rfl
        refine is_B (V := Int32.toInt) (is_Gt rfl) (fun x7 => ?_)
        refine is_if (ti_lt rfl rfl) ?_ ?_
        ·
          exact is_P (pinr rfl)
        ·
          refine is_B (V := Int32.toInt) (is_Gt rfl) (fun x8 => ?_)
          refine is_E (V := id1) ?_ (fun s9 => ?_)
          ·
            refine is_E (V := id1) ?_ (fun s10 => ?_)
            ·
              refine is_if (ti_le rfl rfl) ?_ ?_
              ·
                exact is_P (pinl rfl)
              ·
                refine is_B (V := Int32.toInt) (is_Model_isEnd rfl rfl) (fun x11 => ?_)
                refine is_if (ti_eq rfl tl_0) ?_ ?_
                ·
                  exact is_P (pinr (pinl rfl))
                ·
                  exact is_P (pinl rfl)
            ·
              refine is_B (V := Int32.toInt) (is_Gt rfl) (fun x12 => ?_)
              refine is_B (V := Int32.toInt) (is_Gt rfl) (fun x13 => ?_)
              refine is_B (V := Int32.toInt) (is_Gt rfl) (fun x14 => ?_)
              refine is_B (V := Int32.toInt) (is_Model_canEnd rfl rfl rfl rfl) (fun x15 => ?_)
              refine is_if (ti_not (ti_eq rfl tl_0)) ?_ ?_
              ·
                exact is_P (pinr (pinr rfl))
              ·
                exact is_P (pinl rfl)
          ·
            refine is_A (fun h1 => ?_)
            refine is_B (V := Int32.toInt) (is_P (ti_add rfl tl_m1 h1)) (fun x16 => ?_)
            exact is_P (pinl rfl)
      refine is_B (V := Int32.toInt) (is_Gt rfl) (fun x17 => ?_)
      refine is_if (ti_le rfl rfl) ?_ ?_
      ·
        refine is_B (V := Int32.toInt) ?_ (fun s18 => ?_)
        ·
          refine is_E (V := id1) ?_ (fun s19 => ?_)
          ·
            refine is_if (ti_not (ti_eq rfl tl_0)) ?_ ?_
            ·
              exact is_P (pinl rfl)
            ·
              refine is_B (V := Int32.toInt) (is_Gt rfl) (fun x20 => ?_)
              refine is_if (ti_lt rfl rfl) ?_ ?_
              ·
                exact is_P (pinl rfl)
              ·
                refine is_B (V := Int32.toInt) (is_Gt rfl) (fun x21 => ?_)
                refine is_B (V := Int32.toInt) (is_Gt rfl) (fun x22 => ?_)
                refine is_B (V := Int32.toInt) (is_Gt rfl) (fun x23 => ?_)
                refine is_B (V := Int32.toInt) (is_Model_standsOf rfl rfl rfl rfl) (fun x24 => ?_)
                refine is_if (ti_le rfl tl_0) ?_ ?_
                ·
                  exact is_P (pinr tl_0)
                ·
                  exact is_P (pinl rfl)
          ·
            exact is_P tl_1
        refine is_B (V := Int32.toInt) (is_Gt rfl) (fun x25 => ?_)
        refine is_B (V := id1) (is_Model_puts rfl rfl rfl rfl tl_0) (fun _ => ?_)
        refine is_A (fun h2 => ?_)
        refine is_B (V := Int32.toInt) (is_P (ti_add rfl tl_1 h2)) (fun x26 => ?_)
        exact is_P (pinl (ppair rfl rfl))
      ·
        exact is_P (pinr (pinr tl_m2))
  ·
    refine is_if (ti_eq rfl tl_0) ?_ ?_
    ·
      exact is_P tl_0
    ·
      exact is_P tl_1
noncomputable def iz_Model_poursSection (this : Nat) (p1 : Int) : iM Int :=
  iB (iLd (qm_rf this 14) p1) fun x1 =>
  iB (iPt this 36 x1) fun _ =>
  iB (iPt this 37 0) fun _ =>
  iB (iGt this 36) fun x2 =>
  iB (iz_Model_endOf this p1) fun x3 =>
  if ¬ x2 = x3 then
    iB (α := (Unit ⊕ Int)) (
      iW (S := Unit) (α := (Unit ⊕ Int)) (fun s5 =>
        iB (iGt this 36) fun x6 =>
        iB (iGt this 37) fun x7 =>
        iB (iGt this 34) fun x8 =>
        iB (iz_Model_fitsFrom this p1 x6 x7 x8) fun x9 =>
        if ¬ x9 = 0 then
          iP (Sum.inr (Sum.inl ()))
        else
          iB (iGt this 34) fun x10 =>
          iB (iLd (qm_rf this 0) 1) fun x11 =>
          iB (α := Int) (
            if ¬ x10 = x11 then
              iP 0
            else
              iP 1) fun s12 =>
          iB (iGt this 32) fun x13 =>
          iB (iGt this 36) fun x14 =>
          iB (iGt this 37) fun x15 =>
          iB (iz_Model_fills this p1) fun x16 =>
          iB (α := (Unit ⊕ (Unit ⊕ (Unit ⊕ Int)))) (
            if x16 = 1 then
              iP (Sum.inl ())
            else
              iB (iPt this 32 x13) fun _ =>
              iB (iPt this 36 x14) fun _ =>
              iB (iPt this 37 x15) fun _ =>
              if s12 = 0 then
                iP (Sum.inl ())
              else
                iB (iGt this 36) fun x18 =>
                iB (iPt this 35 x18) fun _ =>
                iP (Sum.inr (Sum.inr (Sum.inr 0)))) (Sum.elim (fun s17 =>
            iB (iGt this 36) fun x19 =>
            iB (iz_Model_turnsPage this x19) fun x20 =>
            if ¬ x20 = 0 then
              iP (Sum.inl ())
            else
              iP (Sum.inr (Sum.inr 0))) iP)) ()) (Sum.elim (fun s4 =>
      iB (iz_Model_levels this p1) fun _ =>
      iP 1) iP)
  else
    iP 1
set_option maxRecDepth 20000 in
set_option maxHeartbeats 2000000 in
theorem is_Model_poursSection {this : Nat} {p1 : Int32} {p1' : Int} (qp1 : p1.toInt = p1') : iS (jf_Model_poursSection this p1) (iz_Model_poursSection this p1') Int32.toInt := by
  subst qp1
  unfold jf_Model_poursSection iz_Model_poursSection
  refine is_B (V := Int32.toInt) (is_Ld rfl) (fun x1 => ?_)
  refine is_B (V := id1) (is_Pt rfl rfl) (fun _ => ?_)
  refine is_B (V := id1) (is_Pt rfl tl_0) (fun _ => ?_)
  refine is_B (V := Int32.toInt) (is_Gt rfl) (fun x2 => ?_)
  refine is_B (V := Int32.toInt) (is_Model_endOf rfl) (fun x3 => ?_)
  refine is_if (ti_not (ti_eq rfl rfl)) ?_ ?_
  ·
    refine is_E (V := id1) ?_ (fun s4 => ?_)
    ·
      refine is_W (V := id1) (W := (is2 id1 Int32.toInt)) (fun s5 => ?_) rfl
      refine is_B (V := Int32.toInt) (is_Gt rfl) (fun x6 => ?_)
      refine is_B (V := Int32.toInt) (is_Gt rfl) (fun x7 => ?_)
      refine is_B (V := Int32.toInt) (is_Gt rfl) (fun x8 => ?_)
      refine is_B (V := Int32.toInt) (is_Model_fitsFrom rfl rfl rfl rfl) (fun x9 => ?_)
      refine is_if (ti_not (ti_eq rfl tl_0)) ?_ ?_
      ·
        exact is_P (pinr (pinl rfl))
      ·
        refine is_B (V := Int32.toInt) (is_Gt rfl) (fun x10 => ?_)
        refine is_B (V := Int32.toInt) (is_Ld tl_1) (fun x11 => ?_)
        refine is_B (V := Int32.toInt) ?_ (fun s12 => ?_)
        ·
          refine is_if (ti_not (ti_eq rfl rfl)) ?_ ?_
          ·
            exact is_P tl_0
          ·
            exact is_P tl_1
        refine is_B (V := Int32.toInt) (is_Gt rfl) (fun x13 => ?_)
        refine is_B (V := Int32.toInt) (is_Gt rfl) (fun x14 => ?_)
        refine is_B (V := Int32.toInt) (is_Gt rfl) (fun x15 => ?_)
        refine is_B (V := Int32.toInt) (is_Model_fills rfl) (fun x16 => ?_)
        refine is_E (V := id1) ?_ (fun s17 => ?_)
        ·
          refine is_if (ti_eq rfl tl_1) ?_ ?_
          ·
            exact is_P (pinl rfl)
          ·
            refine is_B (V := id1) (is_Pt rfl rfl) (fun _ => ?_)
            refine is_B (V := id1) (is_Pt rfl rfl) (fun _ => ?_)
            refine is_B (V := id1) (is_Pt rfl rfl) (fun _ => ?_)
            refine is_if (ti_eq rfl tl_0) ?_ ?_
            ·
              exact is_P (pinl rfl)
            ·
              refine is_B (V := Int32.toInt) (is_Gt rfl) (fun x18 => ?_)
              refine is_B (V := id1) (is_Pt rfl rfl) (fun _ => ?_)
              exact is_P (pinr (pinr (pinr tl_0)))
        ·
          refine is_B (V := Int32.toInt) (is_Gt rfl) (fun x19 => ?_)
          refine is_B (V := Int32.toInt) (is_Model_turnsPage rfl) (fun x20 => ?_)
          refine is_if (ti_not (ti_eq rfl tl_0)) ?_ ?_
          ·
            exact is_P (pinl rfl)
          ·
            exact is_P (pinr (pinr tl_0))
    ·
      refine is_B (V := id1) (is_Model_levels rfl) (fun _ => ?_)
      exact is_P tl_1
  ·
    exact is_P tl_1
noncomputable def iz_Model_pours (this : Nat) : iM Int :=
  iB (iz_Model_lays this) fun _ =>
  iB (iPt this 32 0) fun _ =>
  iB (iPt this 33 0) fun _ =>
  iB (iPt this 35 (-1)) fun _ =>
  iB (iLd (qm_rf this 0) 1) fun x1 =>
  iB (iPt this 34 x1) fun _ =>
  iB (α := Unit) (
    iW (S := Int) (α := Unit) (fun s3 =>
      iB (iGt this 16) fun x4 =>
      if x4 ≤ s3 then
        iP (Sum.inr ())
      else
        iB (iSt (qm_rf this 38) s3 (-1)) fun _ =>
        iA (s3 + 1) fun y1 =>
        iB (iP y1) fun x5 =>
        iP (Sum.inl x5)) 0) fun s2 =>
  iB (α := (Unit ⊕ Int)) (
    iW (S := Int) (α := (Unit ⊕ Int)) (fun s7 =>
      iB (iGt this 16) fun x8 =>
      if x8 ≤ s7 then
        iP (Sum.inr (Sum.inl ()))
      else
        iB (α := (Unit ⊕ (Int ⊕ (Unit ⊕ Int)))) (
          if s7 ≤ 0 then
            iP (Sum.inl ())
          else
            iB (iz_Model_poursSpan this s7) fun x10 =>
            if ¬ x10 = 0 then
              iP (Sum.inl ())
            else
              iB (iGt this 35) fun x11 =>
              iA ((-2) - x11) fun y2 =>
              iP (Sum.inr (Sum.inr (Sum.inr y2)))) (Sum.elim (fun s9 =>
          iB (iz_Model_poursSection this s7) fun x12 =>
          if ¬ x12 = 0 then
            iA (s7 + 1) fun y3 =>
            iB (iP y3) fun x13 =>
            iP (Sum.inl x13)
          else
            iB (iGt this 35) fun x14 =>
            iA ((-2) - x14) fun y4 =>
            iP (Sum.inr (Sum.inr y4))) iP)) 0) (Sum.elim (fun s6 =>
    iB (iz_Model_blocks this) fun x15 =>
    if ¬ x15 = 0 then
      iB (iGt this 33) fun x16 =>
      iA (x16 + 1) fun y5 =>
      iP y5
    else
      iP 0) iP)
set_option maxRecDepth 20000 in
set_option maxHeartbeats 2000000 in
theorem is_Model_pours {this : Nat} : iS (jf_Model_pours this) (iz_Model_pours this) Int32.toInt := by
  unfold jf_Model_pours iz_Model_pours
  refine is_B (V := id1) (is_Model_lays) (fun _ => ?_)
  refine is_B (V := id1) (is_Pt rfl tl_0) (fun _ => ?_)
  refine is_B (V := id1) (is_Pt rfl tl_0) (fun _ => ?_)
  refine is_B (V := id1) (is_Pt rfl tl_m1) (fun _ => ?_)
  refine is_B (V := Int32.toInt) (is_Ld tl_1) (fun x1 => ?_)
  refine is_B (V := id1) (is_Pt rfl rfl) (fun _ => ?_)
  refine is_B (V := id1) ?_ (fun s2 => ?_)
  ·
    refine is_W (V := Int32.toInt) (W := id1) (fun s3 => ?_) tl_0
    refine is_B (V := Int32.toInt) (is_Gt rfl) (fun x4 => ?_)
    refine is_if (ti_le rfl rfl) ?_ ?_
    ·
      exact is_P (pinr rfl)
    ·
      refine is_B (V := id1) (is_St rfl tl_m1) (fun _ => ?_)
      refine is_A (fun h1 => ?_)
      refine is_B (V := Int32.toInt) (is_P (ti_add rfl tl_1 h1)) (fun x5 => ?_)
      exact is_P (pinl rfl)
  refine is_E (V := id1) ?_ (fun s6 => ?_)
  ·
    refine is_W (V := Int32.toInt) (W := (is2 id1 Int32.toInt)) (fun s7 => ?_) tl_0
    refine is_B (V := Int32.toInt) (is_Gt rfl) (fun x8 => ?_)
    refine is_if (ti_le rfl rfl) ?_ ?_
    ·
      exact is_P (pinr (pinl rfl))
    ·
      refine is_E (V := id1) ?_ (fun s9 => ?_)
      ·
        refine is_if (ti_le rfl tl_0) ?_ ?_
        ·
          exact is_P (pinl rfl)
        ·
          refine is_B (V := Int32.toInt) (is_Model_poursSpan rfl) (fun x10 => ?_)
          refine is_if (ti_not (ti_eq rfl tl_0)) ?_ ?_
          ·
            exact is_P (pinl rfl)
          ·
            refine is_B (V := Int32.toInt) (is_Gt rfl) (fun x11 => ?_)
            refine is_A (fun h2 => ?_)
            exact is_P (pinr (pinr (pinr (ti_sub tl_m2 rfl h2))))
      ·
        refine is_B (V := Int32.toInt) (is_Model_poursSection rfl) (fun x12 => ?_)
        refine is_if (ti_not (ti_eq rfl tl_0)) ?_ ?_
        ·
          refine is_A (fun h3 => ?_)
          refine is_B (V := Int32.toInt) (is_P (ti_add rfl tl_1 h3)) (fun x13 => ?_)
          exact is_P (pinl rfl)
        ·
          refine is_B (V := Int32.toInt) (is_Gt rfl) (fun x14 => ?_)
          refine is_A (fun h4 => ?_)
          exact is_P (pinr (pinr (ti_sub tl_m2 rfl h4)))
  ·
    refine is_B (V := Int32.toInt) (is_Model_blocks) (fun x15 => ?_)
    refine is_if (ti_not (ti_eq rfl tl_0)) ?_ ?_
    ·
      refine is_B (V := Int32.toInt) (is_Gt rfl) (fun x16 => ?_)
      refine is_A (fun h5 => ?_)
      exact is_P (ti_add rfl tl_1 h5)
    ·
      exact is_P tl_0
noncomputable def iz_Model_pour (this : Nat) : iM Int :=
  iB (iz_Model_pours this) fun x1 =>
  iP x1
set_option maxRecDepth 20000 in
set_option maxHeartbeats 2000000 in
theorem is_Model_pour {this : Nat} : iS (jf_Model_pour this) (iz_Model_pour this) Int32.toInt := by
  unfold jf_Model_pour iz_Model_pour
  refine is_B (V := Int32.toInt) (is_Model_pours) (fun x1 => ?_)
  exact is_P rfl
noncomputable def iz_Model_isNoted (this : Nat) (p1 : Int) : iM Int :=
  iB (iLd (qm_rf this 26) p1) fun x1 =>
  iB (iLd (qm_rf this 27) p1) fun x2 =>
  iB (iz_Model_ownOf this x1 x2) fun x3 =>
  iB (iLd (qm_rf this 28) p1) fun x4 =>
  iA (x3 + x4) fun y1 =>
  if y1 ≤ 0 then
    iP 0
  else
    iP 1
set_option maxRecDepth 20000 in
set_option maxHeartbeats 2000000 in
theorem is_Model_isNoted {this : Nat} {p1 : Int32} {p1' : Int} (qp1 : p1.toInt = p1') : iS (jf_Model_isNoted this p1) (iz_Model_isNoted this p1') Int32.toInt := by
  subst qp1
  unfold jf_Model_isNoted iz_Model_isNoted
  refine is_B (V := Int32.toInt) (is_Ld rfl) (fun x1 => ?_)
  refine is_B (V := Int32.toInt) (is_Ld rfl) (fun x2 => ?_)
  refine is_B (V := Int32.toInt) (is_Model_ownOf rfl rfl) (fun x3 => ?_)
  refine is_B (V := Int32.toInt) (is_Ld rfl) (fun x4 => ?_)
  refine is_A (fun h1 => ?_)
  refine is_if (ti_le (ti_add rfl rfl h1) tl_0) ?_ ?_
  ·
    exact is_P tl_0
  ·
    exact is_P tl_1
noncomputable def iz_Model_linesIn (this : Nat) (p1 : Int) : iM Int :=
  iB (iLd (qm_rf this 26) p1) fun x1 =>
  iB (iLd (qm_rf this 27) p1) fun x2 =>
  iB (iLd (qm_rf this 28) p1) fun x3 =>
  iB (iLd (qm_rf this 30) p1) fun x4 =>
  iB (iz_Model_standsOf this x1 x2 x3 x4) fun x5 =>
  iP x5
set_option maxRecDepth 20000 in
set_option maxHeartbeats 2000000 in
theorem is_Model_linesIn {this : Nat} {p1 : Int32} {p1' : Int} (qp1 : p1.toInt = p1') : iS (jf_Model_linesIn this p1) (iz_Model_linesIn this p1') Int32.toInt := by
  subst qp1
  unfold jf_Model_linesIn iz_Model_linesIn
  refine is_B (V := Int32.toInt) (is_Ld rfl) (fun x1 => ?_)
  refine is_B (V := Int32.toInt) (is_Ld rfl) (fun x2 => ?_)
  refine is_B (V := Int32.toInt) (is_Ld rfl) (fun x3 => ?_)
  refine is_B (V := Int32.toInt) (is_Ld rfl) (fun x4 => ?_)
  refine is_B (V := Int32.toInt) (is_Model_standsOf rfl rfl rfl rfl) (fun x5 => ?_)
  exact is_P rfl
noncomputable def iz_Model_column (this : Nat) (p1 : Int) (p2 : Int) : iM Int :=
  iB (iz_Model_pours this) fun x1 =>
  iB (α := (Unit ⊕ Int)) (
    if ¬ p1 = (-1) then
      iP (Sum.inl ())
    else
      if ¬ p2 = 0 then
        iP (Sum.inl ())
      else
        iB (iGt this 32) fun x3 =>
        iP (Sum.inr x3)) (Sum.elim (fun s2 =>
    iB (iGt this 32) fun x4 =>
    iA (x4 - 1) fun y1 =>
    iB (iz_Model_in p1 0 y1) fun x5 =>
    if ¬ x5 = 0 then
      if p2 = 0 then
        iB (iLd (qm_rf this 23) p1) fun x6 =>
        iP x6
      else
        if p2 = 1 then
          iB (iLd (qm_rf this 24) p1) fun x7 =>
          iP x7
        else
          if p2 = 2 then
            iB (iLd (qm_rf this 25) p1) fun x8 =>
            iP x8
          else
            if p2 = 3 then
              iB (iLd (qm_rf this 26) p1) fun x9 =>
              iP x9
            else
              if p2 = 4 then
                iB (iLd (qm_rf this 27) p1) fun x10 =>
                iP x10
              else
                if p2 = 5 then
                  iB (iLd (qm_rf this 26) p1) fun x11 =>
                  iB (iLd (qm_rf this 27) p1) fun x12 =>
                  iB (iz_Model_textOf this x11 x12) fun x13 =>
                  iP x13
                else
                  if p2 = 6 then
                    iB (iLd (qm_rf this 28) p1) fun x14 =>
                    iP x14
                  else
                    if p2 = 7 then
                      iB (iLd (qm_rf this 26) p1) fun x15 =>
                      iB (iLd (qm_rf this 27) p1) fun x16 =>
                      iB (iz_Model_ownOf this x15 x16) fun x17 =>
                      iP x17
                    else
                      if p2 = 8 then
                        iB (iz_Model_linesIn this p1) fun x18 =>
                        iP x18
                      else
                        if p2 = 9 then
                          iB (iLd (qm_rf this 29) p1) fun x19 =>
                          iP x19
                        else
                          if p2 = 10 then
                            iB (iLd (qm_rf this 30) p1) fun x20 =>
                            iP x20
                          else
                            if p2 = 11 then
                              iB (iLd (qm_rf this 31) p1) fun x21 =>
                              if x21 = 0 then
                                iP 0
                              else
                                iP 1
                            else
                              iP (-1)
    else
      iP (-1)) iP)
set_option maxRecDepth 20000 in
set_option maxHeartbeats 2000000 in
theorem is_Model_column {this : Nat} {p1 : Int32} {p1' : Int} {p2 : Int32} {p2' : Int} (qp1 : p1.toInt = p1') (qp2 : p2.toInt = p2') : iS (jf_Model_column this p1 p2) (iz_Model_column this p1' p2') Int32.toInt := by
  subst qp1 qp2
  unfold jf_Model_column iz_Model_column
  refine is_B (V := Int32.toInt) (is_Model_pours) (fun x1 => ?_)
  refine is_E (V := id1) ?_ (fun s2 => ?_)
  ·
    refine is_if (ti_not (ti_eq rfl tl_m1)) ?_ ?_
    ·
      exact is_P (pinl rfl)
    ·
      refine is_if (ti_not (ti_eq rfl tl_0)) ?_ ?_
      ·
        exact is_P (pinl rfl)
      ·
        refine is_B (V := Int32.toInt) (is_Gt rfl) (fun x3 => ?_)
        exact is_P (pinr rfl)
  ·
    refine is_B (V := Int32.toInt) (is_Gt rfl) (fun x4 => ?_)
    refine is_A (fun h1 => ?_)
    refine is_B (V := Int32.toInt) (is_Model_in (ti_64 rfl) t64_0 (ti_64 (ti_sub rfl tl_1 h1))) (fun x5 => ?_)
    refine is_if (ti_not (ti_eq rfl tl_0)) ?_ ?_
    ·
      refine is_if (ti_eq rfl tl_0) ?_ ?_
      ·
        refine is_B (V := Int32.toInt) (is_Ld rfl) (fun x6 => ?_)
        exact is_P rfl
      ·
        refine is_if (ti_eq rfl tl_1) ?_ ?_
        ·
          refine is_B (V := Int32.toInt) (is_Ld rfl) (fun x7 => ?_)
          exact is_P rfl
        ·
          refine is_if (ti_eq rfl tl_2) ?_ ?_
          ·
            refine is_B (V := Int32.toInt) (is_Ld rfl) (fun x8 => ?_)
            exact is_P rfl
          ·
            refine is_if (ti_eq rfl tl_3) ?_ ?_
            ·
              refine is_B (V := Int32.toInt) (is_Ld rfl) (fun x9 => ?_)
              exact is_P rfl
            ·
              refine is_if (ti_eq rfl tl_4) ?_ ?_
              ·
                refine is_B (V := Int32.toInt) (is_Ld rfl) (fun x10 => ?_)
                exact is_P rfl
              ·
                refine is_if (ti_eq rfl tl_5) ?_ ?_
                ·
                  refine is_B (V := Int32.toInt) (is_Ld rfl) (fun x11 => ?_)
                  refine is_B (V := Int32.toInt) (is_Ld rfl) (fun x12 => ?_)
                  refine is_B (V := Int32.toInt) (is_Model_textOf rfl rfl) (fun x13 => ?_)
                  exact is_P rfl
                ·
                  refine is_if (ti_eq rfl tl_6) ?_ ?_
                  ·
                    refine is_B (V := Int32.toInt) (is_Ld rfl) (fun x14 => ?_)
                    exact is_P rfl
                  ·
                    refine is_if (ti_eq rfl tl_7) ?_ ?_
                    ·
                      refine is_B (V := Int32.toInt) (is_Ld rfl) (fun x15 => ?_)
                      refine is_B (V := Int32.toInt) (is_Ld rfl) (fun x16 => ?_)
                      refine is_B (V := Int32.toInt) (is_Model_ownOf rfl rfl) (fun x17 => ?_)
                      exact is_P rfl
                    ·
                      refine is_if (ti_eq rfl tl_8) ?_ ?_
                      ·
                        refine is_B (V := Int32.toInt) (is_Model_linesIn rfl) (fun x18 => ?_)
                        exact is_P rfl
                      ·
                        refine is_if (ti_eq rfl tl_9) ?_ ?_
                        ·
                          refine is_B (V := Int32.toInt) (is_Ld rfl) (fun x19 => ?_)
                          exact is_P rfl
                        ·
                          refine is_if (ti_eq rfl tl_10) ?_ ?_
                          ·
                            refine is_B (V := Int32.toInt) (is_Ld rfl) (fun x20 => ?_)
                            exact is_P rfl
                          ·
                            refine is_if (ti_eq rfl tl_11) ?_ ?_
                            ·
                              refine is_B (V := Int32.toInt) (is_Ld rfl) (fun x21 => ?_)
                              refine is_if (ti_eq rfl tl_0) ?_ ?_
                              ·
                                exact is_P tl_0
                              ·
                                exact is_P tl_1
                            ·
                              exact is_P tl_m1
    ·
      exact is_P tl_m1
noncomputable def iz_Model_columnOf (this : Nat) (p1 : Int) : iM Int :=
  iB (α := (Unit ⊕ Int)) (
    iW (S := Int) (α := (Unit ⊕ Int)) (fun s2 =>
      iB (iGt this 32) fun x3 =>
      if x3 ≤ s2 then
        iP (Sum.inr (Sum.inl ()))
      else
        iB (iLd (qm_rf this 26) s2) fun x4 =>
        iB (iLd (qm_rf this 27) s2) fun x5 =>
        iA (x5 - 1) fun y1 =>
        iB (iz_Model_in p1 x4 y1) fun x6 =>
        if x6 = 0 then
          iA (s2 + 1) fun y2 =>
          iB (iP y2) fun x7 =>
          iP (Sum.inl x7)
        else
          iP (Sum.inr (Sum.inr s2))) 0) (Sum.elim (fun s1 =>
    iP (-1)) iP)
set_option maxRecDepth 20000 in
set_option maxHeartbeats 2000000 in
theorem is_Model_columnOf {this : Nat} {p1 : Int32} {p1' : Int} (qp1 : p1.toInt = p1') : iS (jf_Model_columnOf this p1) (iz_Model_columnOf this p1') Int32.toInt := by
  subst qp1
  unfold jf_Model_columnOf iz_Model_columnOf
  refine is_E (V := id1) ?_ (fun s1 => ?_)
  ·
    refine is_W (V := Int32.toInt) (W := (is2 id1 Int32.toInt)) (fun s2 => ?_) tl_0
    refine is_B (V := Int32.toInt) (is_Gt rfl) (fun x3 => ?_)
    refine is_if (ti_le rfl rfl) ?_ ?_
    ·
      exact is_P (pinr (pinl rfl))
    ·
      refine is_B (V := Int32.toInt) (is_Ld rfl) (fun x4 => ?_)
      refine is_B (V := Int32.toInt) (is_Ld rfl) (fun x5 => ?_)
      refine is_A (fun h1 => ?_)
      refine is_B (V := Int32.toInt) (is_Model_in (ti_64 rfl) (ti_64 rfl) (ti_64 (ti_sub rfl tl_1 h1))) (fun x6 => ?_)
      refine is_if (ti_eq rfl tl_0) ?_ ?_
      ·
        refine is_A (fun h2 => ?_)
        refine is_B (V := Int32.toInt) (is_P (ti_add rfl tl_1 h2)) (fun x7 => ?_)
        exact is_P (pinl rfl)
      ·
        exact is_P (pinr (pinr rfl))
  ·
    exact is_P tl_m1
noncomputable def iz_Model_where (this : Nat) (p1 : Int) (p2 : Int) : iM Int :=
  iB (iz_Model_pours this) fun x1 =>
  iB (iGt this 13) fun x2 =>
  iA (x2 - 1) fun y1 =>
  iB (iz_Model_in p1 0 y1) fun x3 =>
  if x3 = 0 then
    iP (-1)
  else
    iB (iz_Model_in p2 0 2) fun x4 =>
    if ¬ x4 = 0 then
      iB (iz_Model_columnOf this p1) fun x5 =>
      if ¬ x5 = (-1) then
        if 2 ≤ p2 then
          iB (iLd (qm_rf this 26) x5) fun x6 =>
          if ¬ p1 = x6 then
            iB (iz_Model_textOf this x6 p1) fun x7 =>
            iB (iLd (qm_rf this 9) p1) fun x8 =>
            iA (x7 + x8) fun y2 =>
            iP y2
          else
            iA (x6 + 1) fun y3 =>
            iB (iz_Model_textOf this x6 y3) fun x9 =>
            iB (iLd (qm_rf this 8) x6) fun x10 =>
            iA (x9 - x10) fun y4 =>
            iP y4
        else
          if ¬ p2 = 0 then
            iP x5
          else
            iB (iLd (qm_rf this 23) x5) fun x11 =>
            iP x11
      else
        iP (-2)
    else
      iP (-1)
set_option maxRecDepth 20000 in
set_option maxHeartbeats 2000000 in
theorem is_Model_where {this : Nat} {p1 : Int32} {p1' : Int} {p2 : Int32} {p2' : Int} (qp1 : p1.toInt = p1') (qp2 : p2.toInt = p2') : iS (jf_Model_where this p1 p2) (iz_Model_where this p1' p2') Int32.toInt := by
  subst qp1 qp2
  unfold jf_Model_where iz_Model_where
  refine is_B (V := Int32.toInt) (is_Model_pours) (fun x1 => ?_)
  refine is_B (V := Int32.toInt) (is_Gt rfl) (fun x2 => ?_)
  refine is_A (fun h1 => ?_)
  refine is_B (V := Int32.toInt) (is_Model_in (ti_64 rfl) t64_0 (ti_64 (ti_sub rfl tl_1 h1))) (fun x3 => ?_)
  refine is_if (ti_eq rfl tl_0) ?_ ?_
  ·
    exact is_P tl_m1
  ·
    refine is_B (V := Int32.toInt) (is_Model_in (ti_64 rfl) t64_0 t64_2) (fun x4 => ?_)
    refine is_if (ti_not (ti_eq rfl tl_0)) ?_ ?_
    ·
      refine is_B (V := Int32.toInt) (is_Model_columnOf rfl) (fun x5 => ?_)
      refine is_if (ti_not (ti_eq rfl tl_m1)) ?_ ?_
      ·
        refine is_if (ti_le tl_2 rfl) ?_ ?_
        ·
          refine is_B (V := Int32.toInt) (is_Ld rfl) (fun x6 => ?_)
          refine is_if (ti_not (ti_eq rfl rfl)) ?_ ?_
          ·
            refine is_B (V := Int32.toInt) (is_Model_textOf rfl rfl) (fun x7 => ?_)
            refine is_B (V := Int32.toInt) (is_Ld rfl) (fun x8 => ?_)
            refine is_A (fun h2 => ?_)
            exact is_P (ti_add rfl rfl h2)
          ·
            refine is_A (fun h3 => ?_)
            refine is_B (V := Int32.toInt) (is_Model_textOf rfl (ti_add rfl tl_1 h3)) (fun x9 => ?_)
            refine is_B (V := Int32.toInt) (is_Ld rfl) (fun x10 => ?_)
            refine is_A (fun h4 => ?_)
            exact is_P (ti_sub rfl rfl h4)
        ·
          refine is_if (ti_not (ti_eq rfl tl_0)) ?_ ?_
          ·
            exact is_P rfl
          ·
            refine is_B (V := Int32.toInt) (is_Ld rfl) (fun x11 => ?_)
            exact is_P rfl
      ·
        exact is_P tl_m2
    ·
      exact is_P tl_m1
noncomputable def iz_Model_notes (this : Nat) : iM Int :=
  iB (α := Int) (
    iW (S := (Int × Int)) (α := Int) (fun s2 =>
      iB (iGt this 13) fun x3 =>
      if x3 ≤ s2.2 then
        iP (Sum.inr s2.1)
      else
        iB (iLd (qm_rf this 10) s2.2) fun x4 =>
        iB (α := Int) (
          if x4 ≤ 0 then
            iP 0
          else
            iP 1) fun s5 =>
        iA (s2.1 + s5) fun y1 =>
        iB (iP y1) fun x6 =>
        iA (s2.2 + 1) fun y2 =>
        iB (iP y2) fun x7 =>
        iP (Sum.inl (x6, x7))) (0, 0)) fun s1 =>
  iP s1
set_option maxRecDepth 20000 in
set_option maxHeartbeats 2000000 in
theorem is_Model_notes {this : Nat} : iS (jf_Model_notes this) (iz_Model_notes this) Int32.toInt := by
  unfold jf_Model_notes iz_Model_notes
  refine is_B (V := Int32.toInt) ?_ (fun s1 => ?_)
  ·
    refine is_W (V := (ip2 Int32.toInt Int32.toInt)) (W := Int32.toInt) (fun s2 => ?_) (ppair tl_0 tl_0)
    refine is_B (V := Int32.toInt) (is_Gt rfl) (fun x3 => ?_)
    refine is_if (ti_le rfl rfl) ?_ ?_
    ·
      exact is_P (pinr rfl)
    ·
      refine is_B (V := Int32.toInt) (is_Ld rfl) (fun x4 => ?_)
      refine is_B (V := Int32.toInt) ?_ (fun s5 => ?_)
      ·
        refine is_if (ti_le rfl tl_0) ?_ ?_
        ·
          exact is_P tl_0
        ·
          exact is_P tl_1
      refine is_A (fun h1 => ?_)
      refine is_B (V := Int32.toInt) (is_P (ti_add rfl rfl h1)) (fun x6 => ?_)
      refine is_A (fun h2 => ?_)
      refine is_B (V := Int32.toInt) (is_P (ti_add rfl tl_1 h2)) (fun x7 => ?_)
      exact is_P (pinl (ppair rfl rfl))
  exact is_P rfl
noncomputable def iz_Model_noteAt (this : Nat) (p1 : Int) : iM Int :=
  iW (S := (Int × Int)) (α := Int) (fun s1 =>
    iB (iLd (qm_rf this 10) s1.2) fun x2 =>
    iB (α := (Unit ⊕ ((Int × Int) ⊕ Int))) (
      if x2 = 0 then
        iP (Sum.inl ())
      else
        if s1.1 ≤ 0 then
          iP (Sum.inr (Sum.inr s1.2))
        else
          iP (Sum.inl ())) (Sum.elim (fun s3 =>
      iB (iLd (qm_rf this 10) s1.2) fun x4 =>
      iB (α := Int) (
        if x4 ≤ 0 then
          iP 0
        else
          iP 1) fun s5 =>
      iA (s1.1 - s5) fun y1 =>
      iB (iP y1) fun x6 =>
      iA (s1.2 + 1) fun y2 =>
      iB (iP y2) fun x7 =>
      iP (Sum.inl (x6, x7))) iP)) (p1, 0)
set_option maxRecDepth 20000 in
set_option maxHeartbeats 2000000 in
theorem is_Model_noteAt {this : Nat} {p1 : Int32} {p1' : Int} (qp1 : p1.toInt = p1') : iS (jf_Model_noteAt this p1) (iz_Model_noteAt this p1') Int32.toInt := by
  subst qp1
  unfold jf_Model_noteAt iz_Model_noteAt
  refine is_W (V := (ip2 Int32.toInt Int32.toInt)) (W := Int32.toInt) (fun s1 => ?_) (ppair rfl tl_0)
  refine is_B (V := Int32.toInt) (is_Ld rfl) (fun x2 => ?_)
  refine is_E (V := id1) ?_ (fun s3 => ?_)
  ·
    refine is_if (ti_eq rfl tl_0) ?_ ?_
    ·
      exact is_P (pinl rfl)
    ·
      refine is_if (ti_le rfl tl_0) ?_ ?_
      ·
        exact is_P (pinr (pinr rfl))
      ·
        exact is_P (pinl rfl)
  ·
    refine is_B (V := Int32.toInt) (is_Ld rfl) (fun x4 => ?_)
    refine is_B (V := Int32.toInt) ?_ (fun s5 => ?_)
    ·
      refine is_if (ti_le rfl tl_0) ?_ ?_
      ·
        exact is_P tl_0
      ·
        exact is_P tl_1
    refine is_A (fun h1 => ?_)
    refine is_B (V := Int32.toInt) (is_P (ti_sub rfl rfl h1)) (fun x6 => ?_)
    refine is_A (fun h2 => ?_)
    refine is_B (V := Int32.toInt) (is_P (ti_add rfl tl_1 h2)) (fun x7 => ?_)
    exact is_P (pinl (ppair rfl rfl))
noncomputable def iz_Model_linesAt (this : Nat) (p1 : Int) (p2 : Int) : iM Int :=
  iB (iLd (qm_rf this 27) p2) fun x1 =>
  iB (iLd (qm_rf this 20) x1) fun x2 =>
  iA (p1 + 1) fun y1 =>
  iB (iLd (qm_rf this 20) y1) fun x3 =>
  iB (α := Int) (
    if ¬ x2 = x3 then
      iP 0
    else
      iP 1) fun s4 =>
  if s4 = 0 then
    iB (iLd (qm_rf this 10) p1) fun x5 =>
    iP x5
  else
    iB (iz_Model_linesIn this p2) fun x6 =>
    iB (iLd (qm_rf this 28) p2) fun x7 =>
    iB (iLd (qm_rf this 26) p2) fun x8 =>
    iB (iLd (qm_rf this 27) p2) fun x9 =>
    iB (iz_Model_ownOf this x8 x9) fun x10 =>
    iB (iLd (qm_rf this 10) p1) fun x11 =>
    iA (x6 - x7) fun y2 =>
    iA (x10 - x11) fun y3 =>
    iA (y2 - y3) fun y4 =>
    iP y4
set_option maxRecDepth 20000 in
set_option maxHeartbeats 2000000 in
theorem is_Model_linesAt {this : Nat} {p1 : Int32} {p1' : Int} {p2 : Int32} {p2' : Int} (qp1 : p1.toInt = p1') (qp2 : p2.toInt = p2') : iS (jf_Model_linesAt this p1 p2) (iz_Model_linesAt this p1' p2') Int32.toInt := by
  subst qp1 qp2
  unfold jf_Model_linesAt iz_Model_linesAt
  refine is_B (V := Int32.toInt) (is_Ld rfl) (fun x1 => ?_)
  refine is_B (V := Int32.toInt) (is_Ld rfl) (fun x2 => ?_)
  refine is_A (fun h1 => ?_)
  refine is_B (V := Int32.toInt) (is_Ld (ti_add rfl tl_1 h1)) (fun x3 => ?_)
  refine is_B (V := Int32.toInt) ?_ (fun s4 => ?_)
  ·
    refine is_if (ti_not (ti_eq rfl rfl)) ?_ ?_
    ·
      exact is_P tl_0
    ·
      exact is_P tl_1
  refine is_if (ti_eq rfl tl_0) ?_ ?_
  ·
    refine is_B (V := Int32.toInt) (is_Ld rfl) (fun x5 => ?_)
    exact is_P rfl
  ·
    refine is_B (V := Int32.toInt) (is_Model_linesIn rfl) (fun x6 => ?_)
    refine is_B (V := Int32.toInt) (is_Ld rfl) (fun x7 => ?_)
    refine is_B (V := Int32.toInt) (is_Ld rfl) (fun x8 => ?_)
    refine is_B (V := Int32.toInt) (is_Ld rfl) (fun x9 => ?_)
    refine is_B (V := Int32.toInt) (is_Model_ownOf rfl rfl) (fun x10 => ?_)
    refine is_B (V := Int32.toInt) (is_Ld rfl) (fun x11 => ?_)
    refine is_A (fun h2 => ?_)
    refine is_A (fun h3 => ?_)
    refine is_A (fun h4 => ?_)
    exact is_P (ti_sub (ti_sub rfl rfl h2) (ti_sub rfl rfl h3) h4)
noncomputable def iz_Model_columnsOf (this : Nat) (p1 : Int) (p2 : Int) : iM Int :=
  iB (iLd (qm_rf this 10) p1) fun x1 =>
  iB (iz_Model_linesAt this p1 p2) fun x2 =>
  iA (x1 - x2) fun y1 =>
  iB (iP y1) fun x3 =>
  iA (p2 + 1) fun y2 =>
  iB (iP y2) fun x4 =>
  iB (α := Int) (
    iW (S := (Int × (Int × Int))) (α := Int) (fun s6 =>
      iB (iGt this 32) fun x7 =>
      if x7 ≤ s6.2.2 then
        iP (Sum.inr s6.2.1)
      else
        if s6.1 ≤ 0 then
          iP (Sum.inr s6.2.1)
        else
          iB (iz_Model_linesIn this s6.2.2) fun x8 =>
          iB (α := Int) (
            if x8 ≤ s6.1 then
              iB (iz_Model_linesIn this s6.2.2) fun x10 =>
              iP x10
            else
              iP s6.1) fun s9 =>
          iB (α := Int) (
            if s9 ≤ 0 then
              iP 0
            else
              iP 1) fun s11 =>
          iA (s6.2.1 + s11) fun y3 =>
          iB (iP y3) fun x12 =>
          iA (s6.1 - s9) fun y4 =>
          iB (iP y4) fun x13 =>
          iA (s6.2.2 + 1) fun y5 =>
          iB (iP y5) fun x14 =>
          iP (Sum.inl (x13, (x12, x14)))) (x3, (1, x4))) fun s5 =>
  iP s5
set_option maxRecDepth 20000 in
set_option maxHeartbeats 2000000 in
theorem is_Model_columnsOf {this : Nat} {p1 : Int32} {p1' : Int} {p2 : Int32} {p2' : Int} (qp1 : p1.toInt = p1') (qp2 : p2.toInt = p2') : iS (jf_Model_columnsOf this p1 p2) (iz_Model_columnsOf this p1' p2') Int32.toInt := by
  subst qp1 qp2
  unfold jf_Model_columnsOf iz_Model_columnsOf
  refine is_B (V := Int32.toInt) (is_Ld rfl) (fun x1 => ?_)
  refine is_B (V := Int32.toInt) (is_Model_linesAt rfl rfl) (fun x2 => ?_)
  refine is_A (fun h1 => ?_)
  refine is_B (V := Int32.toInt) (is_P (ti_sub rfl rfl h1)) (fun x3 => ?_)
  refine is_A (fun h2 => ?_)
  refine is_B (V := Int32.toInt) (is_P (ti_add rfl tl_1 h2)) (fun x4 => ?_)
  refine is_B (V := Int32.toInt) ?_ (fun s5 => ?_)
  ·
    refine is_W (V := (ip2 Int32.toInt (ip2 Int32.toInt Int32.toInt))) (W := Int32.toInt) (fun s6 => ?_) (ppair rfl (ppair tl_1 rfl))
    refine is_B (V := Int32.toInt) (is_Gt rfl) (fun x7 => ?_)
    refine is_if (ti_le rfl rfl) ?_ ?_
    ·
      exact is_P (pinr rfl)
    ·
      refine is_if (ti_le rfl tl_0) ?_ ?_
      ·
        exact is_P (pinr rfl)
      ·
        refine is_B (V := Int32.toInt) (is_Model_linesIn rfl) (fun x8 => ?_)
        refine is_B (V := Int32.toInt) ?_ (fun s9 => ?_)
        ·
          refine is_if (ti_le rfl rfl) ?_ ?_
          ·
            refine is_B (V := Int32.toInt) (is_Model_linesIn rfl) (fun x10 => ?_)
            exact is_P rfl
          ·
            exact is_P rfl
        refine is_B (V := Int32.toInt) ?_ (fun s11 => ?_)
        ·
          refine is_if (ti_le rfl tl_0) ?_ ?_
          ·
            exact is_P tl_0
          ·
            exact is_P tl_1
        refine is_A (fun h3 => ?_)
        refine is_B (V := Int32.toInt) (is_P (ti_add rfl rfl h3)) (fun x12 => ?_)
        refine is_A (fun h4 => ?_)
        refine is_B (V := Int32.toInt) (is_P (ti_sub rfl rfl h4)) (fun x13 => ?_)
        refine is_A (fun h5 => ?_)
        refine is_B (V := Int32.toInt) (is_P (ti_add rfl tl_1 h5)) (fun x14 => ?_)
        exact is_P (pinl (ppair rfl (ppair rfl rfl)))
  exact is_P rfl
noncomputable def iz_Model_note (this : Nat) (p1 : Int) (p2 : Int) : iM Int :=
  iB (iz_Model_pours this) fun x1 =>
  iB (α := (Unit ⊕ Int)) (
    if ¬ p1 = (-1) then
      iP (Sum.inl ())
    else
      if ¬ p2 = 0 then
        iP (Sum.inl ())
      else
        iB (iz_Model_notes this) fun x3 =>
        iP (Sum.inr x3)) (Sum.elim (fun s2 =>
    iB (iz_Model_notes this) fun x4 =>
    iA (x4 - 1) fun y1 =>
    iB (iz_Model_in p1 0 y1) fun x5 =>
    if x5 = 0 then
      iP (-1)
    else
      iB (iz_Model_in p2 0 3) fun x6 =>
      if ¬ x6 = 0 then
        iB (iz_Model_noteAt this p1) fun x7 =>
        if 2 ≤ p2 then
          iB (iz_Model_columnOf this x7) fun x8 =>
          if ¬ x8 = (-1) then
            if ¬ p2 = 2 then
              iB (iz_Model_columnsOf this x7 x8) fun x9 =>
              iP x9
            else
              iB (iz_Model_linesAt this x7 x8) fun x10 =>
              iP x10
          else
            iP (-2)
        else
          if ¬ p2 = 0 then
            iB (iLd (qm_rf this 10) x7) fun x11 =>
            iP x11
          else
            iP x7
      else
        iP (-1)) iP)
set_option maxRecDepth 20000 in
set_option maxHeartbeats 2000000 in
theorem is_Model_note {this : Nat} {p1 : Int32} {p1' : Int} {p2 : Int32} {p2' : Int} (qp1 : p1.toInt = p1') (qp2 : p2.toInt = p2') : iS (jf_Model_note this p1 p2) (iz_Model_note this p1' p2') Int32.toInt := by
  subst qp1 qp2
  unfold jf_Model_note iz_Model_note
  refine is_B (V := Int32.toInt) (is_Model_pours) (fun x1 => ?_)
  refine is_E (V := id1) ?_ (fun s2 => ?_)
  ·
    refine is_if (ti_not (ti_eq rfl tl_m1)) ?_ ?_
    ·
      exact is_P (pinl rfl)
    ·
      refine is_if (ti_not (ti_eq rfl tl_0)) ?_ ?_
      ·
        exact is_P (pinl rfl)
      ·
        refine is_B (V := Int32.toInt) (is_Model_notes) (fun x3 => ?_)
        exact is_P (pinr rfl)
  ·
    refine is_B (V := Int32.toInt) (is_Model_notes) (fun x4 => ?_)
    refine is_A (fun h1 => ?_)
    refine is_B (V := Int32.toInt) (is_Model_in (ti_64 rfl) t64_0 (ti_64 (ti_sub rfl tl_1 h1))) (fun x5 => ?_)
    refine is_if (ti_eq rfl tl_0) ?_ ?_
    ·
      exact is_P tl_m1
    ·
      refine is_B (V := Int32.toInt) (is_Model_in (ti_64 rfl) t64_0 t64_3) (fun x6 => ?_)
      refine is_if (ti_not (ti_eq rfl tl_0)) ?_ ?_
      ·
        refine is_B (V := Int32.toInt) (is_Model_noteAt rfl) (fun x7 => ?_)
        refine is_if (ti_le tl_2 rfl) ?_ ?_
        ·
          refine is_B (V := Int32.toInt) (is_Model_columnOf rfl) (fun x8 => ?_)
          refine is_if (ti_not (ti_eq rfl tl_m1)) ?_ ?_
          ·
            refine is_if (ti_not (ti_eq rfl tl_2)) ?_ ?_
            ·
              refine is_B (V := Int32.toInt) (is_Model_columnsOf rfl rfl) (fun x9 => ?_)
              exact is_P rfl
            ·
              refine is_B (V := Int32.toInt) (is_Model_linesAt rfl rfl) (fun x10 => ?_)
              exact is_P rfl
          ·
            exact is_P tl_m2
        ·
          refine is_if (ti_not (ti_eq rfl tl_0)) ?_ ?_
          ·
            refine is_B (V := Int32.toInt) (is_Ld rfl) (fun x11 => ?_)
            exact is_P rfl
          ·
            exact is_P rfl
      ·
        exact is_P tl_m1
noncomputable def iz_Model_span (this : Nat) (p1 : Int) (p2 : Int) : iM Int :=
  iB (iz_Model_pours this) fun x1 =>
  iB (iGt this 16) fun x2 =>
  iA (x2 - 2) fun y1 =>
  iB (iz_Model_in p1 0 y1) fun x3 =>
  if x3 = 0 then
    iP (-1)
  else
    iB (iz_Model_in p2 0 1) fun x4 =>
    if ¬ x4 = 0 then
      iA (p1 + 1) fun y2 =>
      iB (iLd (qm_rf this 38) y2) fun x5 =>
      if ¬ x5 = (-1) then
        if ¬ p2 = 0 then
          iA (p1 + 1) fun y3 =>
          iB (iLd (qm_rf this 39) y3) fun x6 =>
          iP x6
        else
          iA (p1 + 1) fun y4 =>
          iB (iLd (qm_rf this 38) y4) fun x7 =>
          iP x7
      else
        iP (-2)
    else
      iP (-1)
set_option maxRecDepth 20000 in
set_option maxHeartbeats 2000000 in
theorem is_Model_span {this : Nat} {p1 : Int32} {p1' : Int} {p2 : Int32} {p2' : Int} (qp1 : p1.toInt = p1') (qp2 : p2.toInt = p2') : iS (jf_Model_span this p1 p2) (iz_Model_span this p1' p2') Int32.toInt := by
  subst qp1 qp2
  unfold jf_Model_span iz_Model_span
  refine is_B (V := Int32.toInt) (is_Model_pours) (fun x1 => ?_)
  refine is_B (V := Int32.toInt) (is_Gt rfl) (fun x2 => ?_)
  refine is_A (fun h1 => ?_)
  refine is_B (V := Int32.toInt) (is_Model_in (ti_64 rfl) t64_0 (ti_64 (ti_sub rfl tl_2 h1))) (fun x3 => ?_)
  refine is_if (ti_eq rfl tl_0) ?_ ?_
  ·
    exact is_P tl_m1
  ·
    refine is_B (V := Int32.toInt) (is_Model_in (ti_64 rfl) t64_0 t64_1) (fun x4 => ?_)
    refine is_if (ti_not (ti_eq rfl tl_0)) ?_ ?_
    ·
      refine is_A (fun h2 => ?_)
      refine is_B (V := Int32.toInt) (is_Ld (ti_add rfl tl_1 h2)) (fun x5 => ?_)
      refine is_if (ti_not (ti_eq rfl tl_m1)) ?_ ?_
      ·
        refine is_if (ti_not (ti_eq rfl tl_0)) ?_ ?_
        ·
          refine is_A (fun h3 => ?_)
          refine is_B (V := Int32.toInt) (is_Ld (ti_add rfl tl_1 h3)) (fun x6 => ?_)
          exact is_P rfl
        ·
          refine is_A (fun h4 => ?_)
          refine is_B (V := Int32.toInt) (is_Ld (ti_add rfl tl_1 h4)) (fun x7 => ?_)
          exact is_P rfl
      ·
        exact is_P tl_m2
    ·
      exact is_P tl_m1
noncomputable def iz_Model_block (this : Nat) (p1 : Int) (p2 : Int) : iM Int :=
  iB (iz_Model_isBlock this p1) fun x1 =>
  if x1 = 0 then
    iP (-1)
  else
    iB (iz_Model_in p2 0 8) fun x2 =>
    if ¬ x2 = 0 then
      iB (iz_Model_lays this) fun _ =>
      if p2 = 0 then
        iB (iz_Model_of this p1 0) fun x3 =>
        iP x3
      else
        if p2 = 1 then
          iB (iz_Model_of this p1 1) fun x4 =>
          iP x4
        else
          if p2 = 2 then
            iB (iLd (qm_rf this 17) p1) fun x5 =>
            iP x5
          else
            if p2 = 3 then
              iB (iz_Model_of this p1 2) fun x6 =>
              iP x6
            else
              if p2 = 4 then
                iB (iz_Model_of this p1 3) fun x7 =>
                iP x7
              else
                if p2 = 5 then
                  iB (iz_Model_of this p1 4) fun x8 =>
                  iP x8
                else
                  if p2 = 6 then
                    iB (iz_Model_of this p1 5) fun x9 =>
                    iP x9
                  else
                    if p2 = 7 then
                      iB (iz_Model_of this p1 6) fun x10 =>
                      iP x10
                    else
                      iB (iz_Model_of this p1 7) fun x11 =>
                      iP x11
    else
      iP (-1)
set_option maxRecDepth 20000 in
set_option maxHeartbeats 2000000 in
theorem is_Model_block {this : Nat} {p1 : Int32} {p1' : Int} {p2 : Int32} {p2' : Int} (qp1 : p1.toInt = p1') (qp2 : p2.toInt = p2') : iS (jf_Model_block this p1 p2) (iz_Model_block this p1' p2') Int32.toInt := by
  subst qp1 qp2
  unfold jf_Model_block iz_Model_block
  refine is_B (V := Int32.toInt) (is_Model_isBlock rfl) (fun x1 => ?_)
  refine is_if (ti_eq rfl tl_0) ?_ ?_
  ·
    exact is_P tl_m1
  ·
    refine is_B (V := Int32.toInt) (is_Model_in (ti_64 rfl) t64_0 t64_8) (fun x2 => ?_)
    refine is_if (ti_not (ti_eq rfl tl_0)) ?_ ?_
    ·
      refine is_B (V := id1) (is_Model_lays) (fun _ => ?_)
      refine is_if (ti_eq rfl tl_0) ?_ ?_
      ·
        refine is_B (V := Int32.toInt) (is_Model_of rfl tl_0) (fun x3 => ?_)
        exact is_P rfl
      ·
        refine is_if (ti_eq rfl tl_1) ?_ ?_
        ·
          refine is_B (V := Int32.toInt) (is_Model_of rfl tl_1) (fun x4 => ?_)
          exact is_P rfl
        ·
          refine is_if (ti_eq rfl tl_2) ?_ ?_
          ·
            refine is_B (V := Int32.toInt) (is_Ld rfl) (fun x5 => ?_)
            exact is_P rfl
          ·
            refine is_if (ti_eq rfl tl_3) ?_ ?_
            ·
              refine is_B (V := Int32.toInt) (is_Model_of rfl tl_2) (fun x6 => ?_)
              exact is_P rfl
            ·
              refine is_if (ti_eq rfl tl_4) ?_ ?_
              ·
                refine is_B (V := Int32.toInt) (is_Model_of rfl tl_3) (fun x7 => ?_)
                exact is_P rfl
              ·
                refine is_if (ti_eq rfl tl_5) ?_ ?_
                ·
                  refine is_B (V := Int32.toInt) (is_Model_of rfl tl_4) (fun x8 => ?_)
                  exact is_P rfl
                ·
                  refine is_if (ti_eq rfl tl_6) ?_ ?_
                  ·
                    refine is_B (V := Int32.toInt) (is_Model_of rfl tl_5) (fun x9 => ?_)
                    exact is_P rfl
                  ·
                    refine is_if (ti_eq rfl tl_7) ?_ ?_
                    ·
                      refine is_B (V := Int32.toInt) (is_Model_of rfl tl_6) (fun x10 => ?_)
                      exact is_P rfl
                    ·
                      refine is_B (V := Int32.toInt) (is_Model_of rfl tl_7) (fun x11 => ?_)
                      exact is_P rfl
    ·
      exact is_P tl_m1
noncomputable def iz_Model_piece (this : Nat) (p1 : Int) (p2 : Int) : iM Int :=
  iB (iz_Model_lays this) fun _ =>
  iB (iGt this 13) fun x1 =>
  iA (x1 - 1) fun y1 =>
  iB (iz_Model_in p1 0 y1) fun x2 =>
  if ¬ x2 = 0 then
    if p2 = 0 then
      iB (iLd (qm_rf this 6) p1) fun x3 =>
      iP x3
    else
      if p2 = 1 then
        iB (iLd (qm_rf this 7) p1) fun x4 =>
        iP x4
      else
        if p2 = 2 then
          iB (iLd (qm_rf this 8) p1) fun x5 =>
          iP x5
        else
          if p2 = 3 then
            iB (iLd (qm_rf this 9) p1) fun x6 =>
            iP x6
          else
            if p2 = 4 then
              iB (iLd (qm_rf this 10) p1) fun x7 =>
              iP x7
            else
              if p2 = 5 then
                iB (iLd (qm_rf this 12) p1) fun x8 =>
                if x8 = 0 then
                  iP 0
                else
                  iP 1
              else
                if p2 = 6 then
                  iB (iLd (qm_rf this 11) p1) fun x9 =>
                  iP x9
                else
                  iP (-1)
  else
    iP (-1)
set_option maxRecDepth 20000 in
set_option maxHeartbeats 2000000 in
theorem is_Model_piece {this : Nat} {p1 : Int32} {p1' : Int} {p2 : Int32} {p2' : Int} (qp1 : p1.toInt = p1') (qp2 : p2.toInt = p2') : iS (jf_Model_piece this p1 p2) (iz_Model_piece this p1' p2') Int32.toInt := by
  subst qp1 qp2
  unfold jf_Model_piece iz_Model_piece
  refine is_B (V := id1) (is_Model_lays) (fun _ => ?_)
  refine is_B (V := Int32.toInt) (is_Gt rfl) (fun x1 => ?_)
  refine is_A (fun h1 => ?_)
  refine is_B (V := Int32.toInt) (is_Model_in (ti_64 rfl) t64_0 (ti_64 (ti_sub rfl tl_1 h1))) (fun x2 => ?_)
  refine is_if (ti_not (ti_eq rfl tl_0)) ?_ ?_
  ·
    refine is_if (ti_eq rfl tl_0) ?_ ?_
    ·
      refine is_B (V := Int32.toInt) (is_Ld rfl) (fun x3 => ?_)
      exact is_P rfl
    ·
      refine is_if (ti_eq rfl tl_1) ?_ ?_
      ·
        refine is_B (V := Int32.toInt) (is_Ld rfl) (fun x4 => ?_)
        exact is_P rfl
      ·
        refine is_if (ti_eq rfl tl_2) ?_ ?_
        ·
          refine is_B (V := Int32.toInt) (is_Ld rfl) (fun x5 => ?_)
          exact is_P rfl
        ·
          refine is_if (ti_eq rfl tl_3) ?_ ?_
          ·
            refine is_B (V := Int32.toInt) (is_Ld rfl) (fun x6 => ?_)
            exact is_P rfl
          ·
            refine is_if (ti_eq rfl tl_4) ?_ ?_
            ·
              refine is_B (V := Int32.toInt) (is_Ld rfl) (fun x7 => ?_)
              exact is_P rfl
            ·
              refine is_if (ti_eq rfl tl_5) ?_ ?_
              ·
                refine is_B (V := Int32.toInt) (is_Ld rfl) (fun x8 => ?_)
                refine is_if (ti_eq rfl tl_0) ?_ ?_
                ·
                  exact is_P tl_0
                ·
                  exact is_P tl_1
              ·
                refine is_if (ti_eq rfl tl_6) ?_ ?_
                ·
                  refine is_B (V := Int32.toInt) (is_Ld rfl) (fun x9 => ?_)
                  exact is_P rfl
                ·
                  exact is_P tl_m1
  ·
    exact is_P tl_m1
noncomputable def iz_Model_isSection (this : Nat) (p1 : Int) : iM Int :=
  iB (iGt this 16) fun x1 =>
  iA (x1 - 1) fun y1 =>
  iB (iz_Model_in p1 0 y1) fun x2 =>
  iB (iZ x2) fun x3 =>
  iP x3
set_option maxRecDepth 20000 in
set_option maxHeartbeats 2000000 in
theorem is_Model_isSection {this : Nat} {p1 : Int32} {p1' : Int} (qp1 : p1.toInt = p1') : iS (jf_Model_isSection this p1) (iz_Model_isSection this p1') Int32.toInt := by
  subst qp1
  unfold jf_Model_isSection iz_Model_isSection
  refine is_B (V := Int32.toInt) (is_Gt rfl) (fun x1 => ?_)
  refine is_A (fun h1 => ?_)
  refine is_B (V := Int32.toInt) (is_Model_in (ti_64 rfl) t64_0 (ti_64 (ti_sub rfl tl_1 h1))) (fun x2 => ?_)
  refine is_B (V := Int32.toInt) (is_Z rfl) (fun x3 => ?_)
  exact is_P rfl
noncomputable def iz_Model_endsOf (this : Nat) (p1 : Int) : iM Int :=
  iB (iLd (qm_rf this 14) p1) fun x1 =>
  iB (α := Int) (
    iW (S := (Int × Int)) (α := Int) (fun s3 =>
      iB (iz_Model_endOf this p1) fun x4 =>
      if x4 < s3.2 then
        iP (Sum.inr s3.1)
      else
        iB (iz_Model_isEnd this p1 s3.2) fun x5 =>
        iB (α := Int) (
          if x5 = 0 then
            iP 0
          else
            iP 1) fun s6 =>
        iA (s3.1 + s6) fun y1 =>
        iB (iP y1) fun x7 =>
        iA (s3.2 + 1) fun y2 =>
        iB (iP y2) fun x8 =>
        iP (Sum.inl (x7, x8))) (0, x1)) fun s2 =>
  iP s2
set_option maxRecDepth 20000 in
set_option maxHeartbeats 2000000 in
theorem is_Model_endsOf {this : Nat} {p1 : Int32} {p1' : Int} (qp1 : p1.toInt = p1') : iS (jf_Model_endsOf this p1) (iz_Model_endsOf this p1') Int32.toInt := by
  subst qp1
  unfold jf_Model_endsOf iz_Model_endsOf
  refine is_B (V := Int32.toInt) (is_Ld rfl) (fun x1 => ?_)
  refine is_B (V := Int32.toInt) ?_ (fun s2 => ?_)
  ·
    refine is_W (V := (ip2 Int32.toInt Int32.toInt)) (W := Int32.toInt) (fun s3 => ?_) (ppair tl_0 rfl)
    refine is_B (V := Int32.toInt) (is_Model_endOf rfl) (fun x4 => ?_)
    refine is_if (ti_lt rfl rfl) ?_ ?_
    ·
      exact is_P (pinr rfl)
    ·
      refine is_B (V := Int32.toInt) (is_Model_isEnd rfl rfl) (fun x5 => ?_)
      refine is_B (V := Int32.toInt) ?_ (fun s6 => ?_)
      ·
        refine is_if (ti_eq rfl tl_0) ?_ ?_
        ·
          exact is_P tl_0
        ·
          exact is_P tl_1
      refine is_A (fun h1 => ?_)
      refine is_B (V := Int32.toInt) (is_P (ti_add rfl rfl h1)) (fun x7 => ?_)
      refine is_A (fun h2 => ?_)
      refine is_B (V := Int32.toInt) (is_P (ti_add rfl tl_1 h2)) (fun x8 => ?_)
      exact is_P (pinl (ppair rfl rfl))
  exact is_P rfl
noncomputable def iz_Model_section (this : Nat) (p1 : Int) (p2 : Int) : iM Int :=
  iB (iz_Model_lays this) fun _ =>
  iB (iz_Model_isSection this p1) fun x1 =>
  if ¬ x1 = 0 then
    if p2 = 0 then
      iB (iLd (qm_rf this 14) p1) fun x2 =>
      iP x2
    else
      if p2 = 1 then
        iB (iz_Model_endOf this p1) fun x3 =>
        iP x3
      else
        if p2 = 2 then
          iB (iLd (qm_rf this 15) p1) fun x4 =>
          iP x4
        else
          if p2 = 3 then
            iB (iz_Model_endsOf this p1) fun x5 =>
            iP x5
          else
            if p2 = 4 then
              iB (iLd (qm_rf this 14) p1) fun x6 =>
              iB (iz_Model_endOf this p1) fun x7 =>
              iB (iz_Model_ownOf this x6 x7) fun x8 =>
              iP x8
            else
              iP (-1)
  else
    iP (-1)
set_option maxRecDepth 20000 in
set_option maxHeartbeats 2000000 in
theorem is_Model_section {this : Nat} {p1 : Int32} {p1' : Int} {p2 : Int32} {p2' : Int} (qp1 : p1.toInt = p1') (qp2 : p2.toInt = p2') : iS (jf_Model_section this p1 p2) (iz_Model_section this p1' p2') Int32.toInt := by
  subst qp1 qp2
  unfold jf_Model_section iz_Model_section
  refine is_B (V := id1) (is_Model_lays) (fun _ => ?_)
  refine is_B (V := Int32.toInt) (is_Model_isSection rfl) (fun x1 => ?_)
  refine is_if (ti_not (ti_eq rfl tl_0)) ?_ ?_
  ·
    refine is_if (ti_eq rfl tl_0) ?_ ?_
    ·
      refine is_B (V := Int32.toInt) (is_Ld rfl) (fun x2 => ?_)
      exact is_P rfl
    ·
      refine is_if (ti_eq rfl tl_1) ?_ ?_
      ·
        refine is_B (V := Int32.toInt) (is_Model_endOf rfl) (fun x3 => ?_)
        exact is_P rfl
      ·
        refine is_if (ti_eq rfl tl_2) ?_ ?_
        ·
          refine is_B (V := Int32.toInt) (is_Ld rfl) (fun x4 => ?_)
          exact is_P rfl
        ·
          refine is_if (ti_eq rfl tl_3) ?_ ?_
          ·
            refine is_B (V := Int32.toInt) (is_Model_endsOf rfl) (fun x5 => ?_)
            exact is_P rfl
          ·
            refine is_if (ti_eq rfl tl_4) ?_ ?_
            ·
              refine is_B (V := Int32.toInt) (is_Ld rfl) (fun x6 => ?_)
              refine is_B (V := Int32.toInt) (is_Model_endOf rfl) (fun x7 => ?_)
              refine is_B (V := Int32.toInt) (is_Model_ownOf rfl rfl) (fun x8 => ?_)
              exact is_P rfl
            ·
              exact is_P tl_m1
  ·
    exact is_P tl_m1
noncomputable def iz_Model_fits (this : Nat) (p1 : Int) (p2 : Int) : iM Int :=
  iB (iz_Model_lays this) fun _ =>
  iB (iz_Model_isSection this p1) fun x1 =>
  if x1 = 0 then
    iP (-1)
  else
    iB (iz_Model_in p2 0 2000) fun x2 =>
    if ¬ x2 = 0 then
      iB (iLd (qm_rf this 14) p1) fun x3 =>
      iB (iz_Model_fitsFrom this p1 x3 0 p2) fun x4 =>
      if x4 = 0 then
        iP 0
      else
        iP 1
    else
      iP (-1)
set_option maxRecDepth 20000 in
set_option maxHeartbeats 2000000 in
theorem is_Model_fits {this : Nat} {p1 : Int32} {p1' : Int} {p2 : Int32} {p2' : Int} (qp1 : p1.toInt = p1') (qp2 : p2.toInt = p2') : iS (jf_Model_fits this p1 p2) (iz_Model_fits this p1' p2') Int32.toInt := by
  subst qp1 qp2
  unfold jf_Model_fits iz_Model_fits
  refine is_B (V := id1) (is_Model_lays) (fun _ => ?_)
  refine is_B (V := Int32.toInt) (is_Model_isSection rfl) (fun x1 => ?_)
  refine is_if (ti_eq rfl tl_0) ?_ ?_
  ·
    exact is_P tl_m1
  ·
    refine is_B (V := Int32.toInt) (is_Model_in (ti_64 rfl) t64_0 t64_2000) (fun x2 => ?_)
    refine is_if (ti_not (ti_eq rfl tl_0)) ?_ ?_
    ·
      refine is_B (V := Int32.toInt) (is_Ld rfl) (fun x3 => ?_)
      refine is_B (V := Int32.toInt) (is_Model_fitsFrom rfl rfl tl_0 rfl) (fun x4 => ?_)
      refine is_if (ti_eq rfl tl_0) ?_ ?_
      ·
        exact is_P tl_0
      ·
        exact is_P tl_1
    ·
      exact is_P tl_m1
noncomputable def iz_Model_leastOf (this : Nat) (p1 : Int) : iM Int :=
  iB (iLd (qm_rf this 14) p1) fun x1 =>
  iB (iz_Model_fitsFrom this p1 x1 0 2000) fun x2 =>
  if x2 = 0 then
    iP (-2)
  else
    iB (iz_Model_leastFrom this p1 x1 0 2000) fun x3 =>
    iP x3
set_option maxRecDepth 20000 in
set_option maxHeartbeats 2000000 in
theorem is_Model_leastOf {this : Nat} {p1 : Int32} {p1' : Int} (qp1 : p1.toInt = p1') : iS (jf_Model_leastOf this p1) (iz_Model_leastOf this p1') Int32.toInt := by
  subst qp1
  unfold jf_Model_leastOf iz_Model_leastOf
  refine is_B (V := Int32.toInt) (is_Ld rfl) (fun x1 => ?_)
  refine is_B (V := Int32.toInt) (is_Model_fitsFrom rfl rfl tl_0 tl_2000) (fun x2 => ?_)
  refine is_if (ti_eq rfl tl_0) ?_ ?_
  ·
    exact is_P tl_m2
  ·
    refine is_B (V := Int32.toInt) (is_Model_leastFrom rfl rfl tl_0 tl_2000) (fun x3 => ?_)
    exact is_P rfl
noncomputable def iz_Model_least (this : Nat) (p1 : Int) : iM Int :=
  iB (iz_Model_lays this) fun _ =>
  iB (iz_Model_isSection this p1) fun x1 =>
  if x1 = 0 then
    iP (-1)
  else
    iB (iz_Model_leastOf this p1) fun x2 =>
    iP x2
set_option maxRecDepth 20000 in
set_option maxHeartbeats 2000000 in
theorem is_Model_least {this : Nat} {p1 : Int32} {p1' : Int} (qp1 : p1.toInt = p1') : iS (jf_Model_least this p1) (iz_Model_least this p1') Int32.toInt := by
  subst qp1
  unfold jf_Model_least iz_Model_least
  refine is_B (V := id1) (is_Model_lays) (fun _ => ?_)
  refine is_B (V := Int32.toInt) (is_Model_isSection rfl) (fun x1 => ?_)
  refine is_if (ti_eq rfl tl_0) ?_ ?_
  ·
    exact is_P tl_m1
  ·
    refine is_B (V := Int32.toInt) (is_Model_leastOf rfl) (fun x2 => ?_)
    exact is_P rfl
noncomputable def iz_Model_goesOn (this : Nat) (p1 : Int) (p2 : Int) (p3 : Int) : iM Unit :=
  iB (α := Unit) (
    iW (S := Int) (α := Unit) (fun s2 =>
      iB (iz_Model_endOf this p1) fun x3 =>
      if x3 < s2 then
        iP (Sum.inr ())
      else
        iB (α := Unit) (
          iB (α := (Unit ⊕ Unit)) (
            if s2 ≤ p2 then
              iP (Sum.inl ())
            else
              iB (iz_Model_isEnd this p1 s2) fun x6 =>
              if x6 = 0 then
                iP (Sum.inr ())
              else
                iP (Sum.inl ())) (Sum.elim (fun s5 =>
            iB (iLd (qm_rf this 40) p2) fun x7 =>
            iB (iz_Model_canEnd this p2 s2 x7 p3) fun x8 =>
            if ¬ x8 = 0 then
              iB (iLd (qm_rf this 40) p2) fun x9 =>
              iB (iz_Model_ownOf this p2 s2) fun x10 =>
              iB (iLd (qm_rf this 40) p2) fun x11 =>
              iB (iz_Model_standsOf this p2 s2 x11 p3) fun x12 =>
              iA (x9 + x10) fun y1 =>
              iA (y1 - x12) fun y2 =>
              iB (iP y2) fun x13 =>
              iB (iLd (qm_rf this 41) s2) fun x14 =>
              iB (α := Int) (
                if x14 ≤ x13 then
                  iB (iLd (qm_rf this 41) s2) fun x16 =>
                  iP x16
                else
                  iP x13) fun s15 =>
              iB (iSt (qm_rf this 41) s2 s15) fun _ =>
              iP ()
            else
              iP ()) iP)) fun s4 =>
        iA (s2 + 1) fun y3 =>
        iB (iP y3) fun x17 =>
        iP (Sum.inl x17)) p2) fun s1 =>
  iP ()
set_option maxRecDepth 20000 in
set_option maxHeartbeats 2000000 in
theorem is_Model_goesOn {this : Nat} {p1 : Int32} {p1' : Int} {p2 : Int32} {p2' : Int} {p3 : Int32} {p3' : Int} (qp1 : p1.toInt = p1') (qp2 : p2.toInt = p2') (qp3 : p3.toInt = p3') : iS (jf_Model_goesOn this p1 p2 p3) (iz_Model_goesOn this p1' p2' p3') id1 := by
  subst qp1 qp2 qp3
  unfold jf_Model_goesOn iz_Model_goesOn
  refine is_B (V := id1) ?_ (fun s1 => ?_)
  ·
    refine is_W (V := Int32.toInt) (W := id1) (fun s2 => ?_) rfl
    refine is_B (V := Int32.toInt) (is_Model_endOf rfl) (fun x3 => ?_)
    refine is_if (ti_lt rfl rfl) ?_ ?_
    ·
      exact is_P (pinr rfl)
    ·
      refine is_B (V := id1) ?_ (fun s4 => ?_)
      ·
        refine is_E (V := id1) ?_ (fun s5 => ?_)
        ·
          refine is_if (ti_le rfl rfl) ?_ ?_
          ·
            exact is_P (pinl rfl)
          ·
            refine is_B (V := Int32.toInt) (is_Model_isEnd rfl rfl) (fun x6 => ?_)
            refine is_if (ti_eq rfl tl_0) ?_ ?_
            ·
              exact is_P (pinr rfl)
            ·
              exact is_P (pinl rfl)
        ·
          refine is_B (V := Int32.toInt) (is_Ld rfl) (fun x7 => ?_)
          refine is_B (V := Int32.toInt) (is_Model_canEnd rfl rfl rfl rfl) (fun x8 => ?_)
          refine is_if (ti_not (ti_eq rfl tl_0)) ?_ ?_
          ·
            refine is_B (V := Int32.toInt) (is_Ld rfl) (fun x9 => ?_)
            refine is_B (V := Int32.toInt) (is_Model_ownOf rfl rfl) (fun x10 => ?_)
            refine is_B (V := Int32.toInt) (is_Ld rfl) (fun x11 => ?_)
            refine is_B (V := Int32.toInt) (is_Model_standsOf rfl rfl rfl rfl) (fun x12 => ?_)
            refine is_A (fun h1 => ?_)
            refine is_A (fun h2 => ?_)
            refine is_B (V := Int32.toInt) (is_P (ti_sub (ti_add rfl rfl h1) rfl h2)) (fun x13 => ?_)
            refine is_B (V := Int32.toInt) (is_Ld rfl) (fun x14 => ?_)
            refine is_B (V := Int32.toInt) ?_ (fun s15 => ?_)
            ·
              refine is_if (ti_le rfl rfl) ?_ ?_
              ·
                refine is_B (V := Int32.toInt) (is_Ld rfl) (fun x16 => ?_)
                exact is_P rfl
              ·
                exact is_P rfl
            refine is_B (V := id1) (is_St rfl rfl) (fun _ => ?_)
            exact is_P rfl
          ·
            exact is_P rfl
      refine is_A (fun h3 => ?_)
      refine is_B (V := Int32.toInt) (is_P (ti_add rfl tl_1 h3)) (fun x17 => ?_)
      exact is_P (pinl rfl)
  exact is_P rfl
noncomputable def iz_Model_reach (this : Nat) (p1 : Int) (p2 : Int) (p3 : Int) : iM Int :=
  iB (iz_Model_lays this) fun _ =>
  iB (iz_Model_isSection this p1) fun x1 =>
  if x1 = 0 then
    iP (-1)
  else
    iB (iz_Model_in p2 1 5) fun x2 =>
    if x2 = 0 then
      iP (-1)
    else
      iB (iz_Model_in p3 0 2000) fun x3 =>
      if ¬ x3 = 0 then
        iB (iLd (qm_rf this 14) p1) fun x4 =>
        iB (iz_Model_endOf this p1) fun x5 =>
        iB (α := Unit) (
          iW (S := Int) (α := Unit) (fun s7 =>
            if x5 < s7 then
              iP (Sum.inr ())
            else
              iB (α := Int) (
                if ¬ s7 = x4 then
                  iP 100000
                else
                  iP 0) fun s8 =>
              iB (iSt (qm_rf this 40) s7 s8) fun _ =>
              iA (s7 + 1) fun y1 =>
              iB (iP y1) fun x9 =>
              iP (Sum.inl x9)) x4) fun s6 =>
        iB (α := Unit) (
          iW (S := Int) (α := Unit) (fun s11 =>
            if p2 ≤ s11 then
              iP (Sum.inr ())
            else
              iB (α := Unit) (
                iW (S := Int) (α := Unit) (fun s13 =>
                  if x5 < s13 then
                    iP (Sum.inr ())
                  else
                    iB (iSt (qm_rf this 41) s13 100000) fun _ =>
                    iA (s13 + 1) fun y2 =>
                    iB (iP y2) fun x14 =>
                    iP (Sum.inl x14)) x4) fun s12 =>
              iB (α := Unit) (
                iW (S := Int) (α := Unit) (fun s16 =>
                  if x5 < s16 then
                    iP (Sum.inr ())
                  else
                    iB (iLd (qm_rf this 40) s16) fun x17 =>
                    iB (α := Unit) (
                      if 100000 ≤ x17 then
                        iP ()
                      else
                        iB (iz_Model_goesOn this p1 s16 p3) fun _ =>
                        iP ()) fun s18 =>
                    iA (s16 + 1) fun y3 =>
                    iB (iP y3) fun x19 =>
                    iP (Sum.inl x19)) x4) fun s15 =>
              iB (α := Unit) (
                iW (S := Int) (α := Unit) (fun s21 =>
                  if x5 < s21 then
                    iP (Sum.inr ())
                  else
                    iB (iLd (qm_rf this 41) s21) fun x22 =>
                    iB (iSt (qm_rf this 40) s21 x22) fun _ =>
                    iA (s21 + 1) fun y4 =>
                    iB (iP y4) fun x23 =>
                    iP (Sum.inl x23)) x4) fun s20 =>
              iA (s11 + 1) fun y5 =>
              iB (iP y5) fun x24 =>
              iP (Sum.inl x24)) 0) fun s10 =>
        iB (α := (Unit ⊕ Int)) (
          iW (S := Int) (α := (Unit ⊕ Int)) (fun s26 =>
            if s26 < x4 then
              iP (Sum.inr (Sum.inl ()))
            else
              iB (iLd (qm_rf this 40) s26) fun x27 =>
              if 100000 ≤ x27 then
                iA (s26 + (-1)) fun y6 =>
                iB (iP y6) fun x28 =>
                iP (Sum.inl x28)
              else
                iP (Sum.inr (Sum.inr s26))) x5) (Sum.elim (fun s25 =>
          iP (-2)) iP)
      else
        iP (-1)
set_option maxRecDepth 20000 in
set_option maxHeartbeats 2000000 in
theorem is_Model_reach {this : Nat} {p1 : Int32} {p1' : Int} {p2 : Int32} {p2' : Int} {p3 : Int32} {p3' : Int} (qp1 : p1.toInt = p1') (qp2 : p2.toInt = p2') (qp3 : p3.toInt = p3') : iS (jf_Model_reach this p1 p2 p3) (iz_Model_reach this p1' p2' p3') Int32.toInt := by
  subst qp1 qp2 qp3
  unfold jf_Model_reach iz_Model_reach
  refine is_B (V := id1) (is_Model_lays) (fun _ => ?_)
  refine is_B (V := Int32.toInt) (is_Model_isSection rfl) (fun x1 => ?_)
  refine is_if (ti_eq rfl tl_0) ?_ ?_
  ·
    exact is_P tl_m1
  ·
    refine is_B (V := Int32.toInt) (is_Model_in (ti_64 rfl) t64_1 t64_5) (fun x2 => ?_)
    refine is_if (ti_eq rfl tl_0) ?_ ?_
    ·
      exact is_P tl_m1
    ·
      refine is_B (V := Int32.toInt) (is_Model_in (ti_64 rfl) t64_0 t64_2000) (fun x3 => ?_)
      refine is_if (ti_not (ti_eq rfl tl_0)) ?_ ?_
      ·
        refine is_B (V := Int32.toInt) (is_Ld rfl) (fun x4 => ?_)
        refine is_B (V := Int32.toInt) (is_Model_endOf rfl) (fun x5 => ?_)
        refine is_B (V := id1) ?_ (fun s6 => ?_)
        ·
          refine is_W (V := Int32.toInt) (W := id1) (fun s7 => ?_) rfl
          refine is_if (ti_lt rfl rfl) ?_ ?_
          ·
            exact is_P (pinr rfl)
          ·
            refine is_B (V := Int32.toInt) ?_ (fun s8 => ?_)
            ·
              refine is_if (ti_not (ti_eq rfl rfl)) ?_ ?_
              ·
                exact is_P tl_100000
              ·
                exact is_P tl_0
            refine is_B (V := id1) (is_St rfl rfl) (fun _ => ?_)
            refine is_A (fun h1 => ?_)
            refine is_B (V := Int32.toInt) (is_P (ti_add rfl tl_1 h1)) (fun x9 => ?_)
            exact is_P (pinl rfl)
        refine is_B (V := id1) ?_ (fun s10 => ?_)
        ·
          refine is_W (V := Int32.toInt) (W := id1) (fun s11 => ?_) tl_0
          refine is_if (ti_le rfl rfl) ?_ ?_
          ·
            exact is_P (pinr rfl)
          ·
            refine is_B (V := id1) ?_ (fun s12 => ?_)
            ·
              refine is_W (V := Int32.toInt) (W := id1) (fun s13 => ?_) rfl
              refine is_if (ti_lt rfl rfl) ?_ ?_
              ·
                exact is_P (pinr rfl)
              ·
                refine is_B (V := id1) (is_St rfl tl_100000) (fun _ => ?_)
                refine is_A (fun h2 => ?_)
                refine is_B (V := Int32.toInt) (is_P (ti_add rfl tl_1 h2)) (fun x14 => ?_)
                exact is_P (pinl rfl)
            refine is_B (V := id1) ?_ (fun s15 => ?_)
            ·
              refine is_W (V := Int32.toInt) (W := id1) (fun s16 => ?_) rfl
              refine is_if (ti_lt rfl rfl) ?_ ?_
              ·
                exact is_P (pinr rfl)
              ·
                refine is_B (V := Int32.toInt) (is_Ld rfl) (fun x17 => ?_)
                refine is_B (V := id1) ?_ (fun s18 => ?_)
                ·
                  refine is_if (ti_le tl_100000 rfl) ?_ ?_
                  ·
                    exact is_P rfl
                  ·
                    refine is_B (V := id1) (is_Model_goesOn rfl rfl rfl) (fun _ => ?_)
                    exact is_P rfl
                refine is_A (fun h3 => ?_)
                refine is_B (V := Int32.toInt) (is_P (ti_add rfl tl_1 h3)) (fun x19 => ?_)
                exact is_P (pinl rfl)
            refine is_B (V := id1) ?_ (fun s20 => ?_)
            ·
              refine is_W (V := Int32.toInt) (W := id1) (fun s21 => ?_) rfl
              refine is_if (ti_lt rfl rfl) ?_ ?_
              ·
                exact is_P (pinr rfl)
              ·
                refine is_B (V := Int32.toInt) (is_Ld rfl) (fun x22 => ?_)
                refine is_B (V := id1) (is_St rfl rfl) (fun _ => ?_)
                refine is_A (fun h4 => ?_)
                refine is_B (V := Int32.toInt) (is_P (ti_add rfl tl_1 h4)) (fun x23 => ?_)
                exact is_P (pinl rfl)
            refine is_A (fun h5 => ?_)
            refine is_B (V := Int32.toInt) (is_P (ti_add rfl tl_1 h5)) (fun x24 => ?_)
            exact is_P (pinl rfl)
        refine is_E (V := id1) ?_ (fun s25 => ?_)
        ·
          refine is_W (V := Int32.toInt) (W := (is2 id1 Int32.toInt)) (fun s26 => ?_) rfl
          refine is_if (ti_lt rfl rfl) ?_ ?_
          ·
            exact is_P (pinr (pinl rfl))
          ·
            refine is_B (V := Int32.toInt) (is_Ld rfl) (fun x27 => ?_)
            refine is_if (ti_le tl_100000 rfl) ?_ ?_
            ·
              refine is_A (fun h6 => ?_)
              refine is_B (V := Int32.toInt) (is_P (ti_add rfl tl_m1 h6)) (fun x28 => ?_)
              exact is_P (pinl rfl)
            ·
              exact is_P (pinr (pinr rfl))
        ·
          exact is_P tl_m2
      ·
        exact is_P tl_m1
