noncomputable def iz_Teller_readWord (this : Nat) : iM Int :=
  iB (iz_Teller_sign this) fun x1 =>
  if ¬ x1 = 0 then
    iP (-1)
  else
    iB (iGt this 5) fun x2 =>
    if x2 < 401 then
      iB (iGt this 5) fun x3 =>
      iB (iz_Top_at (qm_rf this 4) x3) fun x4 =>
      iB (iGt this 5) fun x5 =>
      iA (x5 + 1) fun y1 =>
      iB (iPt this 5 y1) fun _ =>
      iP x4
    else
      iP (-1)
set_option maxRecDepth 20000 in
set_option maxHeartbeats 2000000 in
theorem is_Teller_readWord {this : Nat} : iS (jf_Teller_readWord this) (iz_Teller_readWord this) Int32.toInt := by
  unfold jf_Teller_readWord iz_Teller_readWord
  refine is_B (V := Int32.toInt) (is_Teller_sign) (fun x1 => ?_)
  refine is_if (ti_not (ti_eq rfl tl_0)) ?_ ?_
  ·
    exact is_P tl_m1
  ·
    refine is_B (V := Int32.toInt) (is_Gt rfl) (fun x2 => ?_)
    refine is_if (ti_lt rfl tl_401) ?_ ?_
    ·
      refine is_B (V := Int32.toInt) (is_Gt rfl) (fun x3 => ?_)
      refine is_B (V := Int32.toInt) (is_Top_at rfl) (fun x4 => ?_)
      refine is_B (V := Int32.toInt) (is_Gt rfl) (fun x5 => ?_)
      refine is_A (fun h1 => ?_)
      refine is_B (V := id1) (is_Pt rfl (ti_add rfl tl_1 h1)) (fun _ => ?_)
      exact is_P rfl
    ·
      exact is_P tl_m1
noncomputable def iz_Teller_wrong (this : Nat) (p1 : Int) (p2 : Int) : iM Unit :=
  iB (iGt this 6) fun x1 =>
  if ¬ x1 = (-1) then
    iP ()
  else
    iA (8 * p1) fun y1 =>
    iA (y1 + p2) fun y2 =>
    iB (iPt this 6 y2) fun _ =>
    iP ()
set_option maxRecDepth 20000 in
set_option maxHeartbeats 2000000 in
theorem is_Teller_wrong {this : Nat} {p1 : Int32} {p1' : Int} {p2 : Int32} {p2' : Int} (qp1 : p1.toInt = p1') (qp2 : p2.toInt = p2') : iS (jf_Teller_wrong this p1 p2) (iz_Teller_wrong this p1' p2') id1 := by
  subst qp1 qp2
  unfold jf_Teller_wrong iz_Teller_wrong
  refine is_B (V := Int32.toInt) (is_Gt rfl) (fun x1 => ?_)
  refine is_if (ti_not (ti_eq rfl tl_m1)) ?_ ?_
  ·
    exact is_P rfl
  ·
    refine is_A (fun h1 => ?_)
    refine is_A (fun h2 => ?_)
    refine is_B (V := id1) (is_Pt rfl (ti_add (ti_mul tl_8 rfl h1) rfl h2)) (fun _ => ?_)
    exact is_P rfl
noncomputable def iz_Teller_tellOnce (this : Nat) (p1 : Int) (p2 : Int) : iM Unit :=
  iB (iGt this 7) fun x1 =>
  iB (α := Unit) (
    if (ibAnd (ibShr x1 (ibAnd p1 31)) 1) = 0 then
      iP ()
    else
      iB (iz_Teller_wrong this p2 3) fun _ =>
      iP ()) fun s2 =>
  iB (iGt this 7) fun x3 =>
  iB (iPt this 7 (ibOr x3 (ibShl 1 (ibAnd p1 31)))) fun _ =>
  iP ()
set_option maxRecDepth 20000 in
set_option maxHeartbeats 2000000 in
theorem is_Teller_tellOnce {this : Nat} {p1 : Int32} {p1' : Int} {p2 : Int32} {p2' : Int} (qp1 : p1.toInt = p1') (qp2 : p2.toInt = p2') : iS (jf_Teller_tellOnce this p1 p2) (iz_Teller_tellOnce this p1' p2') id1 := by
  subst qp1 qp2
  unfold jf_Teller_tellOnce iz_Teller_tellOnce
  refine is_B (V := Int32.toInt) (is_Gt rfl) (fun x1 => ?_)
  refine is_B (V := id1) ?_ (fun s2 => ?_)
  ·
    refine is_if (ti_eq (ti_and (ti_shr rfl (ti_and rfl tl_31)) tl_1) tl_0) ?_ ?_
    ·
      exact is_P rfl
    ·
      refine is_B (V := id1) (is_Teller_wrong rfl tl_3) (fun _ => ?_)
      exact is_P rfl
  refine is_B (V := Int32.toInt) (is_Gt rfl) (fun x3 => ?_)
  refine is_B (V := id1) (is_Pt rfl (ti_or rfl (ti_shl tl_1 (ti_and rfl tl_31)))) (fun _ => ?_)
  exact is_P rfl
noncomputable def iz_Teller_readNumber (this : Nat) (p1 : Int) (p2 : Int) : iM Int :=
  iB (iGt this 6) fun x1 =>
  if x1 = (-1) then
    iB (iz_Teller_sign this) fun x2 =>
    if x2 = 1 then
      iB (iGt this 5) fun x3 =>
      iB (iz_Top_at (qm_rf this 4) x3) fun x4 =>
      iB (α := (Unit ⊕ Int)) (
        if x4 < p1 then
          iP (Sum.inl ())
        else
          if x4 ≤ p2 then
            iB (iGt this 5) fun x6 =>
            iA (x6 + 1) fun y1 =>
            iB (iPt this 5 y1) fun _ =>
            iP (Sum.inr x4)
          else
            iP (Sum.inl ())) (Sum.elim (fun s5 =>
        iB (iz_Teller_place this) fun x7 =>
        iB (iz_Teller_wrong this x7 2) fun _ =>
        iP 0) iP)
    else
      iB (iz_Teller_place this) fun x8 =>
      iB (iz_Teller_wrong this x8 1) fun _ =>
      iP 0
  else
    iP 0
set_option maxRecDepth 20000 in
set_option maxHeartbeats 2000000 in
theorem is_Teller_readNumber {this : Nat} {p1 : Int32} {p1' : Int} {p2 : Int32} {p2' : Int} (qp1 : p1.toInt = p1') (qp2 : p2.toInt = p2') : iS (jf_Teller_readNumber this p1 p2) (iz_Teller_readNumber this p1' p2') Int32.toInt := by
  subst qp1 qp2
  unfold jf_Teller_readNumber iz_Teller_readNumber
  refine is_B (V := Int32.toInt) (is_Gt rfl) (fun x1 => ?_)
  refine is_if (ti_eq rfl tl_m1) ?_ ?_
  ·
    refine is_B (V := Int32.toInt) (is_Teller_sign) (fun x2 => ?_)
    refine is_if (ti_eq rfl tl_1) ?_ ?_
    ·
      refine is_B (V := Int32.toInt) (is_Gt rfl) (fun x3 => ?_)
      refine is_B (V := Int32.toInt) (is_Top_at rfl) (fun x4 => ?_)
      refine is_E (V := id1) ?_ (fun s5 => ?_)
      ·
        refine is_if (ti_lt rfl rfl) ?_ ?_
        ·
          exact is_P (pinl rfl)
        ·
          refine is_if (ti_le rfl rfl) ?_ ?_
          ·
            refine is_B (V := Int32.toInt) (is_Gt rfl) (fun x6 => ?_)
            refine is_A (fun h1 => ?_)
            refine is_B (V := id1) (is_Pt rfl (ti_add rfl tl_1 h1)) (fun _ => ?_)
            exact is_P (pinr rfl)
          ·
            exact is_P (pinl rfl)
      ·
        refine is_B (V := Int32.toInt) (is_Teller_place) (fun x7 => ?_)
        refine is_B (V := id1) (is_Teller_wrong rfl tl_2) (fun _ => ?_)
        exact is_P tl_0
    ·
      refine is_B (V := Int32.toInt) (is_Teller_place) (fun x8 => ?_)
      refine is_B (V := id1) (is_Teller_wrong rfl tl_1) (fun _ => ?_)
      exact is_P tl_0
  ·
    exact is_P tl_0
noncomputable def iz_Teller_readSetting (this : Nat) (p1 : Int) (p2 : Int) : iM Unit :=
  iB (iz_Teller_tellOnce this p1 p2) fun _ =>
  iB (iz_Top_at 406 p1) fun x1 =>
  iB (iz_Top_at 407 p1) fun x2 =>
  iB (iz_Teller_readNumber this x1 x2) fun x3 =>
  iB (iGt this 6) fun x4 =>
  if ¬ x4 = (-1) then
    iP ()
  else
    iB (iz_Run_put (qm_rf this 1) p1 x3) fun _ =>
    iP ()
set_option maxRecDepth 20000 in
set_option maxHeartbeats 2000000 in
theorem is_Teller_readSetting {this : Nat} {p1 : Int32} {p1' : Int} {p2 : Int32} {p2' : Int} (qp1 : p1.toInt = p1') (qp2 : p2.toInt = p2') : iS (jf_Teller_readSetting this p1 p2) (iz_Teller_readSetting this p1' p2') id1 := by
  subst qp1 qp2
  unfold jf_Teller_readSetting iz_Teller_readSetting
  refine is_B (V := id1) (is_Teller_tellOnce rfl rfl) (fun _ => ?_)
  refine is_B (V := Int32.toInt) (is_Top_at rfl) (fun x1 => ?_)
  refine is_B (V := Int32.toInt) (is_Top_at rfl) (fun x2 => ?_)
  refine is_B (V := Int32.toInt) (is_Teller_readNumber rfl rfl) (fun x3 => ?_)
  refine is_B (V := Int32.toInt) (is_Gt rfl) (fun x4 => ?_)
  refine is_if (ti_not (ti_eq rfl tl_m1)) ?_ ?_
  ·
    exact is_P rfl
  ·
    refine is_B (V := id1) (is_Run_put rfl rfl) (fun _ => ?_)
    exact is_P rfl
noncomputable def iz_Teller_mostHigh (p1 : Int) : iM Int :=
  if p1 = 1 then
    iP 200
  else
    if p1 = 2 then
      iP 30
    else
      if p1 = 3 then
        iP 9
      else
        if p1 = 4 then
          iP 60
        else
          iP 9
set_option maxRecDepth 20000 in
set_option maxHeartbeats 2000000 in
theorem is_Teller_mostHigh {p1 : Int32} {p1' : Int} (qp1 : p1.toInt = p1') : iS (jf_Teller_mostHigh p1) (iz_Teller_mostHigh p1') Int32.toInt := by
  subst qp1
  unfold jf_Teller_mostHigh iz_Teller_mostHigh
  refine is_if (ti_eq rfl tl_1) ?_ ?_
  ·
    exact is_P tl_200
  ·
    refine is_if (ti_eq rfl tl_2) ?_ ?_
    ·
      exact is_P tl_30
    ·
      refine is_if (ti_eq rfl tl_3) ?_ ?_
      ·
        exact is_P tl_9
      ·
        refine is_if (ti_eq rfl tl_4) ?_ ?_
        ·
          exact is_P tl_60
        ·
          exact is_P tl_9
noncomputable def iz_Teller_readMark (this : Nat) (p1 : Int) (p2 : Int) : iM Unit :=
  iB (iz_Run_cell (qm_rf this 1) p1 7) fun x1 =>
  iB (α := Unit) (
    if x1 < 4 then
      iP ()
    else
      iB (iz_Teller_wrong this p2 3) fun _ =>
      iP ()) fun s2 =>
  iB (iz_Teller_place this) fun x3 =>
  iB (iz_Run_cell (qm_rf this 1) p1 1) fun x4 =>
  iB (iz_Teller_readNumber this 1 x4) fun x5 =>
  iB (iz_Run_noteAt (qm_rf this 1) p1 x5) fun x6 =>
  iB (α := Unit) (
    if x6 ≤ 0 then
      iP ()
    else
      iB (iz_Teller_wrong this x3 2) fun _ =>
      iP ()) fun s7 =>
  iB (iz_Teller_readNumber this 1 20) fun x8 =>
  iB (iGt this 6) fun x9 =>
  if ¬ x9 = (-1) then
    iP ()
  else
    iB (iz_Run_addMark (qm_rf this 1) p1 x5 x8) fun _ =>
    iP ()
set_option maxRecDepth 20000 in
set_option maxHeartbeats 2000000 in
theorem is_Teller_readMark {this : Nat} {p1 : Int32} {p1' : Int} {p2 : Int32} {p2' : Int} (qp1 : p1.toInt = p1') (qp2 : p2.toInt = p2') : iS (jf_Teller_readMark this p1 p2) (iz_Teller_readMark this p1' p2') id1 := by
  subst qp1 qp2
  unfold jf_Teller_readMark iz_Teller_readMark
  refine is_B (V := Int32.toInt) (is_Run_cell rfl tl_7) (fun x1 => ?_)
  refine is_B (V := id1) ?_ (fun s2 => ?_)
  ·
    refine is_if (ti_lt rfl tl_4) ?_ ?_
    ·
      exact is_P rfl
    ·
      refine is_B (V := id1) (is_Teller_wrong rfl tl_3) (fun _ => ?_)
      exact is_P rfl
  refine is_B (V := Int32.toInt) (is_Teller_place) (fun x3 => ?_)
  refine is_B (V := Int32.toInt) (is_Run_cell rfl tl_1) (fun x4 => ?_)
  refine is_B (V := Int32.toInt) (is_Teller_readNumber tl_1 rfl) (fun x5 => ?_)
  refine is_B (V := Int32.toInt) (is_Run_noteAt rfl rfl) (fun x6 => ?_)
  refine is_B (V := id1) ?_ (fun s7 => ?_)
  ·
    refine is_if (ti_le rfl tl_0) ?_ ?_
    ·
      exact is_P rfl
    ·
      refine is_B (V := id1) (is_Teller_wrong rfl tl_2) (fun _ => ?_)
      exact is_P rfl
  refine is_B (V := Int32.toInt) (is_Teller_readNumber tl_1 tl_20) (fun x8 => ?_)
  refine is_B (V := Int32.toInt) (is_Gt rfl) (fun x9 => ?_)
  refine is_if (ti_not (ti_eq rfl tl_m1)) ?_ ?_
  ·
    exact is_P rfl
  ·
    refine is_B (V := id1) (is_Run_addMark rfl rfl rfl) (fun _ => ?_)
    exact is_P rfl
noncomputable def iz_Teller_readWords (this : Nat) (p1 : Int) (p2 : Int) : iM Unit :=
  iB (iGt this 7) fun x1 =>
  iB (iPt this 7 (ibAnd x1 255)) fun _ =>
  iB (α := Unit) (
    iW (S := Int) (α := Unit) (fun s3 =>
      iB (iGt this 6) fun x4 =>
      if ¬ x4 = (-1) then
        iP (Sum.inr ())
      else
        iB (iz_Teller_sign this) fun x5 =>
        if x5 = 4 then
          iP (Sum.inr ())
        else
          iB (iz_Teller_sign this) fun x6 =>
          if x6 = 2 then
            iP (Sum.inr ())
          else
            if 401 ≤ s3 then
              iP (Sum.inr ())
            else
              iB (iz_Teller_place this) fun x7 =>
              iB (iz_Teller_readWord this) fun x8 =>
              iB (α := Unit) (
                if ¬ x8 = 13 then
                  iB (α := (Unit ⊕ Unit)) (
                    if ¬ x8 = 14 then
                      iP (Sum.inl ())
                    else
                      if ¬ p2 = 0 then
                        iP (Sum.inl ())
                      else
                        iB (iz_Teller_tellOnce this x8 x7) fun _ =>
                        iB (iz_Run_putCell (qm_rf this 1) p1 5 1) fun _ =>
                        iP (Sum.inr ())) (Sum.elim (fun s10 =>
                    if ¬ x8 = 15 then
                      iB (α := (Unit ⊕ Unit)) (
                        if ¬ x8 = 16 then
                          iP (Sum.inl ())
                        else
                          if ¬ p2 = 0 then
                            iP (Sum.inl ())
                          else
                            iB (iz_Teller_readMark this p1 x7) fun _ =>
                            iP (Sum.inr ())) (Sum.elim (fun s11 =>
                        iB (iz_Teller_wrong this x7 1) fun _ =>
                        iP ()) iP)
                    else
                      iB (iz_Teller_tellOnce this x8 x7) fun _ =>
                      iB (iz_Teller_readNumber this 0 30) fun x12 =>
                      iB (iz_Run_putCell (qm_rf this 1) p1 6 x12) fun _ =>
                      iP ()) iP)
                else
                  iB (iz_Teller_tellOnce this x8 x7) fun _ =>
                  iB (iz_Run_putCell (qm_rf this 1) p1 4 1) fun _ =>
                  iP ()) fun s9 =>
              iA (s3 + 1) fun y1 =>
              iB (iP y1) fun x13 =>
              iP (Sum.inl x13)) 0) fun s2 =>
  iP ()
set_option maxRecDepth 20000 in
set_option maxHeartbeats 2000000 in
theorem is_Teller_readWords {this : Nat} {p1 : Int32} {p1' : Int} {p2 : Int32} {p2' : Int} (qp1 : p1.toInt = p1') (qp2 : p2.toInt = p2') : iS (jf_Teller_readWords this p1 p2) (iz_Teller_readWords this p1' p2') id1 := by
  subst qp1 qp2
  unfold jf_Teller_readWords iz_Teller_readWords
  refine is_B (V := Int32.toInt) (is_Gt rfl) (fun x1 => ?_)
  refine is_B (V := id1) (is_Pt rfl (ti_and rfl tl_255)) (fun _ => ?_)
  refine is_B (V := id1) ?_ (fun s2 => ?_)
  ·
    refine is_W (V := Int32.toInt) (W := id1) (fun s3 => ?_) tl_0
    refine is_B (V := Int32.toInt) (is_Gt rfl) (fun x4 => ?_)
    refine is_if (ti_not (ti_eq rfl tl_m1)) ?_ ?_
    ·
      exact is_P (pinr rfl)
    ·
      refine is_B (V := Int32.toInt) (is_Teller_sign) (fun x5 => ?_)
      refine is_if (ti_eq rfl tl_4) ?_ ?_
      ·
        exact is_P (pinr rfl)
      ·
        refine is_B (V := Int32.toInt) (is_Teller_sign) (fun x6 => ?_)
        refine is_if (ti_eq rfl tl_2) ?_ ?_
        ·
          exact is_P (pinr rfl)
        ·
          refine is_if (ti_le tl_401 rfl) ?_ ?_
          ·
            exact is_P (pinr rfl)
          ·
            refine is_B (V := Int32.toInt) (is_Teller_place) (fun x7 => ?_)
            refine is_B (V := Int32.toInt) (is_Teller_readWord) (fun x8 => ?_)
            refine is_B (V := id1) ?_ (fun s9 => ?_)
            ·
              refine is_if (ti_not (ti_eq rfl tl_13)) ?_ ?_
              ·
                refine is_E (V := id1) ?_ (fun s10 => ?_)
                ·
                  refine is_if (ti_not (ti_eq rfl tl_14)) ?_ ?_
                  ·
                    exact is_P (pinl rfl)
                  ·
                    refine is_if (ti_not (ti_eq rfl tl_0)) ?_ ?_
                    ·
                      exact is_P (pinl rfl)
                    ·
                      refine is_B (V := id1) (is_Teller_tellOnce rfl rfl) (fun _ => ?_)
                      refine is_B (V := id1) (is_Run_putCell rfl tl_5 tl_1) (fun _ => ?_)
                      exact is_P (pinr rfl)
                ·
                  refine is_if (ti_not (ti_eq rfl tl_15)) ?_ ?_
                  ·
                    refine is_E (V := id1) ?_ (fun s11 => ?_)
                    ·
                      refine is_if (ti_not (ti_eq rfl tl_16)) ?_ ?_
                      ·
                        exact is_P (pinl rfl)
                      ·
                        refine is_if (ti_not (ti_eq rfl tl_0)) ?_ ?_
                        ·
                          exact is_P (pinl rfl)
                        ·
                          refine is_B (V := id1) (is_Teller_readMark rfl rfl) (fun _ => ?_)
                          exact is_P (pinr rfl)
                    ·
                      refine is_B (V := id1) (is_Teller_wrong rfl tl_1) (fun _ => ?_)
                      exact is_P rfl
                  ·
                    refine is_B (V := id1) (is_Teller_tellOnce rfl rfl) (fun _ => ?_)
                    refine is_B (V := Int32.toInt) (is_Teller_readNumber tl_0 tl_30) (fun x12 => ?_)
                    refine is_B (V := id1) (is_Run_putCell rfl tl_6 rfl) (fun _ => ?_)
                    exact is_P rfl
              ·
                refine is_B (V := id1) (is_Teller_tellOnce rfl rfl) (fun _ => ?_)
                refine is_B (V := id1) (is_Run_putCell rfl tl_4 tl_1) (fun _ => ?_)
                exact is_P rfl
            refine is_A (fun h1 => ?_)
            refine is_B (V := Int32.toInt) (is_P (ti_add rfl tl_1 h1)) (fun x13 => ?_)
            exact is_P (pinl rfl)
  exact is_P rfl
noncomputable def iz_Teller_readBlock (this : Nat) (p1 : Int) (p2 : Int) : iM Unit :=
  iB (α := Int) (
    iB (α := (Unit ⊕ Int)) (
      if p1 = 1 then
        iP (Sum.inl ())
      else
        if ¬ p1 = 2 then
          iP (Sum.inr 0)
        else
          iP (Sum.inl ())) (Sum.elim (fun s2 =>
      iP 1) iP)) fun s1 =>
  iB (iz_Run_allPieces (qm_rf this 1)) fun x3 =>
  iB (iGt (qm_rf this 1) 0) fun x4 =>
  iB (α := (Unit ⊕ Unit)) (
    if 16 ≤ x4 then
      iP (Sum.inl ())
    else
      iB (α := (Unit ⊕ (Unit ⊕ Unit))) (
        if s1 = 0 then
          iP (Sum.inl ())
        else
          if x3 < 90 then
            iP (Sum.inl ())
          else
            iP (Sum.inr (Sum.inl ()))) (Sum.elim (fun s6 =>
        iB (iz_Run_add (qm_rf this 1) p1) fun x7 =>
        iB (α := Unit) (
          if ¬ p1 = 3 then
            iP ()
          else
            iB (iz_Teller_readNumber this 0 9) fun x9 =>
            iB (iz_Run_putCell (qm_rf this 1) x7 3 x9) fun _ =>
            iP ()) fun s8 =>
        iB (α := Int) (
          if s1 = 0 then
            iP 0
          else
            iP 1) fun s10 =>
        iB (α := Int) (
          iB (α := (Unit ⊕ Int)) (
            if p1 = 0 then
              iP (Sum.inl ())
            else
              if ¬ p1 = 3 then
                iP (Sum.inr s10)
              else
                iP (Sum.inl ())) (Sum.elim (fun s12 =>
            iB (iz_Teller_place this) fun x13 =>
            iB (iz_Teller_readNumber this 1 30) fun x14 =>
            iA (x3 + x14) fun y1 =>
            if y1 ≤ 90 then
              iP x14
            else
              iB (iz_Teller_wrong this x13 3) fun _ =>
              iP x14) iP)) fun s11 =>
        iB (iz_Run_putCell (qm_rf this 1) x7 1 s11) fun _ =>
        iB (iz_Teller_mostHigh p1) fun x15 =>
        iB (iz_Teller_readNumber this 1 x15) fun x16 =>
        iB (iz_Run_putCell (qm_rf this 1) x7 2 x16) fun _ =>
        if p1 = 4 then
          iP (Sum.inr ())
        else
          iB (iz_Teller_readWords this x7 p1) fun _ =>
          iP (Sum.inr ())) iP)) (Sum.elim (fun s5 =>
    iB (iz_Teller_wrong this p2 3) fun _ =>
    iP ()) iP)
set_option maxRecDepth 20000 in
set_option maxHeartbeats 2000000 in
theorem is_Teller_readBlock {this : Nat} {p1 : Int32} {p1' : Int} {p2 : Int32} {p2' : Int} (qp1 : p1.toInt = p1') (qp2 : p2.toInt = p2') : iS (jf_Teller_readBlock this p1 p2) (iz_Teller_readBlock this p1' p2') id1 := by
  subst qp1 qp2
  unfold jf_Teller_readBlock iz_Teller_readBlock
  refine is_B (V := Int32.toInt) ?_ (fun s1 => ?_)
  ·
    refine is_E (V := id1) ?_ (fun s2 => ?_)
    ·
      refine is_if (ti_eq rfl tl_1) ?_ ?_
      ·
        exact is_P (pinl rfl)
      ·
        refine is_if (ti_not (ti_eq rfl tl_2)) ?_ ?_
        ·
          exact is_P (pinr tl_0)
        ·
          exact is_P (pinl rfl)
    ·
      exact is_P tl_1
  refine is_B (V := Int32.toInt) (is_Run_allPieces) (fun x3 => ?_)
  refine is_B (V := Int32.toInt) (is_Gt rfl) (fun x4 => ?_)
  refine is_E (V := id1) ?_ (fun s5 => ?_)
  ·
    refine is_if (ti_le tl_16 rfl) ?_ ?_
    ·
      exact is_P (pinl rfl)
    ·
      refine is_E (V := id1) ?_ (fun s6 => ?_)
      ·
        refine is_if (ti_eq rfl tl_0) ?_ ?_
        ·
          exact is_P (pinl rfl)
        ·
          refine is_if (ti_lt rfl tl_90) ?_ ?_
          ·
            exact is_P (pinl rfl)
          ·
            exact is_P (pinr (pinl rfl))
      ·
        refine is_B (V := Int32.toInt) (is_Run_add rfl) (fun x7 => ?_)
        refine is_B (V := id1) ?_ (fun s8 => ?_)
        ·
          refine is_if (ti_not (ti_eq rfl tl_3)) ?_ ?_
          ·
            exact is_P rfl
          ·
            refine is_B (V := Int32.toInt) (is_Teller_readNumber tl_0 tl_9) (fun x9 => ?_)
            refine is_B (V := id1) (is_Run_putCell rfl tl_3 rfl) (fun _ => ?_)
            exact is_P rfl
        refine is_B (V := Int32.toInt) ?_ (fun s10 => ?_)
        ·
          refine is_if (ti_eq rfl tl_0) ?_ ?_
          ·
            exact is_P tl_0
          ·
            exact is_P tl_1
        refine is_B (V := Int32.toInt) ?_ (fun s11 => ?_)
        ·
          refine is_E (V := id1) ?_ (fun s12 => ?_)
          ·
            refine is_if (ti_eq rfl tl_0) ?_ ?_
            ·
              exact is_P (pinl rfl)
            ·
              refine is_if (ti_not (ti_eq rfl tl_3)) ?_ ?_
              ·
                exact is_P (pinr rfl)
              ·
                exact is_P (pinl rfl)
          ·
            refine is_B (V := Int32.toInt) (is_Teller_place) (fun x13 => ?_)
            refine is_B (V := Int32.toInt) (is_Teller_readNumber tl_1 tl_30) (fun x14 => ?_)
            refine is_A (fun h1 => ?_)
            refine is_if (ti_le (ti_add rfl rfl h1) tl_90) ?_ ?_
            ·
              exact is_P rfl
            ·
              refine is_B (V := id1) (is_Teller_wrong rfl tl_3) (fun _ => ?_)
              exact is_P rfl
        refine is_B (V := id1) (is_Run_putCell rfl tl_1 rfl) (fun _ => ?_)
        refine is_B (V := Int32.toInt) (is_Teller_mostHigh rfl) (fun x15 => ?_)
        refine is_B (V := Int32.toInt) (is_Teller_readNumber tl_1 rfl) (fun x16 => ?_)
        refine is_B (V := id1) (is_Run_putCell rfl tl_2 rfl) (fun _ => ?_)
        refine is_if (ti_eq rfl tl_4) ?_ ?_
        ·
          exact is_P (pinr rfl)
        ·
          refine is_B (V := id1) (is_Teller_readWords rfl rfl) (fun _ => ?_)
          exact is_P (pinr rfl)
  ·
    refine is_B (V := id1) (is_Teller_wrong rfl tl_3) (fun _ => ?_)
    exact is_P rfl
noncomputable def iz_Teller_readPart (this : Nat) : iM Unit :=
  iB (iz_Teller_place this) fun x1 =>
  iB (iz_Teller_readWord this) fun x2 =>
  iB (α := (Unit ⊕ Unit)) (
    if x2 = (-1) then
      iP (Sum.inl ())
    else
      if x2 < 13 then
        if 8 ≤ x2 then
          iA (x2 - 8) fun y1 =>
          iB (iz_Teller_readBlock this y1 x1) fun _ =>
          iP (Sum.inr ())
        else
          iB (iz_Teller_readSetting this x2 x1) fun _ =>
          iP (Sum.inr ())
      else
        iP (Sum.inl ())) (Sum.elim (fun s3 =>
    iB (iz_Teller_wrong this x1 1) fun _ =>
    iP ()) iP)
set_option maxRecDepth 20000 in
set_option maxHeartbeats 2000000 in
theorem is_Teller_readPart {this : Nat} : iS (jf_Teller_readPart this) (iz_Teller_readPart this) id1 := by
  unfold jf_Teller_readPart iz_Teller_readPart
  refine is_B (V := Int32.toInt) (is_Teller_place) (fun x1 => ?_)
  refine is_B (V := Int32.toInt) (is_Teller_readWord) (fun x2 => ?_)
  refine is_E (V := id1) ?_ (fun s3 => ?_)
  ·
    refine is_if (ti_eq rfl tl_m1) ?_ ?_
    ·
      exact is_P (pinl rfl)
    ·
      refine is_if (ti_lt rfl tl_13) ?_ ?_
      ·
        refine is_if (ti_le tl_8 rfl) ?_ ?_
        ·
          refine is_A (fun h1 => ?_)
          refine is_B (V := id1) (is_Teller_readBlock (ti_sub rfl tl_8 h1) rfl) (fun _ => ?_)
          exact is_P (pinr rfl)
        ·
          refine is_B (V := id1) (is_Teller_readSetting rfl rfl) (fun _ => ?_)
          exact is_P (pinr rfl)
      ·
        exact is_P (pinl rfl)
  ·
    refine is_B (V := id1) (is_Teller_wrong rfl tl_1) (fun _ => ?_)
    exact is_P rfl
noncomputable def iz_Top_feed (this : Nat) (p1 : Int) (p2 : Int) (p3 : Int) (p4 : Int) (p5 : Int) : iM Int :=
  iB (iGt (qm_rf this 1) 1) fun x1 =>
  iA (x1 + 20) fun y1 =>
  if y1 ≤ 400 then
    iB (iz_Tape_append (qm_rf this 1) p1) fun _ =>
    iB (iz_Tape_append (qm_rf this 1) p2) fun _ =>
    iB (iz_Tape_append (qm_rf this 1) p3) fun _ =>
    iB (iz_Tape_append (qm_rf this 1) p4) fun _ =>
    iB (iz_Tape_append (qm_rf this 1) p5) fun _ =>
    iB (iGt (qm_rf this 1) 1) fun x2 =>
    iP x2
  else
    iP (-1)
set_option maxRecDepth 20000 in
set_option maxHeartbeats 2000000 in
theorem is_Top_feed {this : Nat} {p1 : Int32} {p1' : Int} {p2 : Int32} {p2' : Int} {p3 : Int32} {p3' : Int} {p4 : Int32} {p4' : Int} {p5 : Int32} {p5' : Int} (qp1 : p1.toInt = p1') (qp2 : p2.toInt = p2') (qp3 : p3.toInt = p3') (qp4 : p4.toInt = p4') (qp5 : p5.toInt = p5') : iS (jf_Top_feed this p1 p2 p3 p4 p5) (iz_Top_feed this p1' p2' p3' p4' p5') Int32.toInt := by
  subst qp1 qp2 qp3 qp4 qp5
  unfold jf_Top_feed iz_Top_feed
  refine is_B (V := Int32.toInt) (is_Gt rfl) (fun x1 => ?_)
  refine is_A (fun h1 => ?_)
  refine is_if (ti_le (ti_add rfl tl_20 h1) tl_400) ?_ ?_
  ·
    refine is_B (V := id1) (is_Tape_append rfl) (fun _ => ?_)
    refine is_B (V := id1) (is_Tape_append rfl) (fun _ => ?_)
    refine is_B (V := id1) (is_Tape_append rfl) (fun _ => ?_)
    refine is_B (V := id1) (is_Tape_append rfl) (fun _ => ?_)
    refine is_B (V := id1) (is_Tape_append rfl) (fun _ => ?_)
    refine is_B (V := Int32.toInt) (is_Gt rfl) (fun x2 => ?_)
    exact is_P rfl
  ·
    exact is_P tl_m1
noncomputable def iz_Top_end (this : Nat) (p1 : Int) : iM Int :=
  if p1 < 0 then
    iP (-1)
  else
    iB (iGt (qm_rf this 1) 1) fun x1 =>
    if p1 ≤ x1 then
      iB (iPt (qm_rf this 1) 1 p1) fun _ =>
      iP p1
    else
      iP (-1)
set_option maxRecDepth 20000 in
set_option maxHeartbeats 2000000 in
theorem is_Top_end {this : Nat} {p1 : Int32} {p1' : Int} (qp1 : p1.toInt = p1') : iS (jf_Top_end this p1) (iz_Top_end this p1') Int32.toInt := by
  subst qp1
  unfold jf_Top_end iz_Top_end
  refine is_if (ti_lt rfl tl_0) ?_ ?_
  ·
    exact is_P tl_m1
  ·
    refine is_B (V := Int32.toInt) (is_Gt rfl) (fun x1 => ?_)
    refine is_if (ti_le rfl rfl) ?_ ?_
    ·
      refine is_B (V := id1) (is_Pt rfl rfl) (fun _ => ?_)
      exact is_P rfl
    ·
      exact is_P tl_m1
noncomputable def iz_Top_changed (this : Nat) : iM Unit :=
  iB (iPz this 9 0) fun _ =>
  iB (iPz this 10 0) fun _ =>
  iP ()
set_option maxRecDepth 20000 in
set_option maxHeartbeats 2000000 in
theorem is_Top_changed {this : Nat} : iS (jf_Top_changed this) (iz_Top_changed this) id1 := by
  unfold jf_Top_changed iz_Top_changed
  refine is_B (V := id1) (is_Pz rfl tl_0) (fun _ => ?_)
  refine is_B (V := id1) (is_Pz rfl tl_0) (fun _ => ?_)
  exact is_P rfl
noncomputable def iz_Top_beginAct (this : Nat) : iM Unit :=
  iB (iz_Past_push (qm_rf this 3) (qm_rf this 0)) fun _ =>
  iB (iz_Top_changed this) fun _ =>
  iP ()
set_option maxRecDepth 20000 in
set_option maxHeartbeats 2000000 in
theorem is_Top_beginAct {this : Nat} : iS (jf_Top_beginAct this) (iz_Top_beginAct this) id1 := by
  unfold jf_Top_beginAct iz_Top_beginAct
  refine is_B (V := id1) (is_Past_push) (fun _ => ?_)
  refine is_B (V := id1) (is_Top_changed) (fun _ => ?_)
  exact is_P rfl
noncomputable def iz_Top_set (this : Nat) (p1 : Int) (p2 : Int) : iM Int :=
  iB (iz_Run_takes p1 p2) fun x1 =>
  if ¬ x1 = 0 then
    iB (iz_Run_setting (qm_rf this 0) p1) fun x2 =>
    if ¬ x2 = p2 then
      iB (iz_Top_beginAct this) fun _ =>
      iB (iz_Run_put (qm_rf this 0) p1 p2) fun _ =>
      iP x2
    else
      iP (-2)
  else
    iP (-1)
set_option maxRecDepth 20000 in
set_option maxHeartbeats 2000000 in
theorem is_Top_set {this : Nat} {p1 : Int32} {p1' : Int} {p2 : Int32} {p2' : Int} (qp1 : p1.toInt = p1') (qp2 : p2.toInt = p2') : iS (jf_Top_set this p1 p2) (iz_Top_set this p1' p2') Int32.toInt := by
  subst qp1 qp2
  unfold jf_Top_set iz_Top_set
  refine is_B (V := Int32.toInt) (is_Run_takes rfl rfl) (fun x1 => ?_)
  refine is_if (ti_not (ti_eq rfl tl_0)) ?_ ?_
  ·
    refine is_B (V := Int32.toInt) (is_Run_setting rfl) (fun x2 => ?_)
    refine is_if (ti_not (ti_eq rfl rfl)) ?_ ?_
    ·
      refine is_B (V := id1) (is_Top_beginAct) (fun _ => ?_)
      refine is_B (V := id1) (is_Run_put rfl rfl) (fun _ => ?_)
      exact is_P rfl
    ·
      exact is_P tl_m2
  ·
    exact is_P tl_m1
noncomputable def iz_Top_tie (this : Nat) (p1 : Int) (p2 : Int) : iM Int :=
  iB (iz_Run_hasPieces (qm_rf this 0) p1) fun x1 =>
  if ¬ x1 = 0 then
    iB (α := Int) (
      if p2 = 0 then
        iP 0
      else
        iP 1) fun s2 =>
    iB (iz_Run_cell (qm_rf this 0) p1 4) fun x3 =>
    if ¬ x3 = s2 then
      iB (iz_Top_beginAct this) fun _ =>
      iB (iz_Run_putCell (qm_rf this 0) p1 4 s2) fun _ =>
      iP 1
    else
      iP (-2)
  else
    iP (-1)
set_option maxRecDepth 20000 in
set_option maxHeartbeats 2000000 in
theorem is_Top_tie {this : Nat} {p1 : Int32} {p1' : Int} {p2 : Int32} {p2' : Int} (qp1 : p1.toInt = p1') (qp2 : p2.toInt = p2') : iS (jf_Top_tie this p1 p2) (iz_Top_tie this p1' p2') Int32.toInt := by
  subst qp1 qp2
  unfold jf_Top_tie iz_Top_tie
  refine is_B (V := Int32.toInt) (is_Run_hasPieces rfl) (fun x1 => ?_)
  refine is_if (ti_not (ti_eq rfl tl_0)) ?_ ?_
  ·
    refine is_B (V := Int32.toInt) ?_ (fun s2 => ?_)
    ·
      refine is_if (ti_eq rfl tl_0) ?_ ?_
      ·
        exact is_P tl_0
      ·
        exact is_P tl_1
    refine is_B (V := Int32.toInt) (is_Run_cell rfl tl_4) (fun x3 => ?_)
    refine is_if (ti_not (ti_eq rfl rfl)) ?_ ?_
    ·
      refine is_B (V := id1) (is_Top_beginAct) (fun _ => ?_)
      refine is_B (V := id1) (is_Run_putCell rfl tl_4 rfl) (fun _ => ?_)
      exact is_P tl_1
    ·
      exact is_P tl_m2
  ·
    exact is_P tl_m1
noncomputable def iz_Top_space (this : Nat) (p1 : Int) (p2 : Int) : iM Int :=
  iB (iz_Run_hasPieces (qm_rf this 0) p1) fun x1 =>
  if x1 = 0 then
    iP (-1)
  else
    if p2 < 0 then
      iP (-1)
    else
      if p2 ≤ 30 then
        iB (iz_Run_cell (qm_rf this 0) p1 6) fun x2 =>
        if ¬ x2 = p2 then
          iB (iz_Top_beginAct this) fun _ =>
          iB (iz_Run_putCell (qm_rf this 0) p1 6 p2) fun _ =>
          iP x2
        else
          iP (-2)
      else
        iP (-1)
set_option maxRecDepth 20000 in
set_option maxHeartbeats 2000000 in
theorem is_Top_space {this : Nat} {p1 : Int32} {p1' : Int} {p2 : Int32} {p2' : Int} (qp1 : p1.toInt = p1') (qp2 : p2.toInt = p2') : iS (jf_Top_space this p1 p2) (iz_Top_space this p1' p2') Int32.toInt := by
  subst qp1 qp2
  unfold jf_Top_space iz_Top_space
  refine is_B (V := Int32.toInt) (is_Run_hasPieces rfl) (fun x1 => ?_)
  refine is_if (ti_eq rfl tl_0) ?_ ?_
  ·
    exact is_P tl_m1
  ·
    refine is_if (ti_lt rfl tl_0) ?_ ?_
    ·
      exact is_P tl_m1
    ·
      refine is_if (ti_le rfl tl_30) ?_ ?_
      ·
        refine is_B (V := Int32.toInt) (is_Run_cell rfl tl_6) (fun x2 => ?_)
        refine is_if (ti_not (ti_eq rfl rfl)) ?_ ?_
        ·
          refine is_B (V := id1) (is_Top_beginAct) (fun _ => ?_)
          refine is_B (V := id1) (is_Run_putCell rfl tl_6 rfl) (fun _ => ?_)
          exact is_P rfl
        ·
          exact is_P tl_m2
      ·
        exact is_P tl_m1
noncomputable def iz_Top_swap (this : Nat) (p1 : Int) (p2 : Int) : iM Int :=
  iB (iz_Run_has (qm_rf this 0) p1) fun x1 =>
  if x1 = 0 then
    iP (-1)
  else
    iB (iz_Run_has (qm_rf this 0) p2) fun x2 =>
    if x2 = 0 then
      iP (-1)
    else
      if ¬ p1 = p2 then
        iB (iz_Top_beginAct this) fun _ =>
        iB (iz_Run_exchange (qm_rf this 0) p1 p2) fun _ =>
        iP 1
      else
        iP (-1)
set_option maxRecDepth 20000 in
set_option maxHeartbeats 2000000 in
theorem is_Top_swap {this : Nat} {p1 : Int32} {p1' : Int} {p2 : Int32} {p2' : Int} (qp1 : p1.toInt = p1') (qp2 : p2.toInt = p2') : iS (jf_Top_swap this p1 p2) (iz_Top_swap this p1' p2') Int32.toInt := by
  subst qp1 qp2
  unfold jf_Top_swap iz_Top_swap
  refine is_B (V := Int32.toInt) (is_Run_has rfl) (fun x1 => ?_)
  refine is_if (ti_eq rfl tl_0) ?_ ?_
  ·
    exact is_P tl_m1
  ·
    refine is_B (V := Int32.toInt) (is_Run_has rfl) (fun x2 => ?_)
    refine is_if (ti_eq rfl tl_0) ?_ ?_
    ·
      exact is_P tl_m1
    ·
      refine is_if (ti_not (ti_eq rfl rfl)) ?_ ?_
      ·
        refine is_B (V := id1) (is_Top_beginAct) (fun _ => ?_)
        refine is_B (V := id1) (is_Run_exchange rfl rfl) (fun _ => ?_)
        exact is_P tl_1
      ·
        exact is_P tl_m1
noncomputable def iz_Top_again (this : Nat) (p1 : Int) : iM Int :=
  iB (iz_Run_has (qm_rf this 0) p1) fun x1 =>
  if ¬ x1 = 0 then
    iB (iGt (qm_rf this 0) 0) fun x2 =>
    if 16 ≤ x2 then
      iP (-2)
    else
      iB (iz_Run_allPieces (qm_rf this 0)) fun x3 =>
      iB (iz_Run_cell (qm_rf this 0) p1 1) fun x4 =>
      iA (x3 + x4) fun y1 =>
      if y1 ≤ 90 then
        iB (iz_Top_beginAct this) fun _ =>
        iB (iz_Run_repeat (qm_rf this 0) p1) fun _ =>
        iB (iGt (qm_rf this 0) 0) fun x5 =>
        iP x5
      else
        iP (-2)
  else
    iP (-1)
set_option maxRecDepth 20000 in
set_option maxHeartbeats 2000000 in
theorem is_Top_again {this : Nat} {p1 : Int32} {p1' : Int} (qp1 : p1.toInt = p1') : iS (jf_Top_again this p1) (iz_Top_again this p1') Int32.toInt := by
  subst qp1
  unfold jf_Top_again iz_Top_again
  refine is_B (V := Int32.toInt) (is_Run_has rfl) (fun x1 => ?_)
  refine is_if (ti_not (ti_eq rfl tl_0)) ?_ ?_
  ·
    refine is_B (V := Int32.toInt) (is_Gt rfl) (fun x2 => ?_)
    refine is_if (ti_le tl_16 rfl) ?_ ?_
    ·
      exact is_P tl_m2
    ·
      refine is_B (V := Int32.toInt) (is_Run_allPieces) (fun x3 => ?_)
      refine is_B (V := Int32.toInt) (is_Run_cell rfl tl_1) (fun x4 => ?_)
      refine is_A (fun h1 => ?_)
      refine is_if (ti_le (ti_add rfl rfl h1) tl_90) ?_ ?_
      ·
        refine is_B (V := id1) (is_Top_beginAct) (fun _ => ?_)
        refine is_B (V := id1) (is_Run_repeat rfl) (fun _ => ?_)
        refine is_B (V := Int32.toInt) (is_Gt rfl) (fun x5 => ?_)
        exact is_P rfl
      ·
        exact is_P tl_m2
  ·
    exact is_P tl_m1
noncomputable def iz_Top_drop (this : Nat) (p1 : Int) : iM Int :=
  iB (iz_Run_has (qm_rf this 0) p1) fun x1 =>
  if ¬ x1 = 0 then
    iB (iz_Top_beginAct this) fun _ =>
    iB (iz_Run_remove (qm_rf this 0) p1) fun _ =>
    iB (iGt (qm_rf this 0) 0) fun x2 =>
    iP x2
  else
    iP (-1)
set_option maxRecDepth 20000 in
set_option maxHeartbeats 2000000 in
theorem is_Top_drop {this : Nat} {p1 : Int32} {p1' : Int} (qp1 : p1.toInt = p1') : iS (jf_Top_drop this p1) (iz_Top_drop this p1') Int32.toInt := by
  subst qp1
  unfold jf_Top_drop iz_Top_drop
  refine is_B (V := Int32.toInt) (is_Run_has rfl) (fun x1 => ?_)
  refine is_if (ti_not (ti_eq rfl tl_0)) ?_ ?_
  ·
    refine is_B (V := id1) (is_Top_beginAct) (fun _ => ?_)
    refine is_B (V := id1) (is_Run_remove rfl) (fun _ => ?_)
    refine is_B (V := Int32.toInt) (is_Gt rfl) (fun x2 => ?_)
    exact is_P rfl
  ·
    exact is_P tl_m1
noncomputable def iz_Top_undo (this : Nat) : iM Int :=
  iB (iGt (qm_rf this 3) 2) fun x1 =>
  if ¬ x1 = 0 then
    iB (iz_Past_pop (qm_rf this 3) (qm_rf this 0)) fun _ =>
    iB (iz_Top_changed this) fun _ =>
    iB (iGt (qm_rf this 3) 2) fun x2 =>
    iP x2
  else
    iP (-1)
set_option maxRecDepth 20000 in
set_option maxHeartbeats 2000000 in
theorem is_Top_undo {this : Nat} : iS (jf_Top_undo this) (iz_Top_undo this) Int32.toInt := by
  unfold jf_Top_undo iz_Top_undo
  refine is_B (V := Int32.toInt) (is_Gt rfl) (fun x1 => ?_)
  refine is_if (ti_not (ti_eq rfl tl_0)) ?_ ?_
  ·
    refine is_B (V := id1) (is_Past_pop) (fun _ => ?_)
    refine is_B (V := id1) (is_Top_changed) (fun _ => ?_)
    refine is_B (V := Int32.toInt) (is_Gt rfl) (fun x2 => ?_)
    exact is_P rfl
  ·
    exact is_P tl_m1
noncomputable def iz_Top_keep (this : Nat) (p1 : Int) : iM Int :=
  if p1 < 0 then
    iP (-1)
  else
    if p1 < (iLen (qm_rf this 4)) then
      iB (iLr (qm_rf this 4) p1) fun r1 =>
      iB (iz_Run_copyFrom r1 (qm_rf this 0)) fun _ =>
      iB (iGt this 5) fun x2 =>
      iB (iPt this 5 (ibOr x2 (ibShl 1 (ibAnd p1 31)))) fun _ =>
      iB (iGt (qm_rf this 0) 0) fun x3 =>
      iP x3
    else
      iP (-1)
set_option maxRecDepth 20000 in
set_option maxHeartbeats 2000000 in
theorem is_Top_keep {this : Nat} {p1 : Int32} {p1' : Int} (qp1 : p1.toInt = p1') : iS (jf_Top_keep this p1) (iz_Top_keep this p1') Int32.toInt := by
  subst qp1
  unfold jf_Top_keep iz_Top_keep
  refine is_if (ti_lt rfl tl_0) ?_ ?_
  ·
    exact is_P tl_m1
  ·
    refine is_if (ti_lt rfl (tl_len _)) ?_ ?_
    ·
      refine is_B (V := id1) (is_Lr rfl) (fun r1 => ?_)
      refine is_B (V := id1) (is_Run_copyFrom) (fun _ => ?_)
      refine is_B (V := Int32.toInt) (is_Gt rfl) (fun x2 => ?_)
      refine is_B (V := id1) (is_Pt rfl (ti_or rfl (ti_shl tl_1 (ti_and rfl tl_31)))) (fun _ => ?_)
      refine is_B (V := Int32.toInt) (is_Gt rfl) (fun x3 => ?_)
      exact is_P rfl
    ·
      exact is_P tl_m1
noncomputable def iz_Top_back (this : Nat) (p1 : Int) : iM Int :=
  if p1 < 0 then
    iP (-1)
  else
    if p1 < (iLen (qm_rf this 4)) then
      iB (iGt this 5) fun x1 =>
      if ¬ (ibAnd (ibShr x1 (ibAnd p1 31)) 1) = 0 then
        iB (iLr (qm_rf this 4) p1) fun r2 =>
        iB (iz_Run_copyFrom (qm_rf this 0) r2) fun _ =>
        iB (iPt (qm_rf this 3) 2 0) fun _ =>
        iB (iz_Top_changed this) fun _ =>
        iB (iGt (qm_rf this 0) 0) fun x3 =>
        iP x3
      else
        iP (-2)
    else
      iP (-1)
set_option maxRecDepth 20000 in
set_option maxHeartbeats 2000000 in
theorem is_Top_back {this : Nat} {p1 : Int32} {p1' : Int} (qp1 : p1.toInt = p1') : iS (jf_Top_back this p1) (iz_Top_back this p1') Int32.toInt := by
  subst qp1
  unfold jf_Top_back iz_Top_back
  refine is_if (ti_lt rfl tl_0) ?_ ?_
  ·
    exact is_P tl_m1
  ·
    refine is_if (ti_lt rfl (tl_len _)) ?_ ?_
    ·
      refine is_B (V := Int32.toInt) (is_Gt rfl) (fun x1 => ?_)
      refine is_if (ti_not (ti_eq (ti_and (ti_shr rfl (ti_and rfl tl_31)) tl_1) tl_0)) ?_ ?_
      ·
        refine is_B (V := id1) (is_Lr rfl) (fun r2 => ?_)
        refine is_B (V := id1) (is_Run_copyFrom) (fun _ => ?_)
        refine is_B (V := id1) (is_Pt rfl tl_0) (fun _ => ?_)
        refine is_B (V := id1) (is_Top_changed) (fun _ => ?_)
        refine is_B (V := Int32.toInt) (is_Gt rfl) (fun x3 => ?_)
        exact is_P rfl
      ·
        exact is_P tl_m2
    ·
      exact is_P tl_m1
noncomputable def iz_Top_laidOut (this : Nat) : iM Nat :=
  iB (iGt this 9) fun x1 =>
  if ¬ x1 = 0 then
    iP (qm_rf this 6)
  else
    iB (iz_Press_lay (qm_rf this 6)) fun _ =>
    iB (iPz this 9 1) fun _ =>
    iP (qm_rf this 6)
set_option maxRecDepth 20000 in
set_option maxHeartbeats 2000000 in
theorem is_Top_laidOut {this : Nat} : iS (jf_Top_laidOut this) (iz_Top_laidOut this) id1 := by
  unfold jf_Top_laidOut iz_Top_laidOut
  refine is_B (V := Int32.toInt) (is_Gt rfl) (fun x1 => ?_)
  refine is_if (ti_not (ti_eq rfl tl_0)) ?_ ?_
  ·
    exact is_P rfl
  ·
    refine is_B (V := id1) (is_Press_lay) (fun _ => ?_)
    refine is_B (V := id1) (is_Pz rfl tl_1) (fun _ => ?_)
    exact is_P rfl
noncomputable def iz_Top_block (this : Nat) (p1 : Int) (p2 : Int) : iM Int :=
  iB (iz_Run_has (qm_rf this 0) p1) fun x1 =>
  if ¬ x1 = 0 then
    if p2 = 0 then
      iB (iz_Run_cell (qm_rf this 0) p1 0) fun x2 =>
      iP x2
    else
      if p2 = 1 then
        iB (iz_Run_cell (qm_rf this 0) p1 1) fun x3 =>
        iP x3
      else
        if p2 = 2 then
          iB (iK 13 (iz_Top_laidOut this)) fun r4 =>
          iB (iz_Top_at (qm_rf (qm_rf r4 1) 4) p1) fun x5 =>
          iP x5
        else
          if p2 = 3 then
            iB (iz_Run_cell (qm_rf this 0) p1 2) fun x6 =>
            iP x6
          else
            if p2 = 4 then
              iB (iz_Run_cell (qm_rf this 0) p1 3) fun x7 =>
              iP x7
            else
              if p2 = 5 then
                iB (iz_Run_cell (qm_rf this 0) p1 4) fun x8 =>
                iP x8
              else
                if p2 = 6 then
                  iB (iz_Run_cell (qm_rf this 0) p1 5) fun x9 =>
                  iP x9
                else
                  if p2 = 7 then
                    iB (iz_Run_cell (qm_rf this 0) p1 6) fun x10 =>
                    iP x10
                  else
                    if p2 = 8 then
                      iB (iz_Run_cell (qm_rf this 0) p1 7) fun x11 =>
                      iP x11
                    else
                      iP (-1)
  else
    iP (-1)
set_option maxRecDepth 20000 in
set_option maxHeartbeats 2000000 in
theorem is_Top_block {this : Nat} {p1 : Int32} {p1' : Int} {p2 : Int32} {p2' : Int} (qp1 : p1.toInt = p1') (qp2 : p2.toInt = p2') : iS (jf_Top_block this p1 p2) (iz_Top_block this p1' p2') Int32.toInt := by
  subst qp1 qp2
  unfold jf_Top_block iz_Top_block
  refine is_B (V := Int32.toInt) (is_Run_has rfl) (fun x1 => ?_)
  refine is_if (ti_not (ti_eq rfl tl_0)) ?_ ?_
  ·
    refine is_if (ti_eq rfl tl_0) ?_ ?_
    ·
      refine is_B (V := Int32.toInt) (is_Run_cell rfl tl_0) (fun x2 => ?_)
      exact is_P rfl
    ·
      refine is_if (ti_eq rfl tl_1) ?_ ?_
      ·
        refine is_B (V := Int32.toInt) (is_Run_cell rfl tl_1) (fun x3 => ?_)
        exact is_P rfl
      ·
        refine is_if (ti_eq rfl tl_2) ?_ ?_
        ·
          refine is_B (V := id1) (is_K (is_Top_laidOut)) (fun r4 => ?_)
          refine is_B (V := Int32.toInt) (is_Top_at rfl) (fun x5 => ?_)
          exact is_P rfl
        ·
          refine is_if (ti_eq rfl tl_3) ?_ ?_
          ·
            refine is_B (V := Int32.toInt) (is_Run_cell rfl tl_2) (fun x6 => ?_)
            exact is_P rfl
          ·
            refine is_if (ti_eq rfl tl_4) ?_ ?_
            ·
              refine is_B (V := Int32.toInt) (is_Run_cell rfl tl_3) (fun x7 => ?_)
              exact is_P rfl
            ·
              refine is_if (ti_eq rfl tl_5) ?_ ?_
              ·
                refine is_B (V := Int32.toInt) (is_Run_cell rfl tl_4) (fun x8 => ?_)
                exact is_P rfl
              ·
                refine is_if (ti_eq rfl tl_6) ?_ ?_
                ·
                  refine is_B (V := Int32.toInt) (is_Run_cell rfl tl_5) (fun x9 => ?_)
                  exact is_P rfl
                ·
                  refine is_if (ti_eq rfl tl_7) ?_ ?_
                  ·
                    refine is_B (V := Int32.toInt) (is_Run_cell rfl tl_6) (fun x10 => ?_)
                    exact is_P rfl
                  ·
                    refine is_if (ti_eq rfl tl_8) ?_ ?_
                    ·
                      refine is_B (V := Int32.toInt) (is_Run_cell rfl tl_7) (fun x11 => ?_)
                      exact is_P rfl
                    ·
                      exact is_P tl_m1
  ·
    exact is_P tl_m1
noncomputable def iz_Top_piece (this : Nat) (p1 : Int) (p2 : Int) : iM Int :=
  iB (iK 13 (iz_Top_laidOut this)) fun r1 =>
  if p1 < 0 then
    iP (-1)
  else
    iB (iGt (qm_rf r1 1) 0) fun x2 =>
    if p1 < x2 then
      if p2 = 0 then
        iB (iz_Top_at (qm_rf (qm_rf r1 1) 5) p1) fun x3 =>
        iP x3
      else
        if p2 = 1 then
          iB (iz_Top_at (qm_rf (qm_rf r1 1) 6) p1) fun x4 =>
          iP x4
        else
          if p2 = 2 then
            iB (iz_Top_at (qm_rf (qm_rf r1 1) 7) p1) fun x5 =>
            iP x5
          else
            if p2 = 3 then
              iB (iz_Top_at (qm_rf (qm_rf r1 1) 8) p1) fun x6 =>
              iP x6
            else
              if p2 = 4 then
                iB (iz_Top_at (qm_rf (qm_rf r1 1) 9) p1) fun x7 =>
                iP x7
              else
                if p2 = 5 then
                  iA (p1 + 1) fun y1 =>
                  iB (iz_Flow_mayEnd (qm_rf r1 1) y1) fun x8 =>
                  if x8 = 0 then
                    iP 0
                  else
                    iP 1
                else
                  if p2 = 6 then
                    iB (iz_Top_at (qm_rf (qm_rf r1 1) 10) p1) fun x9 =>
                    iP x9
                  else
                    iP (-1)
    else
      iP (-1)
set_option maxRecDepth 20000 in
set_option maxHeartbeats 2000000 in
theorem is_Top_piece {this : Nat} {p1 : Int32} {p1' : Int} {p2 : Int32} {p2' : Int} (qp1 : p1.toInt = p1') (qp2 : p2.toInt = p2') : iS (jf_Top_piece this p1 p2) (iz_Top_piece this p1' p2') Int32.toInt := by
  subst qp1 qp2
  unfold jf_Top_piece iz_Top_piece
  refine is_B (V := id1) (is_K (is_Top_laidOut)) (fun r1 => ?_)
  refine is_if (ti_lt rfl tl_0) ?_ ?_
  ·
    exact is_P tl_m1
  ·
    refine is_B (V := Int32.toInt) (is_Gt rfl) (fun x2 => ?_)
    refine is_if (ti_lt rfl rfl) ?_ ?_
    ·
      refine is_if (ti_eq rfl tl_0) ?_ ?_
      ·
        refine is_B (V := Int32.toInt) (is_Top_at rfl) (fun x3 => ?_)
        exact is_P rfl
      ·
        refine is_if (ti_eq rfl tl_1) ?_ ?_
        ·
          refine is_B (V := Int32.toInt) (is_Top_at rfl) (fun x4 => ?_)
          exact is_P rfl
        ·
          refine is_if (ti_eq rfl tl_2) ?_ ?_
          ·
            refine is_B (V := Int32.toInt) (is_Top_at rfl) (fun x5 => ?_)
            exact is_P rfl
          ·
            refine is_if (ti_eq rfl tl_3) ?_ ?_
            ·
              refine is_B (V := Int32.toInt) (is_Top_at rfl) (fun x6 => ?_)
              exact is_P rfl
            ·
              refine is_if (ti_eq rfl tl_4) ?_ ?_
              ·
                refine is_B (V := Int32.toInt) (is_Top_at rfl) (fun x7 => ?_)
                exact is_P rfl
              ·
                refine is_if (ti_eq rfl tl_5) ?_ ?_
                ·
                  refine is_A (fun h1 => ?_)
                  refine is_B (V := Int32.toInt) (is_Flow_mayEnd (ti_add rfl tl_1 h1)) (fun x8 => ?_)
                  refine is_if (ti_eq rfl tl_0) ?_ ?_
                  ·
                    exact is_P tl_0
                  ·
                    exact is_P tl_1
                ·
                  refine is_if (ti_eq rfl tl_6) ?_ ?_
                  ·
                    refine is_B (V := Int32.toInt) (is_Top_at rfl) (fun x9 => ?_)
                    exact is_P rfl
                  ·
                    exact is_P tl_m1
    ·
      exact is_P tl_m1
noncomputable def iz_Top_section (this : Nat) (p1 : Int) (p2 : Int) : iM Int :=
  iB (iK 13 (iz_Top_laidOut this)) fun r1 =>
  if p1 < 0 then
    iP (-1)
  else
    iB (iGt (qm_rf r1 1) 1) fun x2 =>
    if p1 < x2 then
      iB (iz_Top_at (qm_rf (qm_rf r1 1) 16) p1) fun x3 =>
      iB (iz_Top_at (qm_rf (qm_rf r1 1) 17) p1) fun x4 =>
      if p2 = 0 then
        iP x3
      else
        if p2 = 1 then
          iP x4
        else
          if p2 = 2 then
            iB (iz_Top_at (qm_rf (qm_rf r1 1) 18) p1) fun x5 =>
            iP x5
          else
            if p2 = 3 then
              iB (iz_Flow_endsIn (qm_rf r1 1) x3 x4) fun x6 =>
              iP x6
            else
              if p2 = 4 then
                iB (iz_Flow_ownLines (qm_rf r1 1) x3 x4) fun x7 =>
                iP x7
              else
                iP (-1)
    else
      iP (-1)
set_option maxRecDepth 20000 in
set_option maxHeartbeats 2000000 in
theorem is_Top_section {this : Nat} {p1 : Int32} {p1' : Int} {p2 : Int32} {p2' : Int} (qp1 : p1.toInt = p1') (qp2 : p2.toInt = p2') : iS (jf_Top_section this p1 p2) (iz_Top_section this p1' p2') Int32.toInt := by
  subst qp1 qp2
  unfold jf_Top_section iz_Top_section
  refine is_B (V := id1) (is_K (is_Top_laidOut)) (fun r1 => ?_)
  refine is_if (ti_lt rfl tl_0) ?_ ?_
  ·
    exact is_P tl_m1
  ·
    refine is_B (V := Int32.toInt) (is_Gt rfl) (fun x2 => ?_)
    refine is_if (ti_lt rfl rfl) ?_ ?_
    ·
      refine is_B (V := Int32.toInt) (is_Top_at rfl) (fun x3 => ?_)
      refine is_B (V := Int32.toInt) (is_Top_at rfl) (fun x4 => ?_)
      refine is_if (ti_eq rfl tl_0) ?_ ?_
      ·
        exact is_P rfl
      ·
        refine is_if (ti_eq rfl tl_1) ?_ ?_
        ·
          exact is_P rfl
        ·
          refine is_if (ti_eq rfl tl_2) ?_ ?_
          ·
            refine is_B (V := Int32.toInt) (is_Top_at rfl) (fun x5 => ?_)
            exact is_P rfl
          ·
            refine is_if (ti_eq rfl tl_3) ?_ ?_
            ·
              refine is_B (V := Int32.toInt) (is_Flow_endsIn rfl rfl) (fun x6 => ?_)
              exact is_P rfl
            ·
              refine is_if (ti_eq rfl tl_4) ?_ ?_
              ·
                refine is_B (V := Int32.toInt) (is_Flow_ownLines rfl rfl) (fun x7 => ?_)
                exact is_P rfl
              ·
                exact is_P tl_m1
    ·
      exact is_P tl_m1
noncomputable def iz_Top_count (this : Nat) (p1 : Int) : iM Int :=
  iB (α := (Unit ⊕ Int)) (
    if p1 < 10 then
      iP (Sum.inl ())
    else
      if 18 ≤ p1 then
        iP (Sum.inl ())
      else
        iA (p1 - 10) fun y1 =>
        iB (iz_Run_setting (qm_rf this 0) y1) fun x2 =>
        iP (Sum.inr x2)) (Sum.elim (fun s1 =>
    if p1 = 0 then
      iB (iGt (qm_rf this 0) 0) fun x3 =>
      iP x3
    else
      if p1 = 1 then
        iB (iK 13 (iz_Top_laidOut this)) fun r4 =>
        iB (iGt (qm_rf r4 1) 0) fun x5 =>
        iP x5
      else
        if p1 = 2 then
          iB (iK 13 (iz_Top_laidOut this)) fun r6 =>
          iB (iGt (qm_rf r6 1) 1) fun x7 =>
          iP x7
        else
          if p1 = 3 then
            iB (iK 13 (iz_Top_laidOut this)) fun r8 =>
            iB (iGt (qm_rf r8 1) 2) fun x9 =>
            iP x9
          else
            if p1 = 4 then
              iB (iGt (qm_rf this 3) 2) fun x10 =>
              iP x10
            else
              if p1 = 5 then
                iB (iGt (qm_rf this 1) 1) fun x11 =>
                iP x11
              else
                if p1 = 6 then
                  iB (iGt this 5) fun x12 =>
                  iP x12
                else
                  if p1 = 7 then
                    iB (iK 13 (iz_Top_laidOut this)) fun r13 =>
                    iB (iz_Flow_spans (qm_rf r13 1)) fun x14 =>
                    iP x14
                  else
                    iP (-1)) iP)
set_option maxRecDepth 20000 in
set_option maxHeartbeats 2000000 in
theorem is_Top_count {this : Nat} {p1 : Int32} {p1' : Int} (qp1 : p1.toInt = p1') : iS (jf_Top_count this p1) (iz_Top_count this p1') Int32.toInt := by
  subst qp1
  unfold jf_Top_count iz_Top_count
  refine is_E (V := id1) ?_ (fun s1 => ?_)
  ·
    refine is_if (ti_lt rfl tl_10) ?_ ?_
    ·
      exact is_P (pinl rfl)
    ·
      refine is_if (ti_le tl_18 rfl) ?_ ?_
      ·
        exact is_P (pinl rfl)
      ·
        refine is_A (fun h1 => ?_)
        refine is_B (V := Int32.toInt) (is_Run_setting (ti_sub rfl tl_10 h1)) (fun x2 => ?_)
        exact is_P (pinr rfl)
  ·
    refine is_if (ti_eq rfl tl_0) ?_ ?_
    ·
      refine is_B (V := Int32.toInt) (is_Gt rfl) (fun x3 => ?_)
      exact is_P rfl
    ·
      refine is_if (ti_eq rfl tl_1) ?_ ?_
      ·
        refine is_B (V := id1) (is_K (is_Top_laidOut)) (fun r4 => ?_)
        refine is_B (V := Int32.toInt) (is_Gt rfl) (fun x5 => ?_)
        exact is_P rfl
      ·
        refine is_if (ti_eq rfl tl_2) ?_ ?_
        ·
          refine is_B (V := id1) (is_K (is_Top_laidOut)) (fun r6 => ?_)
          refine is_B (V := Int32.toInt) (is_Gt rfl) (fun x7 => ?_)
          exact is_P rfl
        ·
          refine is_if (ti_eq rfl tl_3) ?_ ?_
          ·
            refine is_B (V := id1) (is_K (is_Top_laidOut)) (fun r8 => ?_)
            refine is_B (V := Int32.toInt) (is_Gt rfl) (fun x9 => ?_)
            exact is_P rfl
          ·
            refine is_if (ti_eq rfl tl_4) ?_ ?_
            ·
              refine is_B (V := Int32.toInt) (is_Gt rfl) (fun x10 => ?_)
              exact is_P rfl
            ·
              refine is_if (ti_eq rfl tl_5) ?_ ?_
              ·
                refine is_B (V := Int32.toInt) (is_Gt rfl) (fun x11 => ?_)
                exact is_P rfl
              ·
                refine is_if (ti_eq rfl tl_6) ?_ ?_
                ·
                  refine is_B (V := Int32.toInt) (is_Gt rfl) (fun x12 => ?_)
                  exact is_P rfl
                ·
                  refine is_if (ti_eq rfl tl_7) ?_ ?_
                  ·
                    refine is_B (V := id1) (is_K (is_Top_laidOut)) (fun r13 => ?_)
                    refine is_B (V := Int32.toInt) (is_Flow_spans) (fun x14 => ?_)
                    exact is_P rfl
                  ·
                    exact is_P tl_m1
noncomputable def iz_Top_pouredNow (this : Nat) : iM Nat :=
  iB (iK 13 (iz_Top_laidOut this)) fun r1 =>
  iB (iGt this 10) fun x2 =>
  if ¬ x2 = 0 then
    iP r1
  else
    iB (iz_Press_pourAll r1) fun x3 =>
    iB (iPz this 10 1) fun _ =>
    iP r1
set_option maxRecDepth 20000 in
set_option maxHeartbeats 2000000 in
theorem is_Top_pouredNow {this : Nat} : iS (jf_Top_pouredNow this) (iz_Top_pouredNow this) id1 := by
  unfold jf_Top_pouredNow iz_Top_pouredNow
  refine is_B (V := id1) (is_K (is_Top_laidOut)) (fun r1 => ?_)
  refine is_B (V := Int32.toInt) (is_Gt rfl) (fun x2 => ?_)
  refine is_if (ti_not (ti_eq rfl tl_0)) ?_ ?_
  ·
    exact is_P rfl
  ·
    refine is_B (V := Int32.toInt) (is_Press_pourAll) (fun x3 => ?_)
    refine is_B (V := id1) (is_Pz rfl tl_1) (fun _ => ?_)
    exact is_P rfl
noncomputable def iz_Top_pour (this : Nat) : iM Int :=
  iB (iK 13 (iz_Top_pouredNow this)) fun r1 =>
  iB (iz_Press_answer r1) fun x2 =>
  iP x2
set_option maxRecDepth 20000 in
set_option maxHeartbeats 2000000 in
theorem is_Top_pour {this : Nat} : iS (jf_Top_pour this) (iz_Top_pour this) Int32.toInt := by
  unfold jf_Top_pour iz_Top_pour
  refine is_B (V := id1) (is_K (is_Top_pouredNow)) (fun r1 => ?_)
  refine is_B (V := Int32.toInt) (is_Press_answer) (fun x2 => ?_)
  exact is_P rfl
noncomputable def iz_Top_column (this : Nat) (p1 : Int) (p2 : Int) : iM Int :=
  iB (iK 13 (iz_Top_pouredNow this)) fun r1 =>
  iB (α := (Unit ⊕ Int)) (
    if ¬ p1 = (-1) then
      iP (Sum.inl ())
    else
      if ¬ p2 = 0 then
        iP (Sum.inl ())
      else
        iB (iGt r1 4) fun x3 =>
        iP (Sum.inr x3)) (Sum.elim (fun s2 =>
    if p1 < 0 then
      iP (-1)
    else
      iB (iGt r1 4) fun x4 =>
      if x4 ≤ p1 then
        iP (-1)
      else
        if p2 < 0 then
          iP (-1)
        else
          if p2 < 12 then
            iB (iz_Press_cell r1 p1 p2) fun x5 =>
            iP x5
          else
            iP (-1)) iP)
set_option maxRecDepth 20000 in
set_option maxHeartbeats 2000000 in
theorem is_Top_column {this : Nat} {p1 : Int32} {p1' : Int} {p2 : Int32} {p2' : Int} (qp1 : p1.toInt = p1') (qp2 : p2.toInt = p2') : iS (jf_Top_column this p1 p2) (iz_Top_column this p1' p2') Int32.toInt := by
  subst qp1 qp2
  unfold jf_Top_column iz_Top_column
  refine is_B (V := id1) (is_K (is_Top_pouredNow)) (fun r1 => ?_)
  refine is_E (V := id1) ?_ (fun s2 => ?_)
  ·
    refine is_if (ti_not (ti_eq rfl tl_m1)) ?_ ?_
    ·
      exact is_P (pinl rfl)
    ·
      refine is_if (ti_not (ti_eq rfl tl_0)) ?_ ?_
      ·
        exact is_P (pinl rfl)
      ·
        refine is_B (V := Int32.toInt) (is_Gt rfl) (fun x3 => ?_)
        exact is_P (pinr rfl)
  ·
    refine is_if (ti_lt rfl tl_0) ?_ ?_
    ·
      exact is_P tl_m1
    ·
      refine is_B (V := Int32.toInt) (is_Gt rfl) (fun x4 => ?_)
      refine is_if (ti_le rfl rfl) ?_ ?_
      ·
        exact is_P tl_m1
      ·
        refine is_if (ti_lt rfl tl_0) ?_ ?_
        ·
          exact is_P tl_m1
        ·
          refine is_if (ti_lt rfl tl_12) ?_ ?_
          ·
            refine is_B (V := Int32.toInt) (is_Press_cell rfl rfl) (fun x5 => ?_)
            exact is_P rfl
          ·
            exact is_P tl_m1
noncomputable def iz_Top_note (this : Nat) (p1 : Int) (p2 : Int) : iM Int :=
  iB (iK 13 (iz_Top_pouredNow this)) fun r1 =>
  iB (α := (Unit ⊕ Int)) (
    if ¬ p1 = (-1) then
      iP (Sum.inl ())
    else
      if ¬ p2 = 0 then
        iP (Sum.inl ())
      else
        iB (iGt (qm_rf r1 1) 2) fun x3 =>
        iP (Sum.inr x3)) (Sum.elim (fun s2 =>
    if p1 < 0 then
      iP (-1)
    else
      iB (iGt (qm_rf r1 1) 2) fun x4 =>
      if x4 ≤ p1 then
        iP (-1)
      else
        if p2 < 0 then
          iP (-1)
        else
          if p2 ≤ 3 then
            iB (iz_Top_at (qm_rf (qm_rf r1 1) 19) p1) fun x5 =>
            if p2 = 0 then
              iP x5
            else
              if p2 = 1 then
                iB (iz_Top_at (qm_rf (qm_rf r1 1) 9) x5) fun x6 =>
                iP x6
              else
                if p2 = 2 then
                  iB (iz_Press_linesByMark r1 x5) fun x7 =>
                  iP x7
                else
                  iB (iz_Press_columnsOfNote r1 x5) fun x8 =>
                  iP x8
          else
            iP (-1)) iP)
set_option maxRecDepth 20000 in
set_option maxHeartbeats 2000000 in
theorem is_Top_note {this : Nat} {p1 : Int32} {p1' : Int} {p2 : Int32} {p2' : Int} (qp1 : p1.toInt = p1') (qp2 : p2.toInt = p2') : iS (jf_Top_note this p1 p2) (iz_Top_note this p1' p2') Int32.toInt := by
  subst qp1 qp2
  unfold jf_Top_note iz_Top_note
  refine is_B (V := id1) (is_K (is_Top_pouredNow)) (fun r1 => ?_)
  refine is_E (V := id1) ?_ (fun s2 => ?_)
  ·
    refine is_if (ti_not (ti_eq rfl tl_m1)) ?_ ?_
    ·
      exact is_P (pinl rfl)
    ·
      refine is_if (ti_not (ti_eq rfl tl_0)) ?_ ?_
      ·
        exact is_P (pinl rfl)
      ·
        refine is_B (V := Int32.toInt) (is_Gt rfl) (fun x3 => ?_)
        exact is_P (pinr rfl)
  ·
    refine is_if (ti_lt rfl tl_0) ?_ ?_
    ·
      exact is_P tl_m1
    ·
      refine is_B (V := Int32.toInt) (is_Gt rfl) (fun x4 => ?_)
      refine is_if (ti_le rfl rfl) ?_ ?_
      ·
        exact is_P tl_m1
      ·
        refine is_if (ti_lt rfl tl_0) ?_ ?_
        ·
          exact is_P tl_m1
        ·
          refine is_if (ti_le rfl tl_3) ?_ ?_
          ·
            refine is_B (V := Int32.toInt) (is_Top_at rfl) (fun x5 => ?_)
            refine is_if (ti_eq rfl tl_0) ?_ ?_
            ·
              exact is_P rfl
            ·
              refine is_if (ti_eq rfl tl_1) ?_ ?_
              ·
                refine is_B (V := Int32.toInt) (is_Top_at rfl) (fun x6 => ?_)
                exact is_P rfl
              ·
                refine is_if (ti_eq rfl tl_2) ?_ ?_
                ·
                  refine is_B (V := Int32.toInt) (is_Press_linesByMark rfl) (fun x7 => ?_)
                  exact is_P rfl
                ·
                  refine is_B (V := Int32.toInt) (is_Press_columnsOfNote rfl) (fun x8 => ?_)
                  exact is_P rfl
          ·
            exact is_P tl_m1
noncomputable def iz_Top_loose (this : Nat) (p1 : Int) : iM Int :=
  if p1 < 0 then
    iP (-1)
  else
    if p1 ≤ 2 then
      iB (iK 13 (iz_Top_pouredNow this)) fun r1 =>
      iB (iGt r1 9) fun x2 =>
      if x2 = (-1) then
        iB (α := (Int × (Int × Int))) (
          iW (S := (Int × (Int × (Int × Int)))) (α := (Int × (Int × Int))) (fun s4 =>
            iB (iGt r1 4) fun x5 =>
            if x5 ≤ s4.2.2.2 then
              iP (Sum.inr (s4.1, (s4.2.1, s4.2.2.1)))
            else
              iB (iz_Press_cell r1 s4.2.2.2 10) fun x6 =>
              iB (iz_Press_used r1 s4.2.2.2) fun x7 =>
              iA (x6 - x7) fun y1 =>
              iB (iP y1) fun x8 =>
              iA (s4.1 + x8) fun y2 =>
              iB (iP y2) fun x9 =>
              iB (α := (Int × Int)) (
                iB (α := (Unit ⊕ (Int × Int))) (
                  if s4.2.2.1 = (-2) then
                    iP (Sum.inl ())
                  else
                    if x8 ≤ s4.2.1 then
                      iP (Sum.inr (s4.2.1, s4.2.2.1))
                    else
                      iP (Sum.inl ())) (Sum.elim (fun s11 =>
                  iP (x8, s4.2.2.2)) iP)) fun s10 =>
              iA (s4.2.2.2 + 1) fun y3 =>
              iB (iP y3) fun x12 =>
              iP (Sum.inl (x9, (s10.1, (s10.2, x12))))) (0, (0, ((-2), 0)))) fun s3 =>
        if p1 = 0 then
          iP s3.1
        else
          if p1 = 1 then
            iP s3.2.1
          else
            iP s3.2.2
      else
        iB (iz_Press_answer r1) fun x13 =>
        iP x13
    else
      iP (-1)
set_option maxRecDepth 20000 in
set_option maxHeartbeats 2000000 in
theorem is_Top_loose {this : Nat} {p1 : Int32} {p1' : Int} (qp1 : p1.toInt = p1') : iS (jf_Top_loose this p1) (iz_Top_loose this p1') Int32.toInt := by
  subst qp1
  unfold jf_Top_loose iz_Top_loose
  refine is_if (ti_lt rfl tl_0) ?_ ?_
  ·
    exact is_P tl_m1
  ·
    refine is_if (ti_le rfl tl_2) ?_ ?_
    ·
      refine is_B (V := id1) (is_K (is_Top_pouredNow)) (fun r1 => ?_)
      refine is_B (V := Int32.toInt) (is_Gt rfl) (fun x2 => ?_)
      refine is_if (ti_eq rfl tl_m1) ?_ ?_
      ·
        refine is_B (V := (ip2 Int32.toInt (ip2 Int32.toInt Int32.toInt))) ?_ (fun s3 => ?_)
        ·
          refine is_W (V := (ip2 Int32.toInt (ip2 Int32.toInt (ip2 Int32.toInt Int32.toInt)))) (W := (ip2 Int32.toInt (ip2 Int32.toInt Int32.toInt))) (fun s4 => ?_) (ppair tl_0 (ppair tl_0 (ppair tl_m2 tl_0)))
          refine is_B (V := Int32.toInt) (is_Gt rfl) (fun x5 => ?_)
          refine is_if (ti_le rfl rfl) ?_ ?_
          ·
            exact is_P (pinr (ppair rfl (ppair rfl rfl)))
          ·
            refine is_B (V := Int32.toInt) (is_Press_cell rfl tl_10) (fun x6 => ?_)
            refine is_B (V := Int32.toInt) (is_Press_used rfl) (fun x7 => ?_)
            refine is_A (fun h1 => ?_)
            refine is_B (V := Int32.toInt) (is_P (ti_sub rfl rfl h1)) (fun x8 => ?_)
            refine is_A (fun h2 => ?_)
            refine is_B (V := Int32.toInt) (is_P (ti_add rfl rfl h2)) (fun x9 => ?_)
            refine is_B (V := (ip2 Int32.toInt Int32.toInt)) ?_ (fun s10 => ?_)
            ·
              refine is_E (V := id1) ?_ (fun s11 => ?_)
              ·
                refine is_if (ti_eq rfl tl_m2) ?_ ?_
                ·
                  exact is_P (pinl rfl)
                ·
                  refine is_if (ti_le rfl rfl) ?_ ?_
                  ·
                    exact is_P (pinr (ppair rfl rfl))
                  ·
                    exact is_P (pinl rfl)
              ·
                exact is_P (ppair rfl rfl)
            refine is_A (fun h3 => ?_)
            refine is_B (V := Int32.toInt) (is_P (ti_add rfl tl_1 h3)) (fun x12 => ?_)
            exact is_P (pinl (ppair rfl (ppair rfl (ppair rfl rfl))))
        refine is_if (ti_eq rfl tl_0) ?_ ?_
        ·
          exact is_P rfl
        ·
          refine is_if (ti_eq rfl tl_1) ?_ ?_
          ·
            exact is_P rfl
          ·
            exact is_P rfl
      ·
        refine is_B (V := Int32.toInt) (is_Press_answer) (fun x13 => ?_)
        exact is_P rfl
    ·
      exact is_P tl_m1
noncomputable def iz_Top_asks (this : Nat) (p1 : Int) (p2 : Int) : iM Int :=
  if p1 < 0 then
    iP 0
  else
    iB (iK 13 (iz_Top_laidOut this)) fun r1 =>
    iB (iGt (qm_rf r1 1) 1) fun x2 =>
    if x2 ≤ p1 then
      iP 0
    else
      if p2 < 0 then
        iP 0
      else
        if 2000 < p2 then
          iP 0
        else
          iP 1
set_option maxRecDepth 20000 in
set_option maxHeartbeats 2000000 in
theorem is_Top_asks {this : Nat} {p1 : Int32} {p1' : Int} {p2 : Int32} {p2' : Int} (qp1 : p1.toInt = p1') (qp2 : p2.toInt = p2') : iS (jf_Top_asks this p1 p2) (iz_Top_asks this p1' p2') Int32.toInt := by
  subst qp1 qp2
  unfold jf_Top_asks iz_Top_asks
  refine is_if (ti_lt rfl tl_0) ?_ ?_
  ·
    exact is_P tl_0
  ·
    refine is_B (V := id1) (is_K (is_Top_laidOut)) (fun r1 => ?_)
    refine is_B (V := Int32.toInt) (is_Gt rfl) (fun x2 => ?_)
    refine is_if (ti_le rfl rfl) ?_ ?_
    ·
      exact is_P tl_0
    ·
      refine is_if (ti_lt rfl tl_0) ?_ ?_
      ·
        exact is_P tl_0
      ·
        refine is_if (ti_lt tl_2000 rfl) ?_ ?_
        ·
          exact is_P tl_0
        ·
          exact is_P tl_1
noncomputable def iz_Top_least (this : Nat) (p1 : Int) : iM Int :=
  iB (iz_Top_asks this p1 0) fun x1 =>
  if ¬ x1 = 0 then
    iB (iz_Fitter_leastOf (qm_rf (qm_rf this 6) 2) p1) fun x2 =>
    iP x2
  else
    iP (-1)
set_option maxRecDepth 20000 in
set_option maxHeartbeats 2000000 in
theorem is_Top_least {this : Nat} {p1 : Int32} {p1' : Int} (qp1 : p1.toInt = p1') : iS (jf_Top_least this p1) (iz_Top_least this p1') Int32.toInt := by
  subst qp1
  unfold jf_Top_least iz_Top_least
  refine is_B (V := Int32.toInt) (is_Top_asks rfl tl_0) (fun x1 => ?_)
  refine is_if (ti_not (ti_eq rfl tl_0)) ?_ ?_
  ·
    refine is_B (V := Int32.toInt) (is_Fitter_leastOf rfl) (fun x2 => ?_)
    exact is_P rfl
  ·
    exact is_P tl_m1
noncomputable def iz_Teller_isWord (this : Nat) (p1 : Int) (p2 : Int) (p3 : Int) : iM Int :=
  iA (p3 - p2) fun y1 =>
  iB (iP y1) fun x1 =>
  if p1 < 0 then
    iP 0
  else
    if x1 ≤ 0 then
      iP 0
    else
      iB (iz_String_length 408) fun x2 =>
      iA (p1 + x1) fun y2 =>
      if x2 ≤ y2 then
        iP 0
      else
        iA (p1 + x1) fun y3 =>
        iB (iz_String_charAt 408 y3) fun x3 =>
        if x3 = 32 then
          iB (α := (Unit ⊕ Int)) (
            iW (S := Int) (α := (Unit ⊕ Int)) (fun s5 =>
              if x1 ≤ s5 then
                iP (Sum.inr (Sum.inl ()))
              else
                iA (p1 + s5) fun y4 =>
                iB (iz_String_charAt 408 y4) fun x6 =>
                iA (p2 + s5) fun y5 =>
                iB (iz_Top_at (qm_rf (qm_rf this 0) 0) y5) fun x7 =>
                if x6 = x7 then
                  iA (s5 + 1) fun y6 =>
                  iB (iP y6) fun x8 =>
                  iP (Sum.inl x8)
                else
                  iP (Sum.inr (Sum.inr 0))) 0) (Sum.elim (fun s4 =>
            iP 1) iP)
        else
          iP 0
set_option maxRecDepth 20000 in
set_option maxHeartbeats 2000000 in
theorem is_Teller_isWord {this : Nat} {p1 : Int32} {p1' : Int} {p2 : Int32} {p2' : Int} {p3 : Int32} {p3' : Int} (qp1 : p1.toInt = p1') (qp2 : p2.toInt = p2') (qp3 : p3.toInt = p3') : iS (jf_Teller_isWord this p1 p2 p3) (iz_Teller_isWord this p1' p2' p3') Int32.toInt := by
  subst qp1 qp2 qp3
  unfold jf_Teller_isWord iz_Teller_isWord
  refine is_A (fun h1 => ?_)
  refine is_B (V := Int32.toInt) (is_P (ti_sub rfl rfl h1)) (fun x1 => ?_)
  refine is_if (ti_lt rfl tl_0) ?_ ?_
  ·
    exact is_P tl_0
  ·
    refine is_if (ti_le rfl tl_0) ?_ ?_
    ·
      exact is_P tl_0
    ·
      refine is_B (V := Int32.toInt) (is_String_length) (fun x2 => ?_)
      refine is_A (fun h2 => ?_)
      refine is_if (ti_le rfl (ti_add rfl rfl h2)) ?_ ?_
      ·
        exact is_P tl_0
      ·
        refine is_A (fun h3 => ?_)
        refine is_B (V := Int32.toInt) (is_String_charAt (ti_add rfl rfl h3)) (fun x3 => ?_)
        refine is_if (ti_eq rfl tl_32) ?_ ?_
        ·
          refine is_E (V := id1) ?_ (fun s4 => ?_)
          ·
            refine is_W (V := Int32.toInt) (W := (is2 id1 Int32.toInt)) (fun s5 => ?_) tl_0
            refine is_if (ti_le rfl rfl) ?_ ?_
            ·
              exact is_P (pinr (pinl rfl))
            ·
              refine is_A (fun h4 => ?_)
              refine is_B (V := Int32.toInt) (is_String_charAt (ti_add rfl rfl h4)) (fun x6 => ?_)
              refine is_A (fun h5 => ?_)
              refine is_B (V := Int32.toInt) (is_Top_at (ti_add rfl rfl h5)) (fun x7 => ?_)
              refine is_if (ti_eq rfl rfl) ?_ ?_
              ·
                refine is_A (fun h6 => ?_)
                refine is_B (V := Int32.toInt) (is_P (ti_add rfl tl_1 h6)) (fun x8 => ?_)
                exact is_P (pinl rfl)
              ·
                exact is_P (pinr (pinr tl_0))
          ·
            exact is_P tl_1
        ·
          exact is_P tl_0
noncomputable def iz_Teller_wordOf (this : Nat) (p1 : Int) (p2 : Int) : iM Int :=
  iB (α := (Unit ⊕ Int)) (
    iW (S := (Int × Int)) (α := (Unit ⊕ Int)) (fun s2 =>
      iB (iz_String_length 408) fun x3 =>
      if x3 ≤ s2.2 then
        iP (Sum.inr (Sum.inl ()))
      else
        iB (iz_String_charAt 408 s2.2) fun x4 =>
        iB (α := (Int ⊕ ((Int × Int) ⊕ (Unit ⊕ Int)))) (
          if ¬ x4 = 32 then
            iP (Sum.inl s2.1)
          else
            iA (s2.1 + 1) fun y1 =>
            iB (iP y1) fun x6 =>
            iA (s2.2 + 1) fun y2 =>
            iB (iz_Teller_isWord this y2 p1 p2) fun x7 =>
            if x7 = 0 then
              iP (Sum.inl x6)
            else
              iP (Sum.inr (Sum.inr (Sum.inr x6)))) (Sum.elim (fun s5 =>
          iA (s2.2 + 1) fun y3 =>
          iB (iP y3) fun x8 =>
          iP (Sum.inl (s5, x8))) iP)) ((-1), 0)) (Sum.elim (fun s1 =>
    iP (-1)) iP)
set_option maxRecDepth 20000 in
set_option maxHeartbeats 2000000 in
theorem is_Teller_wordOf {this : Nat} {p1 : Int32} {p1' : Int} {p2 : Int32} {p2' : Int} (qp1 : p1.toInt = p1') (qp2 : p2.toInt = p2') : iS (jf_Teller_wordOf this p1 p2) (iz_Teller_wordOf this p1' p2') Int32.toInt := by
  subst qp1 qp2
  unfold jf_Teller_wordOf iz_Teller_wordOf
  refine is_E (V := id1) ?_ (fun s1 => ?_)
  ·
    refine is_W (V := (ip2 Int32.toInt Int32.toInt)) (W := (is2 id1 Int32.toInt)) (fun s2 => ?_) (ppair tl_m1 tl_0)
    refine is_B (V := Int32.toInt) (is_String_length) (fun x3 => ?_)
    refine is_if (ti_le rfl rfl) ?_ ?_
    ·
      exact is_P (pinr (pinl rfl))
    ·
      refine is_B (V := Int32.toInt) (is_String_charAt rfl) (fun x4 => ?_)
      refine is_E (V := Int32.toInt) ?_ (fun s5 => ?_)
      ·
        refine is_if (ti_not (ti_eq rfl tl_32)) ?_ ?_
        ·
          exact is_P (pinl rfl)
        ·
          refine is_A (fun h1 => ?_)
          refine is_B (V := Int32.toInt) (is_P (ti_add rfl tl_1 h1)) (fun x6 => ?_)
          refine is_A (fun h2 => ?_)
          refine is_B (V := Int32.toInt) (is_Teller_isWord (ti_add rfl tl_1 h2) rfl rfl) (fun x7 => ?_)
          refine is_if (ti_eq rfl tl_0) ?_ ?_
          ·
            exact is_P (pinl rfl)
          ·
            exact is_P (pinr (pinr (pinr rfl)))
      ·
        refine is_A (fun h3 => ?_)
        refine is_B (V := Int32.toInt) (is_P (ti_add rfl tl_1 h3)) (fun x8 => ?_)
        exact is_P (pinl (ppair rfl rfl))
  ·
    exact is_P tl_m1
noncomputable def iz_Teller_split (this : Nat) : iM Unit :=
  iB (α := Int) (
    iW (S := (Int × Int)) (α := Int) (fun s2 =>
      iB (iGt (qm_rf this 0) 1) fun x3 =>
      if x3 ≤ s2.2 then
        iP (Sum.inr s2.1)
      else
        iA (s2.1 + 1) fun y1 =>
        if 401 ≤ y1 then
          iP (Sum.inr s2.1)
        else
          iB (iz_Top_at (qm_rf (qm_rf this 0) 0) s2.2) fun x4 =>
          iA (s2.2 + 1) fun y2 =>
          iB (iP y2) fun x5 =>
          iB (α := (Int × Int)) (
            if x4 = 32 then
              iP (s2.1, x5)
            else
              iB (iz_Teller_signOf x4) fun x7 =>
              iA (x5 - 1) fun y3 =>
              iB (iSt (qm_rf this 3) s2.1 y3) fun _ =>
              iB (iSt (qm_rf this 2) s2.1 x7) fun _ =>
              iB (α := Int) (
                iW (S := Int) (α := Int) (fun s9 =>
                  iB (α := (Unit ⊕ (Int ⊕ Int))) (
                    if x7 = 0 then
                      iP (Sum.inl ())
                    else
                      if ¬ x7 = 1 then
                        iP (Sum.inr (Sum.inr s9))
                      else
                        iP (Sum.inl ())) (Sum.elim (fun s10 =>
                    iB (iGt (qm_rf this 0) 1) fun x11 =>
                    if x11 ≤ s9 then
                      iP (Sum.inr s9)
                    else
                      iB (iz_Top_at (qm_rf (qm_rf this 0) 0) s9) fun x12 =>
                      iB (iz_Teller_signOf x12) fun x13 =>
                      if ¬ x13 = x7 then
                        iP (Sum.inr s9)
                      else
                        iA (s9 + 1) fun y4 =>
                        iB (iP y4) fun x14 =>
                        iP (Sum.inl x14)) iP)) x5) fun s8 =>
              iB (α := Int) (
                if ¬ x7 = 0 then
                  iB (iLd (qm_rf this 3) s2.1) fun x16 =>
                  iB (iz_Teller_numberOf this x16 s8) fun x17 =>
                  iP x17
                else
                  iB (iLd (qm_rf this 3) s2.1) fun x18 =>
                  iB (iz_Teller_wordOf this x18 s8) fun x19 =>
                  iP x19) fun s15 =>
              iB (iSt (qm_rf this 4) s2.1 s15) fun _ =>
              iA (s2.1 + 1) fun y5 =>
              iB (iP y5) fun x20 =>
              iP (x20, s8)) fun s6 =>
          iP (Sum.inl (s6.1, s6.2))) (0, 0)) fun s1 =>
  iB (iSt (qm_rf this 2) s1 4) fun _ =>
  iB (iGt (qm_rf this 0) 1) fun x21 =>
  iB (iSt (qm_rf this 3) s1 x21) fun _ =>
  iP ()
set_option maxRecDepth 20000 in
set_option maxHeartbeats 2000000 in
theorem is_Teller_split {this : Nat} : iS (jf_Teller_split this) (iz_Teller_split this) id1 := by
  unfold jf_Teller_split iz_Teller_split
  refine is_B (V := Int32.toInt) ?_ (fun s1 => ?_)
  ·
    refine is_W (V := (ip2 Int32.toInt Int32.toInt)) (W := Int32.toInt) (fun s2 => ?_) (ppair tl_0 tl_0)
    refine is_B (V := Int32.toInt) (is_Gt rfl) (fun x3 => ?_)
    refine is_if (ti_le rfl rfl) ?_ ?_
    ·
      exact is_P (pinr rfl)
    ·
      refine is_A (fun h1 => ?_)
      refine is_if (ti_le tl_401 (ti_add rfl tl_1 h1)) ?_ ?_
      ·
        exact is_P (pinr rfl)
      ·
        refine is_B (V := Int32.toInt) (is_Top_at rfl) (fun x4 => ?_)
        refine is_A (fun h2 => ?_)
        refine is_B (V := Int32.toInt) (is_P (ti_add rfl tl_1 h2)) (fun x5 => ?_)
        refine is_B (V := (ip2 Int32.toInt Int32.toInt)) ?_ (fun s6 => ?_)
        ·
          refine is_if (ti_eq rfl tl_32) ?_ ?_
          ·
            exact is_P (ppair rfl rfl)
          ·
            refine is_B (V := Int32.toInt) (is_Teller_signOf rfl) (fun x7 => ?_)
            refine is_A (fun h3 => ?_)
            refine is_B (V := id1) (is_St rfl (ti_sub rfl tl_1 h3)) (fun _ => ?_)
            refine is_B (V := id1) (is_St rfl rfl) (fun _ => ?_)
            refine is_B (V := Int32.toInt) ?_ (fun s8 => ?_)
            ·
              refine is_W (V := Int32.toInt) (W := Int32.toInt) (fun s9 => ?_) rfl
              refine is_E (V := id1) ?_ (fun s10 => ?_)
              ·
                refine is_if (ti_eq rfl tl_0) ?_ ?_
                ·
                  exact is_P (pinl rfl)
                ·
                  refine is_if (ti_not (ti_eq rfl tl_1)) ?_ ?_
                  ·
                    exact is_P (pinr (pinr rfl))
                  ·
                    exact is_P (pinl rfl)
              ·
                refine is_B (V := Int32.toInt) (is_Gt rfl) (fun x11 => ?_)
                refine is_if (ti_le rfl rfl) ?_ ?_
                ·
                  exact is_P (pinr rfl)
                ·
                  refine is_B (V := Int32.toInt) (is_Top_at rfl) (fun x12 => ?_)
                  refine is_B (V := Int32.toInt) (is_Teller_signOf rfl) (fun x13 => ?_)
                  refine is_if (ti_not (ti_eq rfl rfl)) ?_ ?_
                  ·
                    exact is_P (pinr rfl)
                  ·
                    refine is_A (fun h4 => ?_)
                    refine is_B (V := Int32.toInt) (is_P (ti_add rfl tl_1 h4)) (fun x14 => ?_)
                    exact is_P (pinl rfl)
            refine is_B (V := Int32.toInt) ?_ (fun s15 => ?_)
            ·
              refine is_if (ti_not (ti_eq rfl tl_0)) ?_ ?_
              ·
                refine is_B (V := Int32.toInt) (is_Ld rfl) (fun x16 => ?_)
                refine is_B (V := Int32.toInt) (is_Teller_numberOf rfl rfl) (fun x17 => ?_)
                exact is_P rfl
              ·
                refine is_B (V := Int32.toInt) (is_Ld rfl) (fun x18 => ?_)
                refine is_B (V := Int32.toInt) (is_Teller_wordOf rfl rfl) (fun x19 => ?_)
                exact is_P rfl
            refine is_B (V := id1) (is_St rfl rfl) (fun _ => ?_)
            refine is_A (fun h5 => ?_)
            refine is_B (V := Int32.toInt) (is_P (ti_add rfl tl_1 h5)) (fun x20 => ?_)
            exact is_P (ppair rfl rfl)
        exact is_P (pinl (ppair rfl rfl))
  refine is_B (V := id1) (is_St rfl tl_4) (fun _ => ?_)
  refine is_B (V := Int32.toInt) (is_Gt rfl) (fun x21 => ?_)
  refine is_B (V := id1) (is_St rfl rfl) (fun _ => ?_)
  exact is_P rfl
noncomputable def iz_Teller_read (this : Nat) : iM Int :=
  iB (iz_Run_clear (qm_rf this 1)) fun _ =>
  iB (iz_Teller_split this) fun _ =>
  iB (iPt this 5 0) fun _ =>
  iB (iPt this 6 (-1)) fun _ =>
  iB (iPt this 7 0) fun _ =>
  iB (iz_Teller_sign this) fun x1 =>
  iB (α := Int) (
    if x1 = 4 then
      iP 0
    else
      iP 1) fun s2 =>
  iB (α := Unit) (
    iW (S := (Int × Int)) (α := Unit) (fun s4 =>
      if s4.1 = 0 then
        iP (Sum.inr ())
      else
        if 401 ≤ s4.2 then
          iP (Sum.inr ())
        else
          iB (iz_Teller_readPart this) fun _ =>
          iB (iGt this 6) fun x5 =>
          iB (α := Int) (
            iB (α := (Unit ⊕ Int)) (
              if ¬ x5 = (-1) then
                iP (Sum.inl ())
              else
                iB (iz_Teller_sign this) fun x8 =>
                if x8 = 4 then
                  iP (Sum.inl ())
                else
                  iP (Sum.inr 1)) (Sum.elim (fun s7 =>
              iP 0) iP)) fun s6 =>
          iB (α := Int) (
            if s6 = 0 then
              iP s6
            else
              iB (iz_Teller_sign this) fun x10 =>
              if x10 = 2 then
                iP s6
              else
                iB (iz_Teller_place this) fun x11 =>
                iB (iz_Teller_wrong this x11 1) fun _ =>
                iP 0) fun s9 =>
          iB (α := Unit) (
            if s9 = 0 then
              iP ()
            else
              iB (iGt this 5) fun x13 =>
              iA (x13 + 1) fun y1 =>
              iB (iPt this 5 y1) fun _ =>
              iP ()) fun s12 =>
          iA (s4.2 + 1) fun y2 =>
          iB (iP y2) fun x14 =>
          iP (Sum.inl (s9, x14))) (s2, 0)) fun s3 =>
  iB (iGt this 6) fun x15 =>
  if ¬ x15 = (-1) then
    iB (iGt this 6) fun x16 =>
    iA ((-2) - x16) fun y3 =>
    iP y3
  else
    iB (iz_Run_allPieces (qm_rf this 1)) fun x17 =>
    iP x17
set_option maxRecDepth 20000 in
set_option maxHeartbeats 2000000 in
theorem is_Teller_read {this : Nat} : iS (jf_Teller_read this) (iz_Teller_read this) Int32.toInt := by
  unfold jf_Teller_read iz_Teller_read
  refine is_B (V := id1) (is_Run_clear) (fun _ => ?_)
  refine is_B (V := id1) (is_Teller_split) (fun _ => ?_)
  refine is_B (V := id1) (is_Pt rfl tl_0) (fun _ => ?_)
  refine is_B (V := id1) (is_Pt rfl tl_m1) (fun _ => ?_)
  refine is_B (V := id1) (is_Pt rfl tl_0) (fun _ => ?_)
  refine is_B (V := Int32.toInt) (is_Teller_sign) (fun x1 => ?_)
  refine is_B (V := Int32.toInt) ?_ (fun s2 => ?_)
  ·
    refine is_if (ti_eq rfl tl_4) ?_ ?_
    ·
      exact is_P tl_0
    ·
      exact is_P tl_1
  refine is_B (V := id1) ?_ (fun s3 => ?_)
  ·
    refine is_W (V := (ip2 Int32.toInt Int32.toInt)) (W := id1) (fun s4 => ?_) (ppair rfl tl_0)
    refine is_if (ti_eq rfl tl_0) ?_ ?_
    ·
      exact is_P (pinr rfl)
    ·
      refine is_if (ti_le tl_401 rfl) ?_ ?_
      ·
        exact is_P (pinr rfl)
      ·
        refine is_B (V := id1) (is_Teller_readPart) (fun _ => ?_)
        refine is_B (V := Int32.toInt) (is_Gt rfl) (fun x5 => ?_)
        refine is_B (V := Int32.toInt) ?_ (fun s6 => ?_)
        ·
          refine is_E (V := id1) ?_ (fun s7 => ?_)
          ·
            refine is_if (ti_not (ti_eq rfl tl_m1)) ?_ ?_
            ·
              exact is_P (pinl rfl)
            ·
              refine is_B (V := Int32.toInt) (is_Teller_sign) (fun x8 => ?_)
              refine is_if (ti_eq rfl tl_4) ?_ ?_
              ·
                exact is_P (pinl rfl)
              ·
                exact is_P (pinr tl_1)
          ·
            exact is_P tl_0
        refine is_B (V := Int32.toInt) ?_ (fun s9 => ?_)
        ·
          refine is_if (ti_eq rfl tl_0) ?_ ?_
          ·
            exact is_P rfl
          ·
            refine is_B (V := Int32.toInt) (is_Teller_sign) (fun x10 => ?_)
            refine is_if (ti_eq rfl tl_2) ?_ ?_
            ·
              exact is_P rfl
            ·
              refine is_B (V := Int32.toInt) (is_Teller_place) (fun x11 => ?_)
              refine is_B (V := id1) (is_Teller_wrong rfl tl_1) (fun _ => ?_)
              exact is_P tl_0
        refine is_B (V := id1) ?_ (fun s12 => ?_)
        ·
          refine is_if (ti_eq rfl tl_0) ?_ ?_
          ·
            exact is_P rfl
          ·
            refine is_B (V := Int32.toInt) (is_Gt rfl) (fun x13 => ?_)
            refine is_A (fun h1 => ?_)
            refine is_B (V := id1) (is_Pt rfl (ti_add rfl tl_1 h1)) (fun _ => ?_)
            exact is_P rfl
        refine is_A (fun h2 => ?_)
        refine is_B (V := Int32.toInt) (is_P (ti_add rfl tl_1 h2)) (fun x14 => ?_)
        exact is_P (pinl (ppair rfl rfl))
  refine is_B (V := Int32.toInt) (is_Gt rfl) (fun x15 => ?_)
  refine is_if (ti_not (ti_eq rfl tl_m1)) ?_ ?_
  ·
    refine is_B (V := Int32.toInt) (is_Gt rfl) (fun x16 => ?_)
    refine is_A (fun h3 => ?_)
    exact is_P (ti_sub tl_m2 rfl h3)
  ·
    refine is_B (V := Int32.toInt) (is_Run_allPieces) (fun x17 => ?_)
    exact is_P rfl
noncomputable def iz_Top_tell (this : Nat) : iM Int :=
  iB (iz_Teller_read (qm_rf this 2)) fun x1 =>
  iB (iPt (qm_rf this 1) 1 0) fun _ =>
  if x1 < 0 then
    iP x1
  else
    iB (iz_Run_copyFrom (qm_rf this 0) (qm_rf (qm_rf this 2) 1)) fun _ =>
    iB (iPt (qm_rf this 3) 2 0) fun _ =>
    iB (iz_Top_changed this) fun _ =>
    iP x1
set_option maxRecDepth 20000 in
set_option maxHeartbeats 2000000 in
theorem is_Top_tell {this : Nat} : iS (jf_Top_tell this) (iz_Top_tell this) Int32.toInt := by
  unfold jf_Top_tell iz_Top_tell
  refine is_B (V := Int32.toInt) (is_Teller_read) (fun x1 => ?_)
  refine is_B (V := id1) (is_Pt rfl tl_0) (fun _ => ?_)
  refine is_if (ti_lt rfl tl_0) ?_ ?_
  ·
    exact is_P rfl
  ·
    refine is_B (V := id1) (is_Run_copyFrom) (fun _ => ?_)
    refine is_B (V := id1) (is_Pt rfl tl_0) (fun _ => ?_)
    refine is_B (V := id1) (is_Top_changed) (fun _ => ?_)
    exact is_P rfl
