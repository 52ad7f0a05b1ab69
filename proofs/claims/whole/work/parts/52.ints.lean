noncomputable def iz_Run_put (this : Nat) (p1 : Int) (p2 : Int) : iM Unit :=
  iB (iz_Run_takes p1 p2) fun x1 =>
  if x1 = 0 then
    iP ()
  else
    iB (iSt (qm_rf this 1) p1 p2) fun _ =>
    iP ()
set_option maxRecDepth 20000 in
set_option maxHeartbeats 2000000 in
theorem is_Run_put {this : Nat} {p1 : Int32} {p1' : Int} {p2 : Int32} {p2' : Int} (qp1 : p1.toInt = p1') (qp2 : p2.toInt = p2') : iS (jf_Run_put this p1 p2) (iz_Run_put this p1' p2') id1 := by
  subst qp1 qp2
  unfold jf_Run_put iz_Run_put
  refine is_B (V := Int32.toInt) (is_Run_takes rfl rfl) (fun x1 => ?_)
  refine is_if (ti_eq rfl tl_0) ?_ ?_
  ·
    exact is_P rfl
  ·
    refine is_B (V := id1) (is_St rfl rfl) (fun _ => ?_)
    exact is_P rfl
noncomputable def iz_Run_has (this : Nat) (p1 : Int) : iM Int :=
  if p1 < 0 then
    iP 0
  else
    iB (iGt this 0) fun x1 =>
    if x1 ≤ p1 then
      iP 0
    else
      iP 1
set_option maxRecDepth 20000 in
set_option maxHeartbeats 2000000 in
theorem is_Run_has {this : Nat} {p1 : Int32} {p1' : Int} (qp1 : p1.toInt = p1') : iS (jf_Run_has this p1) (iz_Run_has this p1') Int32.toInt := by
  subst qp1
  unfold jf_Run_has iz_Run_has
  refine is_if (ti_lt rfl tl_0) ?_ ?_
  ·
    exact is_P tl_0
  ·
    refine is_B (V := Int32.toInt) (is_Gt rfl) (fun x1 => ?_)
    refine is_if (ti_le rfl rfl) ?_ ?_
    ·
      exact is_P tl_0
    ·
      exact is_P tl_1
noncomputable def iz_Run_hasPieces (this : Nat) (p1 : Int) : iM Int :=
  iB (iz_Run_has this p1) fun x1 =>
  if x1 = 0 then
    iP 0
  else
    iB (iz_Run_cell this p1 0) fun x2 =>
    if x2 = 4 then
      iP 0
    else
      iP 1
set_option maxRecDepth 20000 in
set_option maxHeartbeats 2000000 in
theorem is_Run_hasPieces {this : Nat} {p1 : Int32} {p1' : Int} (qp1 : p1.toInt = p1') : iS (jf_Run_hasPieces this p1) (iz_Run_hasPieces this p1') Int32.toInt := by
  subst qp1
  unfold jf_Run_hasPieces iz_Run_hasPieces
  refine is_B (V := Int32.toInt) (is_Run_has rfl) (fun x1 => ?_)
  refine is_if (ti_eq rfl tl_0) ?_ ?_
  ·
    exact is_P tl_0
  ·
    refine is_B (V := Int32.toInt) (is_Run_cell rfl tl_0) (fun x2 => ?_)
    refine is_if (ti_eq rfl tl_4) ?_ ?_
    ·
      exact is_P tl_0
    ·
      exact is_P tl_1
noncomputable def iz_Run_putCell (this : Nat) (p1 : Int) (p2 : Int) (p3 : Int) : iM Unit :=
  if p1 < 0 then
    iP ()
  else
    if 16 ≤ p1 then
      iP ()
    else
      if p2 < 0 then
        iP ()
      else
        if 16 ≤ p2 then
          iP ()
        else
          iA (p1 * 16) fun y1 =>
          iA (y1 + p2) fun y2 =>
          iB (iSt (qm_rf this 2) y2 p3) fun _ =>
          iP ()
set_option maxRecDepth 20000 in
set_option maxHeartbeats 2000000 in
theorem is_Run_putCell {this : Nat} {p1 : Int32} {p1' : Int} {p2 : Int32} {p2' : Int} {p3 : Int32} {p3' : Int} (qp1 : p1.toInt = p1') (qp2 : p2.toInt = p2') (qp3 : p3.toInt = p3') : iS (jf_Run_putCell this p1 p2 p3) (iz_Run_putCell this p1' p2' p3') id1 := by
  subst qp1 qp2 qp3
  unfold jf_Run_putCell iz_Run_putCell
  refine is_if (ti_lt rfl tl_0) ?_ ?_
  ·
    exact is_P rfl
  ·
    refine is_if (ti_le tl_16 rfl) ?_ ?_
    ·
      exact is_P rfl
    ·
      refine is_if (ti_lt rfl tl_0) ?_ ?_
      ·
        exact is_P rfl
      ·
        refine is_if (ti_le tl_16 rfl) ?_ ?_
        ·
          exact is_P rfl
        ·
          refine is_A (fun h1 => ?_)
          refine is_A (fun h2 => ?_)
          refine is_B (V := id1) (is_St (ti_add (ti_mul rfl tl_16 h1) rfl h2) rfl) (fun _ => ?_)
          exact is_P rfl
noncomputable def iz_Run_allPieces (this : Nat) : iM Int :=
  iB (α := Int) (
    iW (S := (Int × Int)) (α := Int) (fun s2 =>
      iB (iGt this 0) fun x3 =>
      if x3 ≤ s2.2 then
        iP (Sum.inr s2.1)
      else
        iB (iz_Run_cell this s2.2 1) fun x4 =>
        iA (s2.1 + x4) fun y1 =>
        iB (iP y1) fun x5 =>
        iA (s2.2 + 1) fun y2 =>
        iB (iP y2) fun x6 =>
        iP (Sum.inl (x5, x6))) (0, 0)) fun s1 =>
  iP s1
set_option maxRecDepth 20000 in
set_option maxHeartbeats 2000000 in
theorem is_Run_allPieces {this : Nat} : iS (jf_Run_allPieces this) (iz_Run_allPieces this) Int32.toInt := by
  unfold jf_Run_allPieces iz_Run_allPieces
  refine is_B (V := Int32.toInt) ?_ (fun s1 => ?_)
  ·
    refine is_W (V := (ip2 Int32.toInt Int32.toInt)) (W := Int32.toInt) (fun s2 => ?_) (ppair tl_0 tl_0)
    refine is_B (V := Int32.toInt) (is_Gt rfl) (fun x3 => ?_)
    refine is_if (ti_le rfl rfl) ?_ ?_
    ·
      exact is_P (pinr rfl)
    ·
      refine is_B (V := Int32.toInt) (is_Run_cell rfl tl_1) (fun x4 => ?_)
      refine is_A (fun h1 => ?_)
      refine is_B (V := Int32.toInt) (is_P (ti_add rfl rfl h1)) (fun x5 => ?_)
      refine is_A (fun h2 => ?_)
      refine is_B (V := Int32.toInt) (is_P (ti_add rfl tl_1 h2)) (fun x6 => ?_)
      exact is_P (pinl (ppair rfl rfl))
  exact is_P rfl
noncomputable def iz_Run_add (this : Nat) (p1 : Int) : iM Int :=
  iB (iGt this 0) fun x1 =>
  if 16 ≤ x1 then
    iP x1
  else
    iB (α := Unit) (
      iW (S := Int) (α := Unit) (fun s3 =>
        if 16 ≤ s3 then
          iP (Sum.inr ())
        else
          iB (iz_Run_putCell this x1 s3 0) fun _ =>
          iA (s3 + 1) fun y1 =>
          iB (iP y1) fun x4 =>
          iP (Sum.inl x4)) 0) fun s2 =>
    iB (iz_Run_putCell this x1 0 p1) fun _ =>
    iB (iGt this 0) fun x5 =>
    iA (x5 + 1) fun y2 =>
    iB (iPt this 0 y2) fun _ =>
    iP x1
set_option maxRecDepth 20000 in
set_option maxHeartbeats 2000000 in
theorem is_Run_add {this : Nat} {p1 : Int32} {p1' : Int} (qp1 : p1.toInt = p1') : iS (jf_Run_add this p1) (iz_Run_add this p1') Int32.toInt := by
  subst qp1
  unfold jf_Run_add iz_Run_add
  refine is_B (V := Int32.toInt) (is_Gt rfl) (fun x1 => ?_)
  refine is_if (ti_le tl_16 rfl) ?_ ?_
  ·
    exact is_P rfl
  ·
    refine is_B (V := id1) ?_ (fun s2 => ?_)
    ·
      refine is_W (V := Int32.toInt) (W := id1) (fun s3 => ?_) tl_0
      refine is_if (ti_le tl_16 rfl) ?_ ?_
      ·
        exact is_P (pinr rfl)
      ·
        refine is_B (V := id1) (is_Run_putCell rfl rfl tl_0) (fun _ => ?_)
        refine is_A (fun h1 => ?_)
        refine is_B (V := Int32.toInt) (is_P (ti_add rfl tl_1 h1)) (fun x4 => ?_)
        exact is_P (pinl rfl)
    refine is_B (V := id1) (is_Run_putCell rfl tl_0 rfl) (fun _ => ?_)
    refine is_B (V := Int32.toInt) (is_Gt rfl) (fun x5 => ?_)
    refine is_A (fun h2 => ?_)
    refine is_B (V := id1) (is_Pt rfl (ti_add rfl tl_1 h2)) (fun _ => ?_)
    exact is_P rfl
noncomputable def iz_Run_exchange (this : Nat) (p1 : Int) (p2 : Int) : iM Unit :=
  iB (α := Unit) (
    iW (S := Int) (α := Unit) (fun s2 =>
      if 16 ≤ s2 then
        iP (Sum.inr ())
      else
        iB (iz_Run_cell this p1 s2) fun x3 =>
        iB (iz_Run_cell this p2 s2) fun x4 =>
        iB (iz_Run_putCell this p1 s2 x4) fun _ =>
        iB (iz_Run_putCell this p2 s2 x3) fun _ =>
        iA (s2 + 1) fun y1 =>
        iB (iP y1) fun x5 =>
        iP (Sum.inl x5)) 0) fun s1 =>
  iP ()
set_option maxRecDepth 20000 in
set_option maxHeartbeats 2000000 in
theorem is_Run_exchange {this : Nat} {p1 : Int32} {p1' : Int} {p2 : Int32} {p2' : Int} (qp1 : p1.toInt = p1') (qp2 : p2.toInt = p2') : iS (jf_Run_exchange this p1 p2) (iz_Run_exchange this p1' p2') id1 := by
  subst qp1 qp2
  unfold jf_Run_exchange iz_Run_exchange
  refine is_B (V := id1) ?_ (fun s1 => ?_)
  ·
    refine is_W (V := Int32.toInt) (W := id1) (fun s2 => ?_) tl_0
    refine is_if (ti_le tl_16 rfl) ?_ ?_
    ·
      exact is_P (pinr rfl)
    ·
      refine is_B (V := Int32.toInt) (is_Run_cell rfl rfl) (fun x3 => ?_)
      refine is_B (V := Int32.toInt) (is_Run_cell rfl rfl) (fun x4 => ?_)
      refine is_B (V := id1) (is_Run_putCell rfl rfl rfl) (fun _ => ?_)
      refine is_B (V := id1) (is_Run_putCell rfl rfl rfl) (fun _ => ?_)
      refine is_A (fun h1 => ?_)
      refine is_B (V := Int32.toInt) (is_P (ti_add rfl tl_1 h1)) (fun x5 => ?_)
      exact is_P (pinl rfl)
  exact is_P rfl
noncomputable def iz_Run_copyCells (this : Nat) (p1 : Int) (p2 : Int) : iM Unit :=
  iB (α := Unit) (
    iW (S := Int) (α := Unit) (fun s2 =>
      if 16 ≤ s2 then
        iP (Sum.inr ())
      else
        iB (iz_Run_cell this p1 s2) fun x3 =>
        iB (iz_Run_putCell this p2 s2 x3) fun _ =>
        iA (s2 + 1) fun y1 =>
        iB (iP y1) fun x4 =>
        iP (Sum.inl x4)) 0) fun s1 =>
  iP ()
set_option maxRecDepth 20000 in
set_option maxHeartbeats 2000000 in
theorem is_Run_copyCells {this : Nat} {p1 : Int32} {p1' : Int} {p2 : Int32} {p2' : Int} (qp1 : p1.toInt = p1') (qp2 : p2.toInt = p2') : iS (jf_Run_copyCells this p1 p2) (iz_Run_copyCells this p1' p2') id1 := by
  subst qp1 qp2
  unfold jf_Run_copyCells iz_Run_copyCells
  refine is_B (V := id1) ?_ (fun s1 => ?_)
  ·
    refine is_W (V := Int32.toInt) (W := id1) (fun s2 => ?_) tl_0
    refine is_if (ti_le tl_16 rfl) ?_ ?_
    ·
      exact is_P (pinr rfl)
    ·
      refine is_B (V := Int32.toInt) (is_Run_cell rfl rfl) (fun x3 => ?_)
      refine is_B (V := id1) (is_Run_putCell rfl rfl rfl) (fun _ => ?_)
      refine is_A (fun h1 => ?_)
      refine is_B (V := Int32.toInt) (is_P (ti_add rfl tl_1 h1)) (fun x4 => ?_)
      exact is_P (pinl rfl)
  exact is_P rfl
noncomputable def iz_Run_repeat (this : Nat) (p1 : Int) : iM Unit :=
  iB (iz_Run_cell this p1 0) fun x1 =>
  iB (iz_Run_add this x1) fun x2 =>
  iB (iz_Run_copyCells this p1 x2) fun _ =>
  iP ()
set_option maxRecDepth 20000 in
set_option maxHeartbeats 2000000 in
theorem is_Run_repeat {this : Nat} {p1 : Int32} {p1' : Int} (qp1 : p1.toInt = p1') : iS (jf_Run_repeat this p1) (iz_Run_repeat this p1') id1 := by
  subst qp1
  unfold jf_Run_repeat iz_Run_repeat
  refine is_B (V := Int32.toInt) (is_Run_cell rfl tl_0) (fun x1 => ?_)
  refine is_B (V := Int32.toInt) (is_Run_add rfl) (fun x2 => ?_)
  refine is_B (V := id1) (is_Run_copyCells rfl rfl) (fun _ => ?_)
  exact is_P rfl
noncomputable def iz_Run_remove (this : Nat) (p1 : Int) : iM Unit :=
  iB (α := Unit) (
    iW (S := Int) (α := Unit) (fun s2 =>
      iB (iGt this 0) fun x3 =>
      iA (s2 + 1) fun y1 =>
      if x3 ≤ y1 then
        iP (Sum.inr ())
      else
        iA (s2 + 1) fun y2 =>
        iB (iz_Run_copyCells this y2 s2) fun _ =>
        iA (s2 + 1) fun y3 =>
        iB (iP y3) fun x4 =>
        iP (Sum.inl x4)) p1) fun s1 =>
  iB (iGt this 0) fun x5 =>
  iA (x5 - 1) fun y4 =>
  iB (iPt this 0 y4) fun _ =>
  iP ()
set_option maxRecDepth 20000 in
set_option maxHeartbeats 2000000 in
theorem is_Run_remove {this : Nat} {p1 : Int32} {p1' : Int} (qp1 : p1.toInt = p1') : iS (jf_Run_remove this p1) (iz_Run_remove this p1') id1 := by
  subst qp1
  unfold jf_Run_remove iz_Run_remove
  refine is_B (V := id1) ?_ (fun s1 => ?_)
  ·
    refine is_W (V := Int32.toInt) (W := id1) (fun s2 => ?_) rfl
    refine is_B (V := Int32.toInt) (is_Gt rfl) (fun x3 => ?_)
    refine is_A (fun h1 => ?_)
    refine is_if (ti_le rfl (ti_add rfl tl_1 h1)) ?_ ?_
    ·
      exact is_P (pinr rfl)
    ·
      refine is_A (fun h2 => ?_)
      refine is_B (V := id1) (is_Run_copyCells (ti_add rfl tl_1 h2) rfl) (fun _ => ?_)
      refine is_A (fun h3 => ?_)
      refine is_B (V := Int32.toInt) (is_P (ti_add rfl tl_1 h3)) (fun x4 => ?_)
      exact is_P (pinl rfl)
  refine is_B (V := Int32.toInt) (is_Gt rfl) (fun x5 => ?_)
  refine is_A (fun h4 => ?_)
  refine is_B (V := id1) (is_Pt rfl (ti_sub rfl tl_1 h4)) (fun _ => ?_)
  exact is_P rfl
noncomputable def iz_Run_addMark (this : Nat) (p1 : Int) (p2 : Int) (p3 : Int) : iM Unit :=
  iB (iz_Run_cell this p1 7) fun x1 =>
  if x1 < 0 then
    iP ()
  else
    if 4 ≤ x1 then
      iP ()
    else
      iA (8 + x1) fun y1 =>
      iB (iz_Run_putCell this p1 y1 p2) fun _ =>
      iA (12 + x1) fun y2 =>
      iB (iz_Run_putCell this p1 y2 p3) fun _ =>
      iA (x1 + 1) fun y3 =>
      iB (iz_Run_putCell this p1 7 y3) fun _ =>
      iP ()
set_option maxRecDepth 20000 in
set_option maxHeartbeats 2000000 in
theorem is_Run_addMark {this : Nat} {p1 : Int32} {p1' : Int} {p2 : Int32} {p2' : Int} {p3 : Int32} {p3' : Int} (qp1 : p1.toInt = p1') (qp2 : p2.toInt = p2') (qp3 : p3.toInt = p3') : iS (jf_Run_addMark this p1 p2 p3) (iz_Run_addMark this p1' p2' p3') id1 := by
  subst qp1 qp2 qp3
  unfold jf_Run_addMark iz_Run_addMark
  refine is_B (V := Int32.toInt) (is_Run_cell rfl tl_7) (fun x1 => ?_)
  refine is_if (ti_lt rfl tl_0) ?_ ?_
  ·
    exact is_P rfl
  ·
    refine is_if (ti_le tl_4 rfl) ?_ ?_
    ·
      exact is_P rfl
    ·
      refine is_A (fun h1 => ?_)
      refine is_B (V := id1) (is_Run_putCell rfl (ti_add tl_8 rfl h1) rfl) (fun _ => ?_)
      refine is_A (fun h2 => ?_)
      refine is_B (V := id1) (is_Run_putCell rfl (ti_add tl_12 rfl h2) rfl) (fun _ => ?_)
      refine is_A (fun h3 => ?_)
      refine is_B (V := id1) (is_Run_putCell rfl tl_7 (ti_add rfl tl_1 h3)) (fun _ => ?_)
      exact is_P rfl
noncomputable def iz_Run_clearCells (this : Nat) (p1 : Int) : iM Unit :=
  iB (α := Unit) (
    iW (S := Int) (α := Unit) (fun s2 =>
      iB (iGt this 0) fun x3 =>
      if x3 ≤ s2 then
        iP (Sum.inr ())
      else
        iB (iz_Run_putCell this s2 p1 0) fun _ =>
        iA (s2 + 1) fun y1 =>
        iB (iP y1) fun x4 =>
        iP (Sum.inl x4)) 0) fun s1 =>
  iP ()
set_option maxRecDepth 20000 in
set_option maxHeartbeats 2000000 in
theorem is_Run_clearCells {this : Nat} {p1 : Int32} {p1' : Int} (qp1 : p1.toInt = p1') : iS (jf_Run_clearCells this p1) (iz_Run_clearCells this p1') id1 := by
  subst qp1
  unfold jf_Run_clearCells iz_Run_clearCells
  refine is_B (V := id1) ?_ (fun s1 => ?_)
  ·
    refine is_W (V := Int32.toInt) (W := id1) (fun s2 => ?_) tl_0
    refine is_B (V := Int32.toInt) (is_Gt rfl) (fun x3 => ?_)
    refine is_if (ti_le rfl rfl) ?_ ?_
    ·
      exact is_P (pinr rfl)
    ·
      refine is_B (V := id1) (is_Run_putCell rfl rfl tl_0) (fun _ => ?_)
      refine is_A (fun h1 => ?_)
      refine is_B (V := Int32.toInt) (is_P (ti_add rfl tl_1 h1)) (fun x4 => ?_)
      exact is_P (pinl rfl)
  exact is_P rfl
noncomputable def iz_Run_withoutLaw (this : Nat) (p1 : Int) : iM Unit :=
  if p1 = 0 then
    iB (iz_Run_put this 2 1) fun _ =>
    iP ()
  else
    if p1 = 1 then
      iB (iz_Run_put this 3 1) fun _ =>
      iP ()
    else
      if p1 = 2 then
        iB (iz_Run_put this 4 0) fun _ =>
        iP ()
      else
        if p1 = 3 then
          iB (iz_Run_clearCells this 4) fun _ =>
          iP ()
        else
          iB (iz_Run_clearCells this 5) fun _ =>
          iP ()
set_option maxRecDepth 20000 in
set_option maxHeartbeats 2000000 in
theorem is_Run_withoutLaw {this : Nat} {p1 : Int32} {p1' : Int} (qp1 : p1.toInt = p1') : iS (jf_Run_withoutLaw this p1) (iz_Run_withoutLaw this p1') id1 := by
  subst qp1
  unfold jf_Run_withoutLaw iz_Run_withoutLaw
  refine is_if (ti_eq rfl tl_0) ?_ ?_
  ·
    refine is_B (V := id1) (is_Run_put tl_2 tl_1) (fun _ => ?_)
    exact is_P rfl
  ·
    refine is_if (ti_eq rfl tl_1) ?_ ?_
    ·
      refine is_B (V := id1) (is_Run_put tl_3 tl_1) (fun _ => ?_)
      exact is_P rfl
    ·
      refine is_if (ti_eq rfl tl_2) ?_ ?_
      ·
        refine is_B (V := id1) (is_Run_put tl_4 tl_0) (fun _ => ?_)
        exact is_P rfl
      ·
        refine is_if (ti_eq rfl tl_3) ?_ ?_
        ·
          refine is_B (V := id1) (is_Run_clearCells tl_4) (fun _ => ?_)
          exact is_P rfl
        ·
          refine is_B (V := id1) (is_Run_clearCells tl_5) (fun _ => ?_)
          exact is_P rfl
noncomputable def iz_Tape_append (this : Nat) (p1 : Int) : iM Unit :=
  iB (α := Unit) (
    iW (S := Int) (α := Unit) (fun s2 =>
      if s2 < 0 then
        iP (Sum.inr ())
      else
        iB (iGt this 1) fun x3 =>
        iB (α := Unit) (
          if x3 < 0 then
            iP ()
          else
            iB (iGt this 1) fun x5 =>
            if (iLen (qm_rf this 0)) ≤ x5 then
              iP ()
            else
              iB (iGt this 1) fun x6 =>
              iB (iSt (qm_rf this 0) x6 (ibAnd (ibShr p1 (ibAnd s2 31)) 255)) fun _ =>
              iB (iGt this 1) fun x7 =>
              iA (x7 + 1) fun y1 =>
              iB (iPt this 1 y1) fun _ =>
              iP ()) fun s4 =>
        iA (s2 + (-8)) fun y2 =>
        iB (iP y2) fun x8 =>
        iP (Sum.inl x8)) 24) fun s1 =>
  iP ()
set_option maxRecDepth 20000 in
set_option maxHeartbeats 2000000 in
theorem is_Tape_append {this : Nat} {p1 : Int32} {p1' : Int} (qp1 : p1.toInt = p1') : iS (jf_Tape_append this p1) (iz_Tape_append this p1') id1 := by
  subst qp1
  unfold jf_Tape_append iz_Tape_append
  refine is_B (V := id1) ?_ (fun s1 => ?_)
  ·
    refine is_W (V := Int32.toInt) (W := id1) (fun s2 => ?_) tl_24
    refine is_if (ti_lt rfl tl_0) ?_ ?_
    ·
      exact is_P (pinr rfl)
    ·
      refine is_B (V := Int32.toInt) (is_Gt rfl) (fun x3 => ?_)
      refine is_B (V := id1) ?_ (fun s4 => ?_)
      ·
        refine is_if (ti_lt rfl tl_0) ?_ ?_
        ·
          exact is_P rfl
        ·
          refine is_B (V := Int32.toInt) (is_Gt rfl) (fun x5 => ?_)
          refine is_if (ti_le (tl_len _) rfl) ?_ ?_
          ·
            exact is_P rfl
          ·
            refine is_B (V := Int32.toInt) (is_Gt rfl) (fun x6 => ?_)
            refine is_B (V := id1) (is_St rfl (ti_and (ti_shr rfl (ti_and rfl tl_31)) tl_255)) (fun _ => ?_)
            refine is_B (V := Int32.toInt) (is_Gt rfl) (fun x7 => ?_)
            refine is_A (fun h1 => ?_)
            refine is_B (V := id1) (is_Pt rfl (ti_add rfl tl_1 h1)) (fun _ => ?_)
            exact is_P rfl
      refine is_A (fun h2 => ?_)
      refine is_B (V := Int32.toInt) (is_P (ti_add rfl tl_m8 h2)) (fun x8 => ?_)
      exact is_P (pinl rfl)
  exact is_P rfl
noncomputable def iz_Teller_signOf (p1 : Int) : iM Int :=
  iB (α := (Unit ⊕ Int)) (
    if p1 < 97 then
      iP (Sum.inl ())
    else
      if 122 < p1 then
        iP (Sum.inl ())
      else
        iP (Sum.inr 0)) (Sum.elim (fun s1 =>
    iB (α := (Unit ⊕ Int)) (
      if p1 < 48 then
        iP (Sum.inl ())
      else
        if 57 < p1 then
          iP (Sum.inl ())
        else
          iP (Sum.inr 1)) (Sum.elim (fun s2 =>
      if ¬ p1 = 59 then
        iP 3
      else
        iP 2) iP)) iP)
set_option maxRecDepth 20000 in
set_option maxHeartbeats 2000000 in
theorem is_Teller_signOf {p1 : Int32} {p1' : Int} (qp1 : p1.toInt = p1') : iS (jf_Teller_signOf p1) (iz_Teller_signOf p1') Int32.toInt := by
  subst qp1
  unfold jf_Teller_signOf iz_Teller_signOf
  refine is_E (V := id1) ?_ (fun s1 => ?_)
  ·
    refine is_if (ti_lt rfl tl_97) ?_ ?_
    ·
      exact is_P (pinl rfl)
    ·
      refine is_if (ti_lt tl_122 rfl) ?_ ?_
      ·
        exact is_P (pinl rfl)
      ·
        exact is_P (pinr tl_0)
  ·
    refine is_E (V := id1) ?_ (fun s2 => ?_)
    ·
      refine is_if (ti_lt rfl tl_48) ?_ ?_
      ·
        exact is_P (pinl rfl)
      ·
        refine is_if (ti_lt tl_57 rfl) ?_ ?_
        ·
          exact is_P (pinl rfl)
        ·
          exact is_P (pinr tl_1)
    ·
      refine is_if (ti_not (ti_eq rfl tl_59)) ?_ ?_
      ·
        exact is_P tl_3
      ·
        exact is_P tl_2
noncomputable def iz_Teller_numberOf (this : Nat) (p1 : Int) (p2 : Int) : iM Int :=
  iB (α := Int) (
    iW (S := (Int × Int)) (α := Int) (fun s2 =>
      if p2 ≤ s2.2 then
        iP (Sum.inr s2.1)
      else
        iB (iz_Top_at (qm_rf (qm_rf this 0) 0) s2.2) fun x3 =>
        iA (s2.1 * 10) fun y1 =>
        iA (y1 + x3) fun y2 =>
        iA (y2 - 48) fun y3 =>
        iB (iz_Math_min 100000 y3) fun x4 =>
        iA (s2.2 + 1) fun y4 =>
        iB (iP y4) fun x5 =>
        iP (Sum.inl (x4, x5))) (0, p1)) fun s1 =>
  iP s1
set_option maxRecDepth 20000 in
set_option maxHeartbeats 2000000 in
theorem is_Teller_numberOf {this : Nat} {p1 : Int32} {p1' : Int} {p2 : Int32} {p2' : Int} (qp1 : p1.toInt = p1') (qp2 : p2.toInt = p2') : iS (jf_Teller_numberOf this p1 p2) (iz_Teller_numberOf this p1' p2') Int32.toInt := by
  subst qp1 qp2
  unfold jf_Teller_numberOf iz_Teller_numberOf
  refine is_B (V := Int32.toInt) ?_ (fun s1 => ?_)
  ·
    refine is_W (V := (ip2 Int32.toInt Int32.toInt)) (W := Int32.toInt) (fun s2 => ?_) (ppair tl_0 rfl)
    refine is_if (ti_le rfl rfl) ?_ ?_
    ·
      exact is_P (pinr rfl)
    ·
      refine is_B (V := Int32.toInt) (is_Top_at rfl) (fun x3 => ?_)
      refine is_A (fun h1 => ?_)
      refine is_A (fun h2 => ?_)
      refine is_A (fun h3 => ?_)
      refine is_B (V := Int32.toInt) (is_Math_min tl_100000 (ti_sub (ti_add (ti_mul rfl tl_10 h1) rfl h2) tl_48 h3)) (fun x4 => ?_)
      refine is_A (fun h4 => ?_)
      refine is_B (V := Int32.toInt) (is_P (ti_add rfl tl_1 h4)) (fun x5 => ?_)
      exact is_P (pinl (ppair rfl rfl))
  exact is_P rfl
noncomputable def iz_Teller_sign (this : Nat) : iM Int :=
  iB (iGt this 5) fun x1 =>
  if x1 < 0 then
    iP 4
  else
    iB (iGt this 5) fun x2 =>
    if 401 ≤ x2 then
      iP 4
    else
      iB (iGt this 5) fun x3 =>
      iB (iLd (qm_rf this 2) x3) fun x4 =>
      iP x4
set_option maxRecDepth 20000 in
set_option maxHeartbeats 2000000 in
theorem is_Teller_sign {this : Nat} : iS (jf_Teller_sign this) (iz_Teller_sign this) Int32.toInt := by
  unfold jf_Teller_sign iz_Teller_sign
  refine is_B (V := Int32.toInt) (is_Gt rfl) (fun x1 => ?_)
  refine is_if (ti_lt rfl tl_0) ?_ ?_
  ·
    exact is_P tl_4
  ·
    refine is_B (V := Int32.toInt) (is_Gt rfl) (fun x2 => ?_)
    refine is_if (ti_le tl_401 rfl) ?_ ?_
    ·
      exact is_P tl_4
    ·
      refine is_B (V := Int32.toInt) (is_Gt rfl) (fun x3 => ?_)
      refine is_B (V := Int32.toInt) (is_Ld rfl) (fun x4 => ?_)
      exact is_P rfl
noncomputable def iz_Teller_place (this : Nat) : iM Int :=
  iB (iGt this 5) fun x1 =>
  if x1 < 0 then
    iB (iGt (qm_rf this 0) 1) fun x2 =>
    iP x2
  else
    iB (iGt this 5) fun x3 =>
    if 401 ≤ x3 then
      iB (iGt (qm_rf this 0) 1) fun x4 =>
      iP x4
    else
      iB (iGt this 5) fun x5 =>
      iB (iLd (qm_rf this 3) x5) fun x6 =>
      iP x6
set_option maxRecDepth 20000 in
set_option maxHeartbeats 2000000 in
theorem is_Teller_place {this : Nat} : iS (jf_Teller_place this) (iz_Teller_place this) Int32.toInt := by
  unfold jf_Teller_place iz_Teller_place
  refine is_B (V := Int32.toInt) (is_Gt rfl) (fun x1 => ?_)
  refine is_if (ti_lt rfl tl_0) ?_ ?_
  ·
    refine is_B (V := Int32.toInt) (is_Gt rfl) (fun x2 => ?_)
    exact is_P rfl
  ·
    refine is_B (V := Int32.toInt) (is_Gt rfl) (fun x3 => ?_)
    refine is_if (ti_le tl_401 rfl) ?_ ?_
    ·
      refine is_B (V := Int32.toInt) (is_Gt rfl) (fun x4 => ?_)
      exact is_P rfl
    ·
      refine is_B (V := Int32.toInt) (is_Gt rfl) (fun x5 => ?_)
      refine is_B (V := Int32.toInt) (is_Ld rfl) (fun x6 => ?_)
      exact is_P rfl
noncomputable def iz_Teller_readWord (this : Nat) : iM Int :=
  iB (iz_Teller_sign this) fun x1 =>
  if ¬ x1 = 0 then
    iP (-1)
  else
    iB (iGt this 5) fun x2 =>
    if x2 < 401 then
      iB (iGt this 5) fun x3 =>
      iB (iz_Top_at (qm_rf this 4) x3) fun x4 =>
      iB (iGt this 5) fun x5 =>
      iA (x5 + 1) fun y1 =>
      iB (iPt this 5 y1) fun _ =>
      iP x4
    else
      iP (-1)
set_option maxRecDepth 20000 in
set_option maxHeartbeats 2000000 in
theorem is_Teller_readWord {this : Nat} : iS (jf_Teller_readWord this) (iz_Teller_readWord this) Int32.toInt := by
  unfold jf_Teller_readWord iz_Teller_readWord
  refine is_B (V := Int32.toInt) (is_Teller_sign) (fun x1 => ?_)
  refine is_if (ti_not (ti_eq rfl tl_0)) ?_ ?_
  ·
    exact is_P tl_m1
  ·
    refine is_B (V := Int32.toInt) (is_Gt rfl) (fun x2 => ?_)
    refine is_if (ti_lt rfl tl_401) ?_ ?_
    ·
      refine is_B (V := Int32.toInt) (is_Gt rfl) (fun x3 => ?_)
      refine is_B (V := Int32.toInt) (is_Top_at rfl) (fun x4 => ?_)
      refine is_B (V := Int32.toInt) (is_Gt rfl) (fun x5 => ?_)
      refine is_A (fun h1 => ?_)
      refine is_B (V := id1) (is_Pt rfl (ti_add rfl tl_1 h1)) (fun _ => ?_)
      exact is_P rfl
    ·
      exact is_P tl_m1
noncomputable def iz_Teller_wrong (this : Nat) (p1 : Int) (p2 : Int) : iM Unit :=
  iB (iGt this 6) fun x1 =>
  if ¬ x1 = (-1) then
    iP ()
  else
    iA (8 * p1) fun y1 =>
    iA (y1 + p2) fun y2 =>
    iB (iPt this 6 y2) fun _ =>
    iP ()
set_option maxRecDepth 20000 in
set_option maxHeartbeats 2000000 in
theorem is_Teller_wrong {this : Nat} {p1 : Int32} {p1' : Int} {p2 : Int32} {p2' : Int} (qp1 : p1.toInt = p1') (qp2 : p2.toInt = p2') : iS (jf_Teller_wrong this p1 p2) (iz_Teller_wrong this p1' p2') id1 := by
  subst qp1 qp2
  unfold jf_Teller_wrong iz_Teller_wrong
  refine is_B (V := Int32.toInt) (is_Gt rfl) (fun x1 => ?_)
  refine is_if (ti_not (ti_eq rfl tl_m1)) ?_ ?_
  ·
    exact is_P rfl
  ·
    refine is_A (fun h1 => ?_)
    refine is_A (fun h2 => ?_)
    refine is_B (V := id1) (is_Pt rfl (ti_add (ti_mul tl_8 rfl h1) rfl h2)) (fun _ => ?_)
    exact is_P rfl
noncomputable def iz_Teller_tellOnce (this : Nat) (p1 : Int) (p2 : Int) : iM Unit :=
  iB (iGt this 7) fun x1 =>
  iB (α := Unit) (
    if (ibAnd (ibShr x1 (ibAnd p1 31)) 1) = 0 then
      iP ()
    else
      iB (iz_Teller_wrong this p2 3) fun _ =>
      iP ()) fun s2 =>
  iB (iGt this 7) fun x3 =>
  iB (iPt this 7 (ibOr x3 (ibShl 1 (ibAnd p1 31)))) fun _ =>
  iP ()
set_option maxRecDepth 20000 in
set_option maxHeartbeats 2000000 in
theorem is_Teller_tellOnce {this : Nat} {p1 : Int32} {p1' : Int} {p2 : Int32} {p2' : Int} (qp1 : p1.toInt = p1') (qp2 : p2.toInt = p2') : iS (jf_Teller_tellOnce this p1 p2) (iz_Teller_tellOnce this p1' p2') id1 := by
  subst qp1 qp2
  unfold jf_Teller_tellOnce iz_Teller_tellOnce
  refine is_B (V := Int32.toInt) (is_Gt rfl) (fun x1 => ?_)
  refine is_B (V := id1) ?_ (fun s2 => ?_)
  ·
    refine is_if (ti_eq (ti_and (ti_shr rfl (ti_and rfl tl_31)) tl_1) tl_0) ?_ ?_
    ·
      exact is_P rfl
    ·
      refine is_B (V := id1) (is_Teller_wrong rfl tl_3) (fun _ => ?_)
      exact is_P rfl
  refine is_B (V := Int32.toInt) (is_Gt rfl) (fun x3 => ?_)
  refine is_B (V := id1) (is_Pt rfl (ti_or rfl (ti_shl tl_1 (ti_and rfl tl_31)))) (fun _ => ?_)
  exact is_P rfl
noncomputable def iz_Teller_readNumber (this : Nat) (p1 : Int) (p2 : Int) : iM Int :=
  iB (iGt this 6) fun x1 =>
  if x1 = (-1) then
    iB (iz_Teller_sign this) fun x2 =>
    if x2 = 1 then
      iB (iGt this 5) fun x3 =>
      iB (iz_Top_at (qm_rf this 4) x3) fun x4 =>
      iB (α := (Unit ⊕ Int)) (
        if x4 < p1 then
          iP (Sum.inl ())
        else
          if x4 ≤ p2 then
            iB (iGt this 5) fun x6 =>
            iA (x6 + 1) fun y1 =>
            iB (iPt this 5 y1) fun _ =>
            iP (Sum.inr x4)
          else
            iP (Sum.inl ())) (Sum.elim (fun s5 =>
        iB (iz_Teller_place this) fun x7 =>
        iB (iz_Teller_wrong this x7 2) fun _ =>
        iP 0) iP)
    else
      iB (iz_Teller_place this) fun x8 =>
      iB (iz_Teller_wrong this x8 1) fun _ =>
      iP 0
  else
    iP 0
set_option maxRecDepth 20000 in
set_option maxHeartbeats 2000000 in
theorem is_Teller_readNumber {this : Nat} {p1 : Int32} {p1' : Int} {p2 : Int32} {p2' : Int} (qp1 : p1.toInt = p1') (qp2 : p2.toInt = p2') : iS (jf_Teller_readNumber this p1 p2) (iz_Teller_readNumber this p1' p2') Int32.toInt := by
  subst qp1 qp2
  unfold jf_Teller_readNumber iz_Teller_readNumber
  refine is_B (V := Int32.toInt) (is_Gt rfl) (fun x1 => ?_)
  refine is_if (ti_eq rfl tl_m1) ?_ ?_
  ·
    refine is_B (V := Int32.toInt) (is_Teller_sign) (fun x2 => ?_)
    refine is_if (ti_eq rfl tl_1) ?_ ?_
    ·
      refine is_B (V := Int32.toInt) (is_Gt rfl) (fun x3 => ?_)
      refine is_B (V := Int32.toInt) (is_Top_at rfl) (fun x4 => ?_)
      refine is_E (V := id1) ?_ (fun s5 => ?_)
      ·
        refine is_if (ti_lt rfl rfl) ?_ ?_
        ·
          exact is_P (pinl rfl)
        ·
          refine is_if (ti_le rfl rfl) ?_ ?_
          ·
            refine is_B (V := Int32.toInt) (is_Gt rfl) (fun x6 => ?_)
            refine is_A (fun h1 => ?_)
            refine is_B (V := id1) (is_Pt rfl (ti_add rfl tl_1 h1)) (fun _ => ?_)
            exact is_P (pinr rfl)
          ·
            exact is_P (pinl rfl)
      ·
        refine is_B (V := Int32.toInt) (is_Teller_place) (fun x7 => ?_)
        refine is_B (V := id1) (is_Teller_wrong rfl tl_2) (fun _ => ?_)
        exact is_P tl_0
    ·
      refine is_B (V := Int32.toInt) (is_Teller_place) (fun x8 => ?_)
      refine is_B (V := id1) (is_Teller_wrong rfl tl_1) (fun _ => ?_)
      exact is_P tl_0
  ·
    exact is_P tl_0
noncomputable def iz_Teller_readSetting (this : Nat) (p1 : Int) (p2 : Int) : iM Unit :=
  iB (iz_Teller_tellOnce this p1 p2) fun _ =>
  iB (iz_Top_at 406 p1) fun x1 =>
  iB (iz_Top_at 407 p1) fun x2 =>
  iB (iz_Teller_readNumber this x1 x2) fun x3 =>
  iB (iGt this 6) fun x4 =>
  if ¬ x4 = (-1) then
    iP ()
  else
    iB (iz_Run_put (qm_rf this 1) p1 x3) fun _ =>
    iP ()
set_option maxRecDepth 20000 in
set_option maxHeartbeats 2000000 in
theorem is_Teller_readSetting {this : Nat} {p1 : Int32} {p1' : Int} {p2 : Int32} {p2' : Int} (qp1 : p1.toInt = p1') (qp2 : p2.toInt = p2') : iS (jf_Teller_readSetting this p1 p2) (iz_Teller_readSetting this p1' p2') id1 := by
  subst qp1 qp2
  unfold jf_Teller_readSetting iz_Teller_readSetting
  refine is_B (V := id1) (is_Teller_tellOnce rfl rfl) (fun _ => ?_)
  refine is_B (V := Int32.toInt) (is_Top_at rfl) (fun x1 => ?_)
  refine is_B (V := Int32.toInt) (is_Top_at rfl) (fun x2 => ?_)
  refine is_B (V := Int32.toInt) (is_Teller_readNumber rfl rfl) (fun x3 => ?_)
  refine is_B (V := Int32.toInt) (is_Gt rfl) (fun x4 => ?_)
  refine is_if (ti_not (ti_eq rfl tl_m1)) ?_ ?_
  ·
    exact is_P rfl
  ·
    refine is_B (V := id1) (is_Run_put rfl rfl) (fun _ => ?_)
    exact is_P rfl
noncomputable def iz_Teller_mostHigh (p1 : Int) : iM Int :=
  if p1 = 1 then
    iP 200
  else
    if p1 = 2 then
      iP 30
    else
      if p1 = 3 then
        iP 9
      else
        if p1 = 4 then
          iP 60
        else
          iP 9
set_option maxRecDepth 20000 in
set_option maxHeartbeats 2000000 in
theorem is_Teller_mostHigh {p1 : Int32} {p1' : Int} (qp1 : p1.toInt = p1') : iS (jf_Teller_mostHigh p1) (iz_Teller_mostHigh p1') Int32.toInt := by
  subst qp1
  unfold jf_Teller_mostHigh iz_Teller_mostHigh
  refine is_if (ti_eq rfl tl_1) ?_ ?_
  ·
    exact is_P tl_200
  ·
    refine is_if (ti_eq rfl tl_2) ?_ ?_
    ·
      exact is_P tl_30
    ·
      refine is_if (ti_eq rfl tl_3) ?_ ?_
      ·
        exact is_P tl_9
      ·
        refine is_if (ti_eq rfl tl_4) ?_ ?_
        ·
          exact is_P tl_60
        ·
          exact is_P tl_9
noncomputable def iz_Teller_readMark (this : Nat) (p1 : Int) (p2 : Int) : iM Unit :=
  iB (iz_Run_cell (qm_rf this 1) p1 7) fun x1 =>
  iB (α := Unit) (
    if x1 < 4 then
      iP ()
    else
      iB (iz_Teller_wrong this p2 3) fun _ =>
      iP ()) fun s2 =>
  iB (iz_Teller_place this) fun x3 =>
  iB (iz_Run_cell (qm_rf this 1) p1 1) fun x4 =>
  iB (iz_Teller_readNumber this 1 x4) fun x5 =>
  iB (iz_Run_noteAt (qm_rf this 1) p1 x5) fun x6 =>
  iB (α := Unit) (
    if x6 ≤ 0 then
      iP ()
    else
      iB (iz_Teller_wrong this x3 2) fun _ =>
      iP ()) fun s7 =>
  iB (iz_Teller_readNumber this 1 20) fun x8 =>
  iB (iGt this 6) fun x9 =>
  if ¬ x9 = (-1) then
    iP ()
  else
    iB (iz_Run_addMark (qm_rf this 1) p1 x5 x8) fun _ =>
    iP ()
set_option maxRecDepth 20000 in
set_option maxHeartbeats 2000000 in
theorem is_Teller_readMark {this : Nat} {p1 : Int32} {p1' : Int} {p2 : Int32} {p2' : Int} (qp1 : p1.toInt = p1') (qp2 : p2.toInt = p2') : iS (jf_Teller_readMark this p1 p2) (iz_Teller_readMark this p1' p2') id1 := by
  subst qp1 qp2
  unfold jf_Teller_readMark iz_Teller_readMark
  refine is_B (V := Int32.toInt) (is_Run_cell rfl tl_7) (fun x1 => ?_)
  refine is_B (V := id1) ?_ (fun s2 => ?_)
  ·
    refine is_if (ti_lt rfl tl_4) ?_ ?_
    ·
      exact is_P rfl
    ·
      refine is_B (V := id1) (is_Teller_wrong rfl tl_3) (fun _ => ?_)
      exact is_P rfl
  refine is_B (V := Int32.toInt) (is_Teller_place) (fun x3 => ?_)
  refine is_B (V := Int32.toInt) (is_Run_cell rfl tl_1) (fun x4 => ?_)
  refine is_B (V := Int32.toInt) (is_Teller_readNumber tl_1 rfl) (fun x5 => ?_)
  refine is_B (V := Int32.toInt) (is_Run_noteAt rfl rfl) (fun x6 => ?_)
  refine is_B (V := id1) ?_ (fun s7 => ?_)
  ·
    refine is_if (ti_le rfl tl_0) ?_ ?_
    ·
      exact is_P rfl
    ·
      refine is_B (V := id1) (is_Teller_wrong rfl tl_2) (fun _ => ?_)
      exact is_P rfl
  refine is_B (V := Int32.toInt) (is_Teller_readNumber tl_1 tl_20) (fun x8 => ?_)
  refine is_B (V := Int32.toInt) (is_Gt rfl) (fun x9 => ?_)
  refine is_if (ti_not (ti_eq rfl tl_m1)) ?_ ?_
  ·
    exact is_P rfl
  ·
    refine is_B (V := id1) (is_Run_addMark rfl rfl rfl) (fun _ => ?_)
    exact is_P rfl
noncomputable def iz_Teller_readWords (this : Nat) (p1 : Int) (p2 : Int) : iM Unit :=
  iB (iGt this 7) fun x1 =>
  iB (iPt this 7 (ibAnd x1 255)) fun _ =>
  iB (α := Unit) (
    iW (S := Int) (α := Unit) (fun s3 =>
      iB (iGt this 6) fun x4 =>
      if ¬ x4 = (-1) then
        iP (Sum.inr ())
      else
        iB (iz_Teller_sign this) fun x5 =>
        if x5 = 4 then
          iP (Sum.inr ())
        else
          iB (iz_Teller_sign this) fun x6 =>
          if x6 = 2 then
            iP (Sum.inr ())
          else
            if 401 ≤ s3 then
              iP (Sum.inr ())
            else
              iB (iz_Teller_place this) fun x7 =>
              iB (iz_Teller_readWord this) fun x8 =>
              iB (α := Unit) (
                if ¬ x8 = 13 then
                  iB (α := (Unit ⊕ Unit)) (
                    if ¬ x8 = 14 then
                      iP (Sum.inl ())
                    else
                      if ¬ p2 = 0 then
                        iP (Sum.inl ())
                      else
                        iB (iz_Teller_tellOnce this x8 x7) fun _ =>
                        iB (iz_Run_putCell (qm_rf this 1) p1 5 1) fun _ =>
                        iP (Sum.inr ())) (Sum.elim (fun s10 =>
                    if ¬ x8 = 15 then
                      iB (α := (Unit ⊕ Unit)) (
                        if ¬ x8 = 16 then
                          iP (Sum.inl ())
                        else
                          if ¬ p2 = 0 then
                            iP (Sum.inl ())
                          else
                            iB (iz_Teller_readMark this p1 x7) fun _ =>
                            iP (Sum.inr ())) (Sum.elim (fun s11 =>
                        iB (iz_Teller_wrong this x7 1) fun _ =>
                        iP ()) iP)
                    else
                      iB (iz_Teller_tellOnce this x8 x7) fun _ =>
                      iB (iz_Teller_readNumber this 0 30) fun x12 =>
                      iB (iz_Run_putCell (qm_rf this 1) p1 6 x12) fun _ =>
                      iP ()) iP)
                else
                  iB (iz_Teller_tellOnce this x8 x7) fun _ =>
                  iB (iz_Run_putCell (qm_rf this 1) p1 4 1) fun _ =>
                  iP ()) fun s9 =>
              iA (s3 + 1) fun y1 =>
              iB (iP y1) fun x13 =>
              iP (Sum.inl x13)) 0) fun s2 =>
  iP ()
set_option maxRecDepth 20000 in
set_option maxHeartbeats 2000000 in
theorem is_Teller_readWords {this : Nat} {p1 : Int32} {p1' : Int} {p2 : Int32} {p2' : Int} (qp1 : p1.toInt = p1') (qp2 : p2.toInt = p2') : iS (jf_Teller_readWords this p1 p2) (iz_Teller_readWords this p1' p2') id1 := by
  subst qp1 qp2
  unfold jf_Teller_readWords iz_Teller_readWords
  refine is_B (V := Int32.toInt) (is_Gt rfl) (fun x1 => ?_)
  refine is_B (V := id1) (is_Pt rfl (ti_and rfl tl_255)) (fun _ => ?_)
  refine is_B (V := id1) ?_ (fun s2 => ?_)
  ·
    refine is_W (V := Int32.toInt) (W := id1) (fun s3 => ?_) tl_0
    refine is_B (V := Int32.toInt) (is_Gt rfl) (fun x4 => ?_)
    refine is_if (ti_not (ti_eq rfl tl_m1)) ?_ ?_
    ·
      exact is_P (pinr rfl)
    ·
      refine is_B (V := Int32.toInt) (is_Teller_sign) (fun x5 => ?_)
      refine is_if (ti_eq rfl tl_4) ?_ ?_
      ·
        exact is_P (pinr rfl)
      ·
        refine is_B (V := Int32.toInt) (is_Teller_sign) (fun x6 => ?_)
        refine is_if (ti_eq rfl tl_2) ?_ ?_
        ·
          exact is_P (pinr rfl)
        ·
          refine is_if (ti_le tl_401 rfl) ?_ ?_
          ·
            exact is_P (pinr rfl)
          ·
            refine is_B (V := Int32.toInt) (is_Teller_place) (fun x7 => ?_)
            refine is_B (V := Int32.toInt) (is_Teller_readWord) (fun x8 => ?_)
            refine is_B (V := id1) ?_ (fun s9 => ?_)
            ·
              refine is_if (ti_not (ti_eq rfl tl_13)) ?_ ?_
              ·
                refine is_E (V := id1) ?_ (fun s10 => ?_)
                ·
                  refine is_if (ti_not (ti_eq rfl tl_14)) ?_ ?_
                  ·
                    exact is_P (pinl rfl)
                  ·
                    refine is_if (ti_not (ti_eq rfl tl_0)) ?_ ?_
                    ·
                      exact is_P (pinl rfl)
                    ·
                      refine is_B (V := id1) (is_Teller_tellOnce rfl rfl) (fun _ => ?_)
                      refine is_B (V := id1) (is_Run_putCell rfl tl_5 tl_1) (fun _ => ?_)
                      exact is_P (pinr rfl)
                ·
                  refine is_if (ti_not (ti_eq rfl tl_15)) ?_ ?_
                  ·
                    refine is_E (V := id1) ?_ (fun s11 => ?_)
                    ·
                      refine is_if (ti_not (ti_eq rfl tl_16)) ?_ ?_
                      ·
                        exact is_P (pinl rfl)
                      ·
                        refine is_if (ti_not (ti_eq rfl tl_0)) ?_ ?_
                        ·
                          exact is_P (pinl rfl)
                        ·
                          refine is_B (V := id1) (is_Teller_readMark rfl rfl) (fun _ => ?_)
                          exact is_P (pinr rfl)
                    ·
                      refine is_B (V := id1) (is_Teller_wrong rfl tl_1) (fun _ => ?_)
                      exact is_P rfl
                  ·
                    refine is_B (V := id1) (is_Teller_tellOnce rfl rfl) (fun _ => ?_)
                    refine is_B (V := Int32.toInt) (is_Teller_readNumber tl_0 tl_30) (fun x12 => ?_)
                    refine is_B (V := id1) (is_Run_putCell rfl tl_6 rfl) (fun _ => ?_)
                    exact is_P rfl
              ·
                refine is_B (V := id1) (is_Teller_tellOnce rfl rfl) (fun _ => ?_)
                refine is_B (V := id1) (is_Run_putCell rfl tl_4 tl_1) (fun _ => ?_)
                exact is_P rfl
            refine is_A (fun h1 => ?_)
            refine is_B (V := Int32.toInt) (is_P (ti_add rfl tl_1 h1)) (fun x13 => ?_)
            exact is_P (pinl rfl)
  exact is_P rfl
noncomputable def iz_Teller_readBlock (this : Nat) (p1 : Int) (p2 : Int) : iM Unit :=
  iB (α := Int) (
    iB (α := (Unit ⊕ Int)) (
      if p1 = 1 then
        iP (Sum.inl ())
      else
        if ¬ p1 = 2 then
          iP (Sum.inr 0)
        else
          iP (Sum.inl ())) (Sum.elim (fun s2 =>
      iP 1) iP)) fun s1 =>
  iB (iz_Run_allPieces (qm_rf this 1)) fun x3 =>
  iB (iGt (qm_rf this 1) 0) fun x4 =>
  iB (α := (Unit ⊕ Unit)) (
    if 16 ≤ x4 then
      iP (Sum.inl ())
    else
      iB (α := (Unit ⊕ (Unit ⊕ Unit))) (
        if s1 = 0 then
          iP (Sum.inl ())
        else
          if x3 < 90 then
            iP (Sum.inl ())
          else
            iP (Sum.inr (Sum.inl ()))) (Sum.elim (fun s6 =>
        iB (iz_Run_add (qm_rf this 1) p1) fun x7 =>
        iB (α := Unit) (
          if ¬ p1 = 3 then
            iP ()
          else
            iB (iz_Teller_readNumber this 0 9) fun x9 =>
            iB (iz_Run_putCell (qm_rf this 1) x7 3 x9) fun _ =>
            iP ()) fun s8 =>
        iB (α := Int) (
          if s1 = 0 then
            iP 0
          else
            iP 1) fun s10 =>
        iB (α := Int) (
          iB (α := (Unit ⊕ Int)) (
            if p1 = 0 then
              iP (Sum.inl ())
            else
              if ¬ p1 = 3 then
                iP (Sum.inr s10)
              else
                iP (Sum.inl ())) (Sum.elim (fun s12 =>
            iB (iz_Teller_place this) fun x13 =>
            iB (iz_Teller_readNumber this 1 30) fun x14 =>
            iA (x3 + x14) fun y1 =>
            if y1 ≤ 90 then
              iP x14
            else
              iB (iz_Teller_wrong this x13 3) fun _ =>
              iP x14) iP)) fun s11 =>
        iB (iz_Run_putCell (qm_rf this 1) x7 1 s11) fun _ =>
        iB (iz_Teller_mostHigh p1) fun x15 =>
        iB (iz_Teller_readNumber this 1 x15) fun x16 =>
        iB (iz_Run_putCell (qm_rf this 1) x7 2 x16) fun _ =>
        if p1 = 4 then
          iP (Sum.inr ())
        else
          iB (iz_Teller_readWords this x7 p1) fun _ =>
          iP (Sum.inr ())) iP)) (Sum.elim (fun s5 =>
    iB (iz_Teller_wrong this p2 3) fun _ =>
    iP ()) iP)
set_option maxRecDepth 20000 in
set_option maxHeartbeats 2000000 in
theorem is_Teller_readBlock {this : Nat} {p1 : Int32} {p1' : Int} {p2 : Int32} {p2' : Int} (qp1 : p1.toInt = p1') (qp2 : p2.toInt = p2') : iS (jf_Teller_readBlock this p1 p2) (iz_Teller_readBlock this p1' p2') id1 := by
  subst qp1 qp2
  unfold jf_Teller_readBlock iz_Teller_readBlock
  refine is_B (V := Int32.toInt) ?_ (fun s1 => ?_)
  ·
    refine is_E (V := id1) ?_ (fun s2 => ?_)
    ·
      refine is_if (ti_eq rfl tl_1) ?_ ?_
      ·
        exact is_P (pinl rfl)
      ·
        refine is_if (ti_not (ti_eq rfl tl_2)) ?_ ?_
        ·
          exact is_P (pinr tl_0)
        ·
          exact is_P (pinl rfl)
    ·
      exact is_P tl_1
  refine is_B (V := Int32.toInt) (is_Run_allPieces) (fun x3 => ?_)
  refine is_B (V := Int32.toInt) (is_Gt rfl) (fun x4 => ?_)
  refine is_E (V := id1) ?_ (fun s5 => ?_)
  ·
    refine is_if (ti_le tl_16 rfl) ?_ ?_
    ·
      exact is_P (pinl rfl)
    ·
      refine is_E (V := id1) ?_ (fun s6 => ?_)
      ·
        refine is_if (ti_eq rfl tl_0) ?_ ?_
        ·
          exact is_P (pinl rfl)
        ·
          refine is_if (ti_lt rfl tl_90) ?_ ?_
          ·
            exact is_P (pinl rfl)
          ·
            exact is_P (pinr (pinl rfl))
      ·
        refine is_B (V := Int32.toInt) (is_Run_add rfl) (fun x7 => ?_)
        refine is_B (V := id1) ?_ (fun s8 => ?_)
        ·
          refine is_if (ti_not (ti_eq rfl tl_3)) ?_ ?_
          ·
            exact is_P rfl
          ·
            refine is_B (V := Int32.toInt) (is_Teller_readNumber tl_0 tl_9) (fun x9 => ?_)
            refine is_B (V := id1) (is_Run_putCell rfl tl_3 rfl) (fun _ => ?_)
            exact is_P rfl
        refine is_B (V := Int32.toInt) ?_ (fun s10 => ?_)
        ·
          refine is_if (ti_eq rfl tl_0) ?_ ?_
          ·
            exact is_P tl_0
          ·
            exact is_P tl_1
        refine is_B (V := Int32.toInt) ?_ (fun s11 => ?_)
        ·
          refine is_E (V := id1) ?_ (fun s12 => ?_)
          ·
            refine is_if (ti_eq rfl tl_0) ?_ ?_
            ·
              exact is_P (pinl rfl)
            ·
              refine is_if (ti_not (ti_eq rfl tl_3)) ?_ ?_
              ·
                exact is_P (pinr rfl)
              ·
                exact is_P (pinl rfl)
          ·
            refine is_B (V := Int32.toInt) (is_Teller_place) (fun x13 => ?_)
            refine is_B (V := Int32.toInt) (is_Teller_readNumber tl_1 tl_30) (fun x14 => ?_)
            refine is_A (fun h1 => ?_)
            refine is_if (ti_le (ti_add rfl rfl h1) tl_90) ?_ ?_
            ·
              exact is_P rfl
            ·
              refine is_B (V := id1) (is_Teller_wrong rfl tl_3) (fun _ => ?_)
              exact is_P rfl
        refine is_B (V := id1) (is_Run_putCell rfl tl_1 rfl) (fun _ => ?_)
        refine is_B (V := Int32.toInt) (is_Teller_mostHigh rfl) (fun x15 => ?_)
        refine is_B (V := Int32.toInt) (is_Teller_readNumber tl_1 rfl) (fun x16 => ?_)
        refine is_B (V := id1) (is_Run_putCell rfl tl_2 rfl) (fun _ => ?_)
        refine is_if (ti_eq rfl tl_4) ?_ ?_
        ·
          exact is_P (pinr rfl)
        ·
          refine is_B (V := id1) (is_Teller_readWords rfl rfl) (fun _ => ?_)
          exact is_P (pinr rfl)
  ·
    refine is_B (V := id1) (is_Teller_wrong rfl tl_3) (fun _ => ?_)
    exact is_P rfl
noncomputable def iz_Teller_readPart (this : Nat) : iM Unit :=
  iB (iz_Teller_place this) fun x1 =>
  iB (iz_Teller_readWord this) fun x2 =>
  iB (α := (Unit ⊕ Unit)) (
    if x2 = (-1) then
      iP (Sum.inl ())
    else
      if x2 < 13 then
        if 8 ≤ x2 then
          iA (x2 - 8) fun y1 =>
          iB (iz_Teller_readBlock this y1 x1) fun _ =>
          iP (Sum.inr ())
        else
          iB (iz_Teller_readSetting this x2 x1) fun _ =>
          iP (Sum.inr ())
      else
        iP (Sum.inl ())) (Sum.elim (fun s3 =>
    iB (iz_Teller_wrong this x1 1) fun _ =>
    iP ()) iP)
set_option maxRecDepth 20000 in
set_option maxHeartbeats 2000000 in
theorem is_Teller_readPart {this : Nat} : iS (jf_Teller_readPart this) (iz_Teller_readPart this) id1 := by
  unfold jf_Teller_readPart iz_Teller_readPart
  refine is_B (V := Int32.toInt) (is_Teller_place) (fun x1 => ?_)
  refine is_B (V := Int32.toInt) (is_Teller_readWord) (fun x2 => ?_)
  refine is_E (V := id1) ?_ (fun s3 => ?_)
  ·
    refine is_if (ti_eq rfl tl_m1) ?_ ?_
    ·
      exact is_P (pinl rfl)
    ·
      refine is_if (ti_lt rfl tl_13) ?_ ?_
      ·
        refine is_if (ti_le tl_8 rfl) ?_ ?_
        ·
          refine is_A (fun h1 => ?_)
          refine is_B (V := id1) (is_Teller_readBlock (ti_sub rfl tl_8 h1) rfl) (fun _ => ?_)
          exact is_P (pinr rfl)
        ·
          refine is_B (V := id1) (is_Teller_readSetting rfl rfl) (fun _ => ?_)
          exact is_P (pinr rfl)
      ·
        exact is_P (pinl rfl)
  ·
    refine is_B (V := id1) (is_Teller_wrong rfl tl_1) (fun _ => ?_)
    exact is_P rfl
noncomputable def iz_Walker_fillRow (p1 : Nat) (p2 : Int) : iM Unit :=
  iB (α := Unit) (
    iW (S := Int) (α := Unit) (fun s2 =>
      if (iLen p1) ≤ s2 then
        iP (Sum.inr ())
      else
        iB (iSt p1 s2 p2) fun _ =>
        iA (s2 + 1) fun y1 =>
        iB (iP y1) fun x3 =>
        iP (Sum.inl x3)) 0) fun s1 =>
  iP ()
set_option maxRecDepth 20000 in
set_option maxHeartbeats 2000000 in
theorem is_Walker_fillRow {p1 : Nat} {p2 : Int32} {p2' : Int} (qp2 : p2.toInt = p2') : iS (jf_Walker_fillRow p1 p2) (iz_Walker_fillRow p1 p2') id1 := by
  subst qp2
  unfold jf_Walker_fillRow iz_Walker_fillRow
  refine is_B (V := id1) ?_ (fun s1 => ?_)
  ·
    refine is_W (V := Int32.toInt) (W := id1) (fun s2 => ?_) tl_0
    refine is_if (ti_le (tl_len _) rfl) ?_ ?_
    ·
      exact is_P (pinr rfl)
    ·
      refine is_B (V := id1) (is_St rfl rfl) (fun _ => ?_)
      refine is_A (fun h1 => ?_)
      refine is_B (V := Int32.toInt) (is_P (ti_add rfl tl_1 h1)) (fun x3 => ?_)
      exact is_P (pinl rfl)
  exact is_P rfl
noncomputable def iz_Walker_stepFarther (this : Nat) (p1 : Int) (p2 : Int) (p3 : Int) (p4 : Int) (p5 : Nat) : iM Unit :=
  iB (α := Unit) (
    iW (S := Int) (α := Unit) (fun s2 =>
      if p2 < s2 then
        iP (Sum.inr ())
      else
        if (iLen p5) ≤ s2 then
          iP (Sum.inr ())
        else
          iB (iz_Flow_text (qm_rf this 0) p1 s2) fun x3 =>
          if p4 < x3 then
            iP (Sum.inr ())
          else
            iB (iz_Flow_mayEnd (qm_rf this 0) s2) fun x4 =>
            iB (α := Int) (
              if x4 = 0 then
                iP (-1)
              else
                iB (iz_Fitter_leftOver (qm_rf this 1) p1 s2 p3 p4) fun x6 =>
                iP x6) fun s5 =>
            iB (α := Unit) (
              if s5 = (-1) then
                iP ()
              else
                iB (iLd p5 s2) fun x8 =>
                iB (α := (Unit ⊕ Unit)) (
                  if x8 = (-1) then
                    iP (Sum.inl ())
                  else
                    iB (iLd p5 s2) fun x10 =>
                    if x10 ≤ s5 then
                      iP (Sum.inr ())
                    else
                      iP (Sum.inl ())) (Sum.elim (fun s9 =>
                  iB (iSt p5 s2 s5) fun _ =>
                  iP ()) iP)) fun s7 =>
            iA (s2 + 1) fun y1 =>
            iB (iP y1) fun x11 =>
            iP (Sum.inl x11)) p1) fun s1 =>
  iP ()
set_option maxRecDepth 20000 in
set_option maxHeartbeats 2000000 in
theorem is_Walker_stepFarther {this : Nat} {p1 : Int32} {p1' : Int} {p2 : Int32} {p2' : Int} {p3 : Int32} {p3' : Int} {p4 : Int32} {p4' : Int} {p5 : Nat} (qp1 : p1.toInt = p1') (qp2 : p2.toInt = p2') (qp3 : p3.toInt = p3') (qp4 : p4.toInt = p4') : iS (jf_Walker_stepFarther this p1 p2 p3 p4 p5) (iz_Walker_stepFarther this p1' p2' p3' p4' p5) id1 := by
  subst qp1 qp2 qp3 qp4
  unfold jf_Walker_stepFarther iz_Walker_stepFarther
  refine is_B (V := id1) ?_ (fun s1 => ?_)
  ·
    refine is_W (V := Int32.toInt) (W := id1) (fun s2 => ?_) rfl
    refine is_if (ti_lt rfl rfl) ?_ ?_
    ·
      exact is_P (pinr rfl)
    ·
      refine is_if (ti_le (tl_len _) rfl) ?_ ?_
      ·
        exact is_P (pinr rfl)
      ·
        refine is_B (V := Int32.toInt) (is_Flow_text rfl rfl) (fun x3 => ?_)
        refine is_if (ti_lt rfl rfl) ?_ ?_
        ·
          exact is_P (pinr rfl)
        ·
          refine is_B (V := Int32.toInt) (is_Flow_mayEnd rfl) (fun x4 => ?_)
          refine is_B (V := Int32.toInt) ?_ (fun s5 => ?_)
          ·
            refine is_if (ti_eq rfl tl_0) ?_ ?_
            ·
              exact is_P tl_m1
            ·
              refine is_B (V := Int32.toInt) (is_Fitter_leftOver rfl rfl rfl rfl) (fun x6 => ?_)
              exact is_P rfl
          refine is_B (V := id1) ?_ (fun s7 => ?_)
          ·
            refine is_if (ti_eq rfl tl_m1) ?_ ?_
            ·
              exact is_P rfl
            ·
              refine is_B (V := Int32.toInt) (is_Ld rfl) (fun x8 => ?_)
              refine is_E (V := id1) ?_ (fun s9 => ?_)
              ·
                refine is_if (ti_eq rfl tl_m1) ?_ ?_
                ·
                  exact is_P (pinl rfl)
                ·
                  refine is_B (V := Int32.toInt) (is_Ld rfl) (fun x10 => ?_)
                  refine is_if (ti_le rfl rfl) ?_ ?_
                  ·
                    exact is_P (pinr rfl)
                  ·
                    exact is_P (pinl rfl)
              ·
                refine is_B (V := id1) (is_St rfl rfl) (fun _ => ?_)
                exact is_P rfl
          refine is_A (fun h1 => ?_)
          refine is_B (V := Int32.toInt) (is_P (ti_add rfl tl_1 h1)) (fun x11 => ?_)
          exact is_P (pinl rfl)
  exact is_P rfl
noncomputable def iz_Walker_farthest (this : Nat) (p1 : Int) (p2 : Int) (p3 : Int) : iM Int :=
  iB (iz_Top_at (qm_rf (qm_rf this 0) 16) p1) fun x1 =>
  iB (iz_Math_max 0 x1) fun x2 =>
  iB (iz_Top_at (qm_rf (qm_rf this 0) 17) p1) fun x3 =>
  iB (iz_Math_min 90 x3) fun x4 =>
  if x2 ≤ x4 then
    iB (iLr (qm_rf this 2) 0) fun r5 =>
    iB (iz_Walker_fillRow r5 (-1)) fun _ =>
    iB (iLr (qm_rf this 2) 0) fun r6 =>
    iB (iSt r6 x2 0) fun _ =>
    iB (α := Unit) (
      iW (S := Int) (α := Unit) (fun s8 =>
        if p2 ≤ s8 then
          iP (Sum.inr ())
        else
          iB (iLr (qm_rf this 2) (ibAnd s8 1)) fun r9 =>
          iA (s8 + 1) fun y1 =>
          iB (iLr (qm_rf this 2) (ibAnd y1 1)) fun r10 =>
          iB (iz_Walker_fillRow r10 (-1)) fun _ =>
          iB (α := Unit) (
            iW (S := Int) (α := Unit) (fun s12 =>
              if x4 < s12 then
                iP (Sum.inr ())
              else
                iB (iLd r9 s12) fun x13 =>
                iB (α := Unit) (
                  if x13 = (-1) then
                    iP ()
                  else
                    iB (iLd r9 s12) fun x15 =>
                    iB (iz_Walker_stepFarther this s12 x4 x15 p3 r10) fun _ =>
                    iP ()) fun s14 =>
                iA (s12 + 1) fun y2 =>
                iB (iP y2) fun x16 =>
                iP (Sum.inl x16)) x2) fun s11 =>
          iA (s8 + 1) fun y3 =>
          iB (iP y3) fun x17 =>
          iP (Sum.inl x17)) 0) fun s7 =>
    iB (α := (Unit ⊕ Int)) (
      iW (S := Int) (α := (Unit ⊕ Int)) (fun s19 =>
        if s19 < x2 then
          iP (Sum.inr (Sum.inl ()))
        else
          iB (iLr (qm_rf this 2) (ibAnd p2 1)) fun r20 =>
          iB (iLd r20 s19) fun x21 =>
          if x21 = (-1) then
            iA (s19 + (-1)) fun y4 =>
            iB (iP y4) fun x22 =>
            iP (Sum.inl x22)
          else
            iP (Sum.inr (Sum.inr s19))) x4) (Sum.elim (fun s18 =>
      iP (-2)) iP)
  else
    iP (-2)
set_option maxRecDepth 20000 in
set_option maxHeartbeats 2000000 in
theorem is_Walker_farthest {this : Nat} {p1 : Int32} {p1' : Int} {p2 : Int32} {p2' : Int} {p3 : Int32} {p3' : Int} (qp1 : p1.toInt = p1') (qp2 : p2.toInt = p2') (qp3 : p3.toInt = p3') : iS (jf_Walker_farthest this p1 p2 p3) (iz_Walker_farthest this p1' p2' p3') Int32.toInt := by
  subst qp1 qp2 qp3
  unfold jf_Walker_farthest iz_Walker_farthest
  refine is_B (V := Int32.toInt) (is_Top_at rfl) (fun x1 => ?_)
  refine is_B (V := Int32.toInt) (is_Math_max tl_0 rfl) (fun x2 => ?_)
  refine is_B (V := Int32.toInt) (is_Top_at rfl) (fun x3 => ?_)
  refine is_B (V := Int32.toInt) (is_Math_min tl_90 rfl) (fun x4 => ?_)
  refine is_if (ti_le rfl rfl) ?_ ?_
  ·
    refine is_B (V := id1) (is_Lr tl_0) (fun r5 => ?_)
    refine is_B (V := id1) (is_Walker_fillRow tl_m1) (fun _ => ?_)
    refine is_B (V := id1) (is_Lr tl_0) (fun r6 => ?_)
    refine is_B (V := id1) (is_St rfl tl_0) (fun _ => ?_)
    refine is_B (V := id1) ?_ (fun s7 => ?_)
    ·
      refine is_W (V := Int32.toInt) (W := id1) (fun s8 => ?_) tl_0
      refine is_if (ti_le rfl rfl) ?_ ?_
      ·
        exact is_P (pinr rfl)
      ·
        refine is_B (V := id1) (is_Lr (ti_and rfl tl_1)) (fun r9 => ?_)
        refine is_A (fun h1 => ?_)
        refine is_B (V := id1) (is_Lr (ti_and (ti_add rfl tl_1 h1) tl_1)) (fun r10 => ?_)
        refine is_B (V := id1) (is_Walker_fillRow tl_m1) (fun _ => ?_)
        refine is_B (V := id1) ?_ (fun s11 => ?_)
        ·
          refine is_W (V := Int32.toInt) (W := id1) (fun s12 => ?_) rfl
          refine is_if (ti_lt rfl rfl) ?_ ?_
          ·
            exact is_P (pinr rfl)
          ·
            refine is_B (V := Int32.toInt) (is_Ld rfl) (fun x13 => ?_)
            refine is_B (V := id1) ?_ (fun s14 => ?_)
            ·
              refine is_if (ti_eq rfl tl_m1) ?_ ?_
              ·
                exact is_P rfl
              ·
                refine is_B (V := Int32.toInt) (is_Ld rfl) (fun x15 => ?_)
                refine is_B (V := id1) (is_Walker_stepFarther rfl rfl rfl rfl) (fun _ => ?_)
                exact is_P rfl
            refine is_A (fun h2 => ?_)
            refine is_B (V := Int32.toInt) (is_P (ti_add rfl tl_1 h2)) (fun x16 => ?_)
            exact is_P (pinl rfl)
        refine is_A (fun h3 => ?_)
        refine is_B (V := Int32.toInt) (is_P (ti_add rfl tl_1 h3)) (fun x17 => ?_)
        exact is_P (pinl rfl)
    refine is_E (V := id1) ?_ (fun s18 => ?_)
    ·
      refine is_W (V := Int32.toInt) (W := (is2 id1 Int32.toInt)) (fun s19 => ?_) rfl
      refine is_if (ti_lt rfl rfl) ?_ ?_
      ·
        exact is_P (pinr (pinl rfl))
      ·
        refine is_B (V := id1) (is_Lr (ti_and rfl tl_1)) (fun r20 => ?_)
        refine is_B (V := Int32.toInt) (is_Ld rfl) (fun x21 => ?_)
        refine is_if (ti_eq rfl tl_m1) ?_ ?_
        ·
          refine is_A (fun h4 => ?_)
          refine is_B (V := Int32.toInt) (is_P (ti_add rfl tl_m1 h4)) (fun x22 => ?_)
          exact is_P (pinl rfl)
        ·
          exact is_P (pinr (pinr rfl))
    ·
      exact is_P tl_m2
  ·
    exact is_P tl_m2
noncomputable def iz_Walker_stepWays (this : Nat) (p1 : Int) (p2 : Int) (p3 : Int) (p4 : Int) (p5 : Nat) : iM Unit :=
  iB (iDv p1 20) fun x1 =>
  iB (iRm p1 20) fun x2 =>
  iB (α := Unit) (
    iW (S := Int) (α := Unit) (fun s4 =>
      if p2 < s4 then
        iP (Sum.inr ())
      else
        iB (iz_Flow_text (qm_rf this 0) x1 s4) fun x5 =>
        if p4 < x5 then
          iP (Sum.inr ())
        else
          iB (iz_Flow_mayEnd (qm_rf this 0) s4) fun x6 =>
          iB (α := Int) (
            if x6 = 0 then
              iP (-1)
            else
              iB (iz_Fitter_leftOver (qm_rf this 1) x1 s4 x2 p4) fun x8 =>
              iP x8) fun s7 =>
          iA (s4 * 20) fun y1 =>
          iA (y1 + s7) fun y2 =>
          iB (iP y2) fun x9 =>
          iB (α := Unit) (
            if s7 = (-1) then
              iP ()
            else
              if 20 ≤ s7 then
                iP ()
              else
                if (iLen p5) ≤ x9 then
                  iP ()
                else
                  iB (iLd p5 x9) fun x11 =>
                  iB (iSt p5 x9 (ibAdd x11 p3)) fun _ =>
                  iP ()) fun s10 =>
          iA (s4 + 1) fun y3 =>
          iB (iP y3) fun x12 =>
          iP (Sum.inl x12)) x1) fun s3 =>
  iP ()
set_option maxRecDepth 20000 in
set_option maxHeartbeats 2000000 in
theorem is_Walker_stepWays {this : Nat} {p1 : Int32} {p1' : Int} {p2 : Int32} {p2' : Int} {p3 : Int32} {p3' : Int} {p4 : Int32} {p4' : Int} {p5 : Nat} (qp1 : p1.toInt = p1') (qp2 : p2.toInt = p2') (qp3 : p3.toInt = p3') (qp4 : p4.toInt = p4') : iS (jf_Walker_stepWays this p1 p2 p3 p4 p5) (iz_Walker_stepWays this p1' p2' p3' p4' p5) id1 := by
  subst qp1 qp2 qp3 qp4
  unfold jf_Walker_stepWays iz_Walker_stepWays
  refine is_B (V := Int32.toInt) (is_Dv rfl tl_20) (fun x1 => ?_)
  refine is_B (V := Int32.toInt) (is_Rm rfl tl_20) (fun x2 => ?_)
  refine is_B (V := id1) ?_ (fun s3 => ?_)
  ·
    refine is_W (V := Int32.toInt) (W := id1) (fun s4 => ?_) rfl
    refine is_if (ti_lt rfl rfl) ?_ ?_
    ·
      exact is_P (pinr rfl)
    ·
      refine is_B (V := Int32.toInt) (is_Flow_text rfl rfl) (fun x5 => ?_)
      refine is_if (ti_lt rfl rfl) ?_ ?_
      ·
        exact is_P (pinr rfl)
      ·
        refine is_B (V := Int32.toInt) (is_Flow_mayEnd rfl) (fun x6 => ?_)
        refine is_B (V := Int32.toInt) ?_ (fun s7 => ?_)
        ·
          refine is_if (ti_eq rfl tl_0) ?_ ?_
          ·
            exact is_P tl_m1
          ·
            refine is_B (V := Int32.toInt) (is_Fitter_leftOver rfl rfl rfl rfl) (fun x8 => ?_)
            exact is_P rfl
        refine is_A (fun h1 => ?_)
        refine is_A (fun h2 => ?_)
        refine is_B (V := Int32.toInt) (is_P (ti_add (ti_mul rfl tl_20 h1) rfl h2)) (fun x9 => ?_)
        refine is_B (V := id1) ?_ (fun s10 => ?_)
        ·
          refine is_if (ti_eq rfl tl_m1) ?_ ?_
          ·
            exact is_P rfl
          ·
            refine is_if (ti_le tl_20 rfl) ?_ ?_
            ·
              exact is_P rfl
            ·
              refine is_if (ti_le (tl_len _) rfl) ?_ ?_
              ·
                exact is_P rfl
              ·
                refine is_B (V := Int32.toInt) (is_Ld rfl) (fun x11 => ?_)
                refine is_B (V := id1) (is_St rfl (ti_wadd rfl rfl)) (fun _ => ?_)
                exact is_P rfl
        refine is_A (fun h3 => ?_)
        refine is_B (V := Int32.toInt) (is_P (ti_add rfl tl_1 h3)) (fun x12 => ?_)
        exact is_P (pinl rfl)
  exact is_P rfl
noncomputable def iz_Walker_rowsOfEnds (this : Nat) (p1 : Int) (p2 : Int) (p3 : Int) : iM Int :=
  iB (iz_Top_at (qm_rf (qm_rf this 0) 16) p1) fun x1 =>
  iB (iz_Math_max 0 x1) fun x2 =>
  iB (iz_Top_at (qm_rf (qm_rf this 0) 17) p1) fun x3 =>
  iB (iz_Math_min 90 x3) fun x4 =>
  if x2 ≤ x4 then
    iB (iLr (qm_rf this 3) 0) fun r5 =>
    iB (iz_Walker_fillRow r5 0) fun _ =>
    iB (iLr (qm_rf this 3) 0) fun r6 =>
    iA (x2 * 20) fun y1 =>
    iB (iSt r6 y1 1) fun _ =>
    iB (α := Unit) (
      iW (S := Int) (α := Unit) (fun s8 =>
        if p2 ≤ s8 then
          iP (Sum.inr ())
        else
          iB (iLr (qm_rf this 3) (ibAnd s8 1)) fun r9 =>
          iA (s8 + 1) fun y2 =>
          iB (iLr (qm_rf this 3) (ibAnd y2 1)) fun r10 =>
          iB (iz_Walker_fillRow r10 0) fun _ =>
          iA (x2 * 20) fun y3 =>
          iB (iP y3) fun x11 =>
          iB (α := Unit) (
            iW (S := Int) (α := Unit) (fun s13 =>
              iA (x4 + 1) fun y4 =>
              iA (y4 * 20) fun y5 =>
              if y5 ≤ s13 then
                iP (Sum.inr ())
              else
                if (iLen r9) ≤ s13 then
                  iP (Sum.inr ())
                else
                  iB (iLd r9 s13) fun x14 =>
                  iB (α := Unit) (
                    if x14 ≤ 0 then
                      iP ()
                    else
                      iB (iLd r9 s13) fun x16 =>
                      iB (iz_Walker_stepWays this s13 x4 x16 p3 r10) fun _ =>
                      iP ()) fun s15 =>
                  iA (s13 + 1) fun y6 =>
                  iB (iP y6) fun x17 =>
                  iP (Sum.inl x17)) x11) fun s12 =>
          iA (s8 + 1) fun y7 =>
          iB (iP y7) fun x18 =>
          iP (Sum.inl x18)) 0) fun s7 =>
    iB (iLr (qm_rf this 3) (ibAnd p2 1)) fun r19 =>
    iA (x4 * 20) fun y8 =>
    iB (iLd r19 y8) fun x20 =>
    iP x20
  else
    iP 0
set_option maxRecDepth 20000 in
set_option maxHeartbeats 2000000 in
theorem is_Walker_rowsOfEnds {this : Nat} {p1 : Int32} {p1' : Int} {p2 : Int32} {p2' : Int} {p3 : Int32} {p3' : Int} (qp1 : p1.toInt = p1') (qp2 : p2.toInt = p2') (qp3 : p3.toInt = p3') : iS (jf_Walker_rowsOfEnds this p1 p2 p3) (iz_Walker_rowsOfEnds this p1' p2' p3') Int32.toInt := by
  subst qp1 qp2 qp3
  unfold jf_Walker_rowsOfEnds iz_Walker_rowsOfEnds
  refine is_B (V := Int32.toInt) (is_Top_at rfl) (fun x1 => ?_)
  refine is_B (V := Int32.toInt) (is_Math_max tl_0 rfl) (fun x2 => ?_)
  refine is_B (V := Int32.toInt) (is_Top_at rfl) (fun x3 => ?_)
  refine is_B (V := Int32.toInt) (is_Math_min tl_90 rfl) (fun x4 => ?_)
  refine is_if (ti_le rfl rfl) ?_ ?_
  ·
    refine is_B (V := id1) (is_Lr tl_0) (fun r5 => ?_)
    refine is_B (V := id1) (is_Walker_fillRow tl_0) (fun _ => ?_)
    refine is_B (V := id1) (is_Lr tl_0) (fun r6 => ?_)
    refine is_A (fun h1 => ?_)
    refine is_B (V := id1) (is_St (ti_mul rfl tl_20 h1) tl_1) (fun _ => ?_)
    refine is_B (V := id1) ?_ (fun s7 => ?_)
    ·
      refine is_W (V := Int32.toInt) (W := id1) (fun s8 => ?_) tl_0
      refine is_if (ti_le rfl rfl) ?_ ?_
      ·
        exact is_P (pinr rfl)
      ·
        refine is_B (V := id1) (is_Lr (ti_and rfl tl_1)) (fun r9 => ?_)
        refine is_A (fun h2 => ?_)
        refine is_B (V := id1) (is_Lr (ti_and (ti_add rfl tl_1 h2) tl_1)) (fun r10 => ?_)
        refine is_B (V := id1) (is_Walker_fillRow tl_0) (fun _ => ?_)
        refine is_A (fun h3 => ?_)
        refine is_B (V := Int32.toInt) (is_P (ti_mul rfl tl_20 h3)) (fun x11 => ?_)
        refine is_B (V := id1) ?_ (fun s12 => ?_)
        ·
          refine is_W (V := Int32.toInt) (W := id1) (fun s13 => ?_) rfl
          refine is_A (fun h4 => ?_)
          refine is_A (fun h5 => ?_)
          refine is_if (ti_le (ti_mul (ti_add rfl tl_1 h4) tl_20 h5) rfl) ?_ ?_
          ·
            exact is_P (pinr rfl)
          ·
            refine is_if (ti_le (tl_len _) rfl) ?_ ?_
            ·
              exact is_P (pinr rfl)
            ·
              refine is_B (V := Int32.toInt) (is_Ld rfl) (fun x14 => ?_)
              refine is_B (V := id1) ?_ (fun s15 => ?_)
              ·
                refine is_if (ti_le rfl tl_0) ?_ ?_
                ·
                  exact is_P rfl
                ·
                  refine is_B (V := Int32.toInt) (is_Ld rfl) (fun x16 => ?_)
                  refine is_B (V := id1) (is_Walker_stepWays rfl rfl rfl rfl) (fun _ => ?_)
                  exact is_P rfl
              refine is_A (fun h6 => ?_)
              refine is_B (V := Int32.toInt) (is_P (ti_add rfl tl_1 h6)) (fun x17 => ?_)
              exact is_P (pinl rfl)
        refine is_A (fun h7 => ?_)
        refine is_B (V := Int32.toInt) (is_P (ti_add rfl tl_1 h7)) (fun x18 => ?_)
        exact is_P (pinl rfl)
    refine is_B (V := id1) (is_Lr (ti_and rfl tl_1)) (fun r19 => ?_)
    refine is_A (fun h8 => ?_)
    refine is_B (V := Int32.toInt) (is_Ld (ti_mul rfl tl_20 h8)) (fun x20 => ?_)
    exact is_P rfl
  ·
    exact is_P tl_0
noncomputable def iz_Top_feed (this : Nat) (p1 : Int) (p2 : Int) (p3 : Int) (p4 : Int) (p5 : Int) : iM Int :=
  iB (iGt (qm_rf this 1) 1) fun x1 =>
  iA (x1 + 20) fun y1 =>
  if y1 ≤ 400 then
    iB (iz_Tape_append (qm_rf this 1) p1) fun _ =>
    iB (iz_Tape_append (qm_rf this 1) p2) fun _ =>
    iB (iz_Tape_append (qm_rf this 1) p3) fun _ =>
    iB (iz_Tape_append (qm_rf this 1) p4) fun _ =>
    iB (iz_Tape_append (qm_rf this 1) p5) fun _ =>
    iB (iGt (qm_rf this 1) 1) fun x2 =>
    iP x2
  else
    iP (-1)
set_option maxRecDepth 20000 in
set_option maxHeartbeats 2000000 in
theorem is_Top_feed {this : Nat} {p1 : Int32} {p1' : Int} {p2 : Int32} {p2' : Int} {p3 : Int32} {p3' : Int} {p4 : Int32} {p4' : Int} {p5 : Int32} {p5' : Int} (qp1 : p1.toInt = p1') (qp2 : p2.toInt = p2') (qp3 : p3.toInt = p3') (qp4 : p4.toInt = p4') (qp5 : p5.toInt = p5') : iS (jf_Top_feed this p1 p2 p3 p4 p5) (iz_Top_feed this p1' p2' p3' p4' p5') Int32.toInt := by
  subst qp1 qp2 qp3 qp4 qp5
  unfold jf_Top_feed iz_Top_feed
  refine is_B (V := Int32.toInt) (is_Gt rfl) (fun x1 => ?_)
  refine is_A (fun h1 => ?_)
  refine is_if (ti_le (ti_add rfl tl_20 h1) tl_400) ?_ ?_
  ·
    refine is_B (V := id1) (is_Tape_append rfl) (fun _ => ?_)
    refine is_B (V := id1) (is_Tape_append rfl) (fun _ => ?_)
    refine is_B (V := id1) (is_Tape_append rfl) (fun _ => ?_)
    refine is_B (V := id1) (is_Tape_append rfl) (fun _ => ?_)
    refine is_B (V := id1) (is_Tape_append rfl) (fun _ => ?_)
    refine is_B (V := Int32.toInt) (is_Gt rfl) (fun x2 => ?_)
    exact is_P rfl
  ·
    exact is_P tl_m1
noncomputable def iz_Top_end (this : Nat) (p1 : Int) : iM Int :=
  if p1 < 0 then
    iP (-1)
  else
    iB (iGt (qm_rf this 1) 1) fun x1 =>
    if p1 ≤ x1 then
      iB (iPt (qm_rf this 1) 1 p1) fun _ =>
      iP p1
    else
      iP (-1)
set_option maxRecDepth 20000 in
set_option maxHeartbeats 2000000 in
theorem is_Top_end {this : Nat} {p1 : Int32} {p1' : Int} (qp1 : p1.toInt = p1') : iS (jf_Top_end this p1) (iz_Top_end this p1') Int32.toInt := by
  subst qp1
  unfold jf_Top_end iz_Top_end
  refine is_if (ti_lt rfl tl_0) ?_ ?_
  ·
    exact is_P tl_m1
  ·
    refine is_B (V := Int32.toInt) (is_Gt rfl) (fun x1 => ?_)
    refine is_if (ti_le rfl rfl) ?_ ?_
    ·
      refine is_B (V := id1) (is_Pt rfl rfl) (fun _ => ?_)
      exact is_P rfl
    ·
      exact is_P tl_m1
noncomputable def iz_Top_changed (this : Nat) : iM Unit :=
  iB (iPz this 9 0) fun _ =>
  iB (iPz this 10 0) fun _ =>
  iP ()
set_option maxRecDepth 20000 in
set_option maxHeartbeats 2000000 in
theorem is_Top_changed {this : Nat} : iS (jf_Top_changed this) (iz_Top_changed this) id1 := by
  unfold jf_Top_changed iz_Top_changed
  refine is_B (V := id1) (is_Pz rfl tl_0) (fun _ => ?_)
  refine is_B (V := id1) (is_Pz rfl tl_0) (fun _ => ?_)
  exact is_P rfl
noncomputable def iz_Top_beginAct (this : Nat) : iM Unit :=
  iB (iz_Past_push (qm_rf this 3) (qm_rf this 0)) fun _ =>
  iB (iz_Top_changed this) fun _ =>
  iP ()
set_option maxRecDepth 20000 in
set_option maxHeartbeats 2000000 in
theorem is_Top_beginAct {this : Nat} : iS (jf_Top_beginAct this) (iz_Top_beginAct this) id1 := by
  unfold jf_Top_beginAct iz_Top_beginAct
  refine is_B (V := id1) (is_Past_push) (fun _ => ?_)
  refine is_B (V := id1) (is_Top_changed) (fun _ => ?_)
  exact is_P rfl
noncomputable def iz_Top_set (this : Nat) (p1 : Int) (p2 : Int) : iM Int :=
  iB (iz_Run_takes p1 p2) fun x1 =>
  if ¬ x1 = 0 then
    iB (iz_Run_setting (qm_rf this 0) p1) fun x2 =>
    if ¬ x2 = p2 then
      iB (iz_Top_beginAct this) fun _ =>
      iB (iz_Run_put (qm_rf this 0) p1 p2) fun _ =>
      iP x2
    else
      iP (-2)
  else
    iP (-1)
set_option maxRecDepth 20000 in
set_option maxHeartbeats 2000000 in
theorem is_Top_set {this : Nat} {p1 : Int32} {p1' : Int} {p2 : Int32} {p2' : Int} (qp1 : p1.toInt = p1') (qp2 : p2.toInt = p2') : iS (jf_Top_set this p1 p2) (iz_Top_set this p1' p2') Int32.toInt := by
  subst qp1 qp2
  unfold jf_Top_set iz_Top_set
  refine is_B (V := Int32.toInt) (is_Run_takes rfl rfl) (fun x1 => ?_)
  refine is_if (ti_not (ti_eq rfl tl_0)) ?_ ?_
  ·
    refine is_B (V := Int32.toInt) (is_Run_setting rfl) (fun x2 => ?_)
    refine is_if (ti_not (ti_eq rfl rfl)) ?_ ?_
    ·
      refine is_B (V := id1) (is_Top_beginAct) (fun _ => ?_)
      refine is_B (V := id1) (is_Run_put rfl rfl) (fun _ => ?_)
      exact is_P rfl
    ·
      exact is_P tl_m2
  ·
    exact is_P tl_m1
noncomputable def iz_Top_tie (this : Nat) (p1 : Int) (p2 : Int) : iM Int :=
  iB (iz_Run_hasPieces (qm_rf this 0) p1) fun x1 =>
  if ¬ x1 = 0 then
    iB (α := Int) (
      if p2 = 0 then
        iP 0
      else
        iP 1) fun s2 =>
    iB (iz_Run_cell (qm_rf this 0) p1 4) fun x3 =>
    if ¬ x3 = s2 then
      iB (iz_Top_beginAct this) fun _ =>
      iB (iz_Run_putCell (qm_rf this 0) p1 4 s2) fun _ =>
      iP 1
    else
      iP (-2)
  else
    iP (-1)
set_option maxRecDepth 20000 in
set_option maxHeartbeats 2000000 in
theorem is_Top_tie {this : Nat} {p1 : Int32} {p1' : Int} {p2 : Int32} {p2' : Int} (qp1 : p1.toInt = p1') (qp2 : p2.toInt = p2') : iS (jf_Top_tie this p1 p2) (iz_Top_tie this p1' p2') Int32.toInt := by
  subst qp1 qp2
  unfold jf_Top_tie iz_Top_tie
  refine is_B (V := Int32.toInt) (is_Run_hasPieces rfl) (fun x1 => ?_)
  refine is_if (ti_not (ti_eq rfl tl_0)) ?_ ?_
  ·
    refine is_B (V := Int32.toInt) ?_ (fun s2 => ?_)
    ·
      refine is_if (ti_eq rfl tl_0) ?_ ?_
      ·
        exact is_P tl_0
      ·
        exact is_P tl_1
    refine is_B (V := Int32.toInt) (is_Run_cell rfl tl_4) (fun x3 => ?_)
    refine is_if (ti_not (ti_eq rfl rfl)) ?_ ?_
    ·
      refine is_B (V := id1) (is_Top_beginAct) (fun _ => ?_)
      refine is_B (V := id1) (is_Run_putCell rfl tl_4 rfl) (fun _ => ?_)
      exact is_P tl_1
    ·
      exact is_P tl_m2
  ·
    exact is_P tl_m1
noncomputable def iz_Top_space (this : Nat) (p1 : Int) (p2 : Int) : iM Int :=
  iB (iz_Run_hasPieces (qm_rf this 0) p1) fun x1 =>
  if x1 = 0 then
    iP (-1)
  else
    if p2 < 0 then
      iP (-1)
    else
      if p2 ≤ 30 then
        iB (iz_Run_cell (qm_rf this 0) p1 6) fun x2 =>
        if ¬ x2 = p2 then
          iB (iz_Top_beginAct this) fun _ =>
          iB (iz_Run_putCell (qm_rf this 0) p1 6 p2) fun _ =>
          iP x2
        else
          iP (-2)
      else
        iP (-1)
set_option maxRecDepth 20000 in
set_option maxHeartbeats 2000000 in
theorem is_Top_space {this : Nat} {p1 : Int32} {p1' : Int} {p2 : Int32} {p2' : Int} (qp1 : p1.toInt = p1') (qp2 : p2.toInt = p2') : iS (jf_Top_space this p1 p2) (iz_Top_space this p1' p2') Int32.toInt := by
  subst qp1 qp2
  unfold jf_Top_space iz_Top_space
  refine is_B (V := Int32.toInt) (is_Run_hasPieces rfl) (fun x1 => ?_)
  refine is_if (ti_eq rfl tl_0) ?_ ?_
  ·
    exact is_P tl_m1
  ·
    refine is_if (ti_lt rfl tl_0) ?_ ?_
    ·
      exact is_P tl_m1
    ·
      refine is_if (ti_le rfl tl_30) ?_ ?_
      ·
        refine is_B (V := Int32.toInt) (is_Run_cell rfl tl_6) (fun x2 => ?_)
        refine is_if (ti_not (ti_eq rfl rfl)) ?_ ?_
        ·
          refine is_B (V := id1) (is_Top_beginAct) (fun _ => ?_)
          refine is_B (V := id1) (is_Run_putCell rfl tl_6 rfl) (fun _ => ?_)
          exact is_P rfl
        ·
          exact is_P tl_m2
      ·
        exact is_P tl_m1
noncomputable def iz_Top_swap (this : Nat) (p1 : Int) (p2 : Int) : iM Int :=
  iB (iz_Run_has (qm_rf this 0) p1) fun x1 =>
  if x1 = 0 then
    iP (-1)
  else
    iB (iz_Run_has (qm_rf this 0) p2) fun x2 =>
    if x2 = 0 then
      iP (-1)
    else
      if ¬ p1 = p2 then
        iB (iz_Top_beginAct this) fun _ =>
        iB (iz_Run_exchange (qm_rf this 0) p1 p2) fun _ =>
        iP 1
      else
        iP (-1)
set_option maxRecDepth 20000 in
set_option maxHeartbeats 2000000 in
theorem is_Top_swap {this : Nat} {p1 : Int32} {p1' : Int} {p2 : Int32} {p2' : Int} (qp1 : p1.toInt = p1') (qp2 : p2.toInt = p2') : iS (jf_Top_swap this p1 p2) (iz_Top_swap this p1' p2') Int32.toInt := by
  subst qp1 qp2
  unfold jf_Top_swap iz_Top_swap
  refine is_B (V := Int32.toInt) (is_Run_has rfl) (fun x1 => ?_)
  refine is_if (ti_eq rfl tl_0) ?_ ?_
  ·
    exact is_P tl_m1
  ·
    refine is_B (V := Int32.toInt) (is_Run_has rfl) (fun x2 => ?_)
    refine is_if (ti_eq rfl tl_0) ?_ ?_
    ·
      exact is_P tl_m1
    ·
      refine is_if (ti_not (ti_eq rfl rfl)) ?_ ?_
      ·
        refine is_B (V := id1) (is_Top_beginAct) (fun _ => ?_)
        refine is_B (V := id1) (is_Run_exchange rfl rfl) (fun _ => ?_)
        exact is_P tl_1
      ·
        exact is_P tl_m1
noncomputable def iz_Top_again (this : Nat) (p1 : Int) : iM Int :=
  iB (iz_Run_has (qm_rf this 0) p1) fun x1 =>
  if ¬ x1 = 0 then
    iB (iGt (qm_rf this 0) 0) fun x2 =>
    if 16 ≤ x2 then
      iP (-2)
    else
      iB (iz_Run_allPieces (qm_rf this 0)) fun x3 =>
      iB (iz_Run_cell (qm_rf this 0) p1 1) fun x4 =>
      iA (x3 + x4) fun y1 =>
      if y1 ≤ 90 then
        iB (iz_Top_beginAct this) fun _ =>
        iB (iz_Run_repeat (qm_rf this 0) p1) fun _ =>
        iB (iGt (qm_rf this 0) 0) fun x5 =>
        iP x5
      else
        iP (-2)
  else
    iP (-1)
set_option maxRecDepth 20000 in
set_option maxHeartbeats 2000000 in
theorem is_Top_again {this : Nat} {p1 : Int32} {p1' : Int} (qp1 : p1.toInt = p1') : iS (jf_Top_again this p1) (iz_Top_again this p1') Int32.toInt := by
  subst qp1
  unfold jf_Top_again iz_Top_again
  refine is_B (V := Int32.toInt) (is_Run_has rfl) (fun x1 => ?_)
  refine is_if (ti_not (ti_eq rfl tl_0)) ?_ ?_
  ·
    refine is_B (V := Int32.toInt) (is_Gt rfl) (fun x2 => ?_)
    refine is_if (ti_le tl_16 rfl) ?_ ?_
    ·
      exact is_P tl_m2
    ·
      refine is_B (V := Int32.toInt) (is_Run_allPieces) (fun x3 => ?_)
      refine is_B (V := Int32.toInt) (is_Run_cell rfl tl_1) (fun x4 => ?_)
      refine is_A (fun h1 => ?_)
      refine is_if (ti_le (ti_add rfl rfl h1) tl_90) ?_ ?_
      ·
        refine is_B (V := id1) (is_Top_beginAct) (fun _ => ?_)
        refine is_B (V := id1) (is_Run_repeat rfl) (fun _ => ?_)
        refine is_B (V := Int32.toInt) (is_Gt rfl) (fun x5 => ?_)
        exact is_P rfl
      ·
        exact is_P tl_m2
  ·
    exact is_P tl_m1
noncomputable def iz_Top_drop (this : Nat) (p1 : Int) : iM Int :=
  iB (iz_Run_has (qm_rf this 0) p1) fun x1 =>
  if ¬ x1 = 0 then
    iB (iz_Top_beginAct this) fun _ =>
    iB (iz_Run_remove (qm_rf this 0) p1) fun _ =>
    iB (iGt (qm_rf this 0) 0) fun x2 =>
    iP x2
  else
    iP (-1)
set_option maxRecDepth 20000 in
set_option maxHeartbeats 2000000 in
theorem is_Top_drop {this : Nat} {p1 : Int32} {p1' : Int} (qp1 : p1.toInt = p1') : iS (jf_Top_drop this p1) (iz_Top_drop this p1') Int32.toInt := by
  subst qp1
  unfold jf_Top_drop iz_Top_drop
  refine is_B (V := Int32.toInt) (is_Run_has rfl) (fun x1 => ?_)
  refine is_if (ti_not (ti_eq rfl tl_0)) ?_ ?_
  ·
    refine is_B (V := id1) (is_Top_beginAct) (fun _ => ?_)
    refine is_B (V := id1) (is_Run_remove rfl) (fun _ => ?_)
    refine is_B (V := Int32.toInt) (is_Gt rfl) (fun x2 => ?_)
    exact is_P rfl
  ·
    exact is_P tl_m1
noncomputable def iz_Top_undo (this : Nat) : iM Int :=
  iB (iGt (qm_rf this 3) 2) fun x1 =>
  if ¬ x1 = 0 then
    iB (iz_Past_pop (qm_rf this 3) (qm_rf this 0)) fun _ =>
    iB (iz_Top_changed this) fun _ =>
    iB (iGt (qm_rf this 3) 2) fun x2 =>
    iP x2
  else
    iP (-1)
set_option maxRecDepth 20000 in
set_option maxHeartbeats 2000000 in
theorem is_Top_undo {this : Nat} : iS (jf_Top_undo this) (iz_Top_undo this) Int32.toInt := by
  unfold jf_Top_undo iz_Top_undo
  refine is_B (V := Int32.toInt) (is_Gt rfl) (fun x1 => ?_)
  refine is_if (ti_not (ti_eq rfl tl_0)) ?_ ?_
  ·
    refine is_B (V := id1) (is_Past_pop) (fun _ => ?_)
    refine is_B (V := id1) (is_Top_changed) (fun _ => ?_)
    refine is_B (V := Int32.toInt) (is_Gt rfl) (fun x2 => ?_)
    exact is_P rfl
  ·
    exact is_P tl_m1
noncomputable def iz_Top_keep (this : Nat) (p1 : Int) : iM Int :=
  if p1 < 0 then
    iP (-1)
  else
    if p1 < (iLen (qm_rf this 4)) then
      iB (iLr (qm_rf this 4) p1) fun r1 =>
      iB (iz_Run_copyFrom r1 (qm_rf this 0)) fun _ =>
      iB (iGt this 5) fun x2 =>
      iB (iPt this 5 (ibOr x2 (ibShl 1 (ibAnd p1 31)))) fun _ =>
      iB (iGt (qm_rf this 0) 0) fun x3 =>
      iP x3
    else
      iP (-1)
set_option maxRecDepth 20000 in
set_option maxHeartbeats 2000000 in
theorem is_Top_keep {this : Nat} {p1 : Int32} {p1' : Int} (qp1 : p1.toInt = p1') : iS (jf_Top_keep this p1) (iz_Top_keep this p1') Int32.toInt := by
  subst qp1
  unfold jf_Top_keep iz_Top_keep
  refine is_if (ti_lt rfl tl_0) ?_ ?_
  ·
    exact is_P tl_m1
  ·
    refine is_if (ti_lt rfl (tl_len _)) ?_ ?_
    ·
      refine is_B (V := id1) (is_Lr rfl) (fun r1 => ?_)
      refine is_B (V := id1) (is_Run_copyFrom) (fun _ => ?_)
      refine is_B (V := Int32.toInt) (is_Gt rfl) (fun x2 => ?_)
      refine is_B (V := id1) (is_Pt rfl (ti_or rfl (ti_shl tl_1 (ti_and rfl tl_31)))) (fun _ => ?_)
      refine is_B (V := Int32.toInt) (is_Gt rfl) (fun x3 => ?_)
      exact is_P rfl
    ·
      exact is_P tl_m1
noncomputable def iz_Top_back (this : Nat) (p1 : Int) : iM Int :=
  if p1 < 0 then
    iP (-1)
  else
    if p1 < (iLen (qm_rf this 4)) then
      iB (iGt this 5) fun x1 =>
      if ¬ (ibAnd (ibShr x1 (ibAnd p1 31)) 1) = 0 then
        iB (iLr (qm_rf this 4) p1) fun r2 =>
        iB (iz_Run_copyFrom (qm_rf this 0) r2) fun _ =>
        iB (iPt (qm_rf this 3) 2 0) fun _ =>
        iB (iz_Top_changed this) fun _ =>
        iB (iGt (qm_rf this 0) 0) fun x3 =>
        iP x3
      else
        iP (-2)
    else
      iP (-1)
set_option maxRecDepth 20000 in
set_option maxHeartbeats 2000000 in
theorem is_Top_back {this : Nat} {p1 : Int32} {p1' : Int} (qp1 : p1.toInt = p1') : iS (jf_Top_back this p1) (iz_Top_back this p1') Int32.toInt := by
  subst qp1
  unfold jf_Top_back iz_Top_back
  refine is_if (ti_lt rfl tl_0) ?_ ?_
  ·
    exact is_P tl_m1
  ·
    refine is_if (ti_lt rfl (tl_len _)) ?_ ?_
    ·
      refine is_B (V := Int32.toInt) (is_Gt rfl) (fun x1 => ?_)
      refine is_if (ti_not (ti_eq (ti_and (ti_shr rfl (ti_and rfl tl_31)) tl_1) tl_0)) ?_ ?_
      ·
        refine is_B (V := id1) (is_Lr rfl) (fun r2 => ?_)
        refine is_B (V := id1) (is_Run_copyFrom) (fun _ => ?_)
        refine is_B (V := id1) (is_Pt rfl tl_0) (fun _ => ?_)
        refine is_B (V := id1) (is_Top_changed) (fun _ => ?_)
        refine is_B (V := Int32.toInt) (is_Gt rfl) (fun x3 => ?_)
        exact is_P rfl
      ·
        exact is_P tl_m2
    ·
      exact is_P tl_m1
noncomputable def iz_Top_laidOut (this : Nat) : iM Nat :=
  iB (iGt this 9) fun x1 =>
  if ¬ x1 = 0 then
    iP (qm_rf this 6)
  else
    iB (iz_Press_lay (qm_rf this 6)) fun _ =>
    iB (iPz this 9 1) fun _ =>
    iP (qm_rf this 6)
set_option maxRecDepth 20000 in
set_option maxHeartbeats 2000000 in
theorem is_Top_laidOut {this : Nat} : iS (jf_Top_laidOut this) (iz_Top_laidOut this) id1 := by
  unfold jf_Top_laidOut iz_Top_laidOut
  refine is_B (V := Int32.toInt) (is_Gt rfl) (fun x1 => ?_)
  refine is_if (ti_not (ti_eq rfl tl_0)) ?_ ?_
  ·
    exact is_P rfl
  ·
    refine is_B (V := id1) (is_Press_lay) (fun _ => ?_)
    refine is_B (V := id1) (is_Pz rfl tl_1) (fun _ => ?_)
    exact is_P rfl
noncomputable def iz_Top_block (this : Nat) (p1 : Int) (p2 : Int) : iM Int :=
  iB (iz_Run_has (qm_rf this 0) p1) fun x1 =>
  if ¬ x1 = 0 then
    if p2 = 0 then
      iB (iz_Run_cell (qm_rf this 0) p1 0) fun x2 =>
      iP x2
    else
      if p2 = 1 then
        iB (iz_Run_cell (qm_rf this 0) p1 1) fun x3 =>
        iP x3
      else
        if p2 = 2 then
          iB (iK 13 (iz_Top_laidOut this)) fun r4 =>
          iB (iz_Top_at (qm_rf (qm_rf r4 1) 4) p1) fun x5 =>
          iP x5
        else
          if p2 = 3 then
            iB (iz_Run_cell (qm_rf this 0) p1 2) fun x6 =>
            iP x6
          else
            if p2 = 4 then
              iB (iz_Run_cell (qm_rf this 0) p1 3) fun x7 =>
              iP x7
            else
              if p2 = 5 then
                iB (iz_Run_cell (qm_rf this 0) p1 4) fun x8 =>
                iP x8
              else
                if p2 = 6 then
                  iB (iz_Run_cell (qm_rf this 0) p1 5) fun x9 =>
                  iP x9
                else
                  if p2 = 7 then
                    iB (iz_Run_cell (qm_rf this 0) p1 6) fun x10 =>
                    iP x10
                  else
                    if p2 = 8 then
                      iB (iz_Run_cell (qm_rf this 0) p1 7) fun x11 =>
                      iP x11
                    else
                      iP (-1)
  else
    iP (-1)
set_option maxRecDepth 20000 in
set_option maxHeartbeats 2000000 in
theorem is_Top_block {this : Nat} {p1 : Int32} {p1' : Int} {p2 : Int32} {p2' : Int} (qp1 : p1.toInt = p1') (qp2 : p2.toInt = p2') : iS (jf_Top_block this p1 p2) (iz_Top_block this p1' p2') Int32.toInt := by
  subst qp1 qp2
  unfold jf_Top_block iz_Top_block
  refine is_B (V := Int32.toInt) (is_Run_has rfl) (fun x1 => ?_)
  refine is_if (ti_not (ti_eq rfl tl_0)) ?_ ?_
  ·
    refine is_if (ti_eq rfl tl_0) ?_ ?_
    ·
      refine is_B (V := Int32.toInt) (is_Run_cell rfl tl_0) (fun x2 => ?_)
      exact is_P rfl
    ·
      refine is_if (ti_eq rfl tl_1) ?_ ?_
      ·
        refine is_B (V := Int32.toInt) (is_Run_cell rfl tl_1) (fun x3 => ?_)
        exact is_P rfl
      ·
        refine is_if (ti_eq rfl tl_2) ?_ ?_
        ·
          refine is_B (V := id1) (is_K (is_Top_laidOut)) (fun r4 => ?_)
          refine is_B (V := Int32.toInt) (is_Top_at rfl) (fun x5 => ?_)
          exact is_P rfl
        ·
          refine is_if (ti_eq rfl tl_3) ?_ ?_
          ·
            refine is_B (V := Int32.toInt) (is_Run_cell rfl tl_2) (fun x6 => ?_)
            exact is_P rfl
          ·
            refine is_if (ti_eq rfl tl_4) ?_ ?_
            ·
              refine is_B (V := Int32.toInt) (is_Run_cell rfl tl_3) (fun x7 => ?_)
              exact is_P rfl
            ·
              refine is_if (ti_eq rfl tl_5) ?_ ?_
              ·
                refine is_B (V := Int32.toInt) (is_Run_cell rfl tl_4) (fun x8 => ?_)
                exact is_P rfl
              ·
                refine is_if (ti_eq rfl tl_6) ?_ ?_
                ·
                  refine is_B (V := Int32.toInt) (is_Run_cell rfl tl_5) (fun x9 => ?_)
                  exact is_P rfl
                ·
                  refine is_if (ti_eq rfl tl_7) ?_ ?_
                  ·
                    refine is_B (V := Int32.toInt) (is_Run_cell rfl tl_6) (fun x10 => ?_)
                    exact is_P rfl
                  ·
                    refine is_if (ti_eq rfl tl_8) ?_ ?_
                    ·
                      refine is_B (V := Int32.toInt) (is_Run_cell rfl tl_7) (fun x11 => ?_)
                      exact is_P rfl
                    ·
                      exact is_P tl_m1
  ·
    exact is_P tl_m1
noncomputable def iz_Top_piece (this : Nat) (p1 : Int) (p2 : Int) : iM Int :=
  iB (iK 13 (iz_Top_laidOut this)) fun r1 =>
  if p1 < 0 then
    iP (-1)
  else
    iB (iGt (qm_rf r1 1) 0) fun x2 =>
    if p1 < x2 then
      if p2 = 0 then
        iB (iz_Top_at (qm_rf (qm_rf r1 1) 5) p1) fun x3 =>
        iP x3
      else
        if p2 = 1 then
          iB (iz_Top_at (qm_rf (qm_rf r1 1) 6) p1) fun x4 =>
          iP x4
        else
          if p2 = 2 then
            iB (iz_Top_at (qm_rf (qm_rf r1 1) 7) p1) fun x5 =>
            iP x5
          else
            if p2 = 3 then
              iB (iz_Top_at (qm_rf (qm_rf r1 1) 8) p1) fun x6 =>
              iP x6
            else
              if p2 = 4 then
                iB (iz_Top_at (qm_rf (qm_rf r1 1) 9) p1) fun x7 =>
                iP x7
              else
                if p2 = 5 then
                  iA (p1 + 1) fun y1 =>
                  iB (iz_Flow_mayEnd (qm_rf r1 1) y1) fun x8 =>
                  if x8 = 0 then
                    iP 0
                  else
                    iP 1
                else
                  if p2 = 6 then
                    iB (iz_Top_at (qm_rf (qm_rf r1 1) 10) p1) fun x9 =>
                    iP x9
                  else
                    iP (-1)
    else
      iP (-1)
set_option maxRecDepth 20000 in
set_option maxHeartbeats 2000000 in
theorem is_Top_piece {this : Nat} {p1 : Int32} {p1' : Int} {p2 : Int32} {p2' : Int} (qp1 : p1.toInt = p1') (qp2 : p2.toInt = p2') : iS (jf_Top_piece this p1 p2) (iz_Top_piece this p1' p2') Int32.toInt := by
  subst qp1 qp2
  unfold jf_Top_piece iz_Top_piece
  refine is_B (V := id1) (is_K (is_Top_laidOut)) (fun r1 => ?_)
  refine is_if (ti_lt rfl tl_0) ?_ ?_
  ·
    exact is_P tl_m1
  ·
    refine is_B (V := Int32.toInt) (is_Gt rfl) (fun x2 => ?_)
    refine is_if (ti_lt rfl rfl) ?_ ?_
    ·
      refine is_if (ti_eq rfl tl_0) ?_ ?_
      ·
        refine is_B (V := Int32.toInt) (is_Top_at rfl) (fun x3 => ?_)
        exact is_P rfl
      ·
        refine is_if (ti_eq rfl tl_1) ?_ ?_
        ·
          refine is_B (V := Int32.toInt) (is_Top_at rfl) (fun x4 => ?_)
          exact is_P rfl
        ·
          refine is_if (ti_eq rfl tl_2) ?_ ?_
          ·
            refine is_B (V := Int32.toInt) (is_Top_at rfl) (fun x5 => ?_)
            exact is_P rfl
          ·
            refine is_if (ti_eq rfl tl_3) ?_ ?_
            ·
              refine is_B (V := Int32.toInt) (is_Top_at rfl) (fun x6 => ?_)
              exact is_P rfl
            ·
              refine is_if (ti_eq rfl tl_4) ?_ ?_
              ·
                refine is_B (V := Int32.toInt) (is_Top_at rfl) (fun x7 => ?_)
                exact is_P rfl
              ·
                refine is_if (ti_eq rfl tl_5) ?_ ?_
                ·
                  refine is_A (fun h1 => ?_)
                  refine is_B (V := Int32.toInt) (is_Flow_mayEnd (ti_add rfl tl_1 h1)) (fun x8 => ?_)
                  refine is_if (ti_eq rfl tl_0) ?_ ?_
                  ·
                    exact is_P tl_0
                  ·
                    exact is_P tl_1
                ·
                  refine is_if (ti_eq rfl tl_6) ?_ ?_
                  ·
                    refine is_B (V := Int32.toInt) (is_Top_at rfl) (fun x9 => ?_)
                    exact is_P rfl
                  ·
                    exact is_P tl_m1
    ·
      exact is_P tl_m1
noncomputable def iz_Top_section (this : Nat) (p1 : Int) (p2 : Int) : iM Int :=
  iB (iK 13 (iz_Top_laidOut this)) fun r1 =>
  if p1 < 0 then
    iP (-1)
  else
    iB (iGt (qm_rf r1 1) 1) fun x2 =>
    if p1 < x2 then
      iB (iz_Top_at (qm_rf (qm_rf r1 1) 16) p1) fun x3 =>
      iB (iz_Top_at (qm_rf (qm_rf r1 1) 17) p1) fun x4 =>
      if p2 = 0 then
        iP x3
      else
        if p2 = 1 then
          iP x4
        else
          if p2 = 2 then
            iB (iz_Top_at (qm_rf (qm_rf r1 1) 18) p1) fun x5 =>
            iP x5
          else
            if p2 = 3 then
              iB (iz_Flow_endsIn (qm_rf r1 1) x3 x4) fun x6 =>
              iP x6
            else
              if p2 = 4 then
                iB (iz_Flow_ownLines (qm_rf r1 1) x3 x4) fun x7 =>
                iP x7
              else
                iP (-1)
    else
      iP (-1)
set_option maxRecDepth 20000 in
set_option maxHeartbeats 2000000 in
theorem is_Top_section {this : Nat} {p1 : Int32} {p1' : Int} {p2 : Int32} {p2' : Int} (qp1 : p1.toInt = p1') (qp2 : p2.toInt = p2') : iS (jf_Top_section this p1 p2) (iz_Top_section this p1' p2') Int32.toInt := by
  subst qp1 qp2
  unfold jf_Top_section iz_Top_section
  refine is_B (V := id1) (is_K (is_Top_laidOut)) (fun r1 => ?_)
  refine is_if (ti_lt rfl tl_0) ?_ ?_
  ·
    exact is_P tl_m1
  ·
    refine is_B (V := Int32.toInt) (is_Gt rfl) (fun x2 => ?_)
    refine is_if (ti_lt rfl rfl) ?_ ?_
    ·
      refine is_B (V := Int32.toInt) (is_Top_at rfl) (fun x3 => ?_)
      refine is_B (V := Int32.toInt) (is_Top_at rfl) (fun x4 => ?_)
      refine is_if (ti_eq rfl tl_0) ?_ ?_
      ·
        exact is_P rfl
      ·
        refine is_if (ti_eq rfl tl_1) ?_ ?_
        ·
          exact is_P rfl
        ·
          refine is_if (ti_eq rfl tl_2) ?_ ?_
          ·
            refine is_B (V := Int32.toInt) (is_Top_at rfl) (fun x5 => ?_)
            exact is_P rfl
          ·
            refine is_if (ti_eq rfl tl_3) ?_ ?_
            ·
              refine is_B (V := Int32.toInt) (is_Flow_endsIn rfl rfl) (fun x6 => ?_)
              exact is_P rfl
            ·
              refine is_if (ti_eq rfl tl_4) ?_ ?_
              ·
                refine is_B (V := Int32.toInt) (is_Flow_ownLines rfl rfl) (fun x7 => ?_)
                exact is_P rfl
              ·
                exact is_P tl_m1
    ·
      exact is_P tl_m1
noncomputable def iz_Top_count (this : Nat) (p1 : Int) : iM Int :=
  iB (α := (Unit ⊕ Int)) (
    if p1 < 10 then
      iP (Sum.inl ())
    else
      if 18 ≤ p1 then
        iP (Sum.inl ())
      else
        iA (p1 - 10) fun y1 =>
        iB (iz_Run_setting (qm_rf this 0) y1) fun x2 =>
        iP (Sum.inr x2)) (Sum.elim (fun s1 =>
    if p1 = 0 then
      iB (iGt (qm_rf this 0) 0) fun x3 =>
      iP x3
    else
      if p1 = 1 then
        iB (iK 13 (iz_Top_laidOut this)) fun r4 =>
        iB (iGt (qm_rf r4 1) 0) fun x5 =>
        iP x5
      else
        if p1 = 2 then
          iB (iK 13 (iz_Top_laidOut this)) fun r6 =>
          iB (iGt (qm_rf r6 1) 1) fun x7 =>
          iP x7
        else
          if p1 = 3 then
            iB (iK 13 (iz_Top_laidOut this)) fun r8 =>
            iB (iGt (qm_rf r8 1) 2) fun x9 =>
            iP x9
          else
            if p1 = 4 then
              iB (iGt (qm_rf this 3) 2) fun x10 =>
              iP x10
            else
              if p1 = 5 then
                iB (iGt (qm_rf this 1) 1) fun x11 =>
                iP x11
              else
                if p1 = 6 then
                  iB (iGt this 5) fun x12 =>
                  iP x12
                else
                  if p1 = 7 then
                    iB (iK 13 (iz_Top_laidOut this)) fun r13 =>
                    iB (iz_Flow_spans (qm_rf r13 1)) fun x14 =>
                    iP x14
                  else
                    iP (-1)) iP)
set_option maxRecDepth 20000 in
set_option maxHeartbeats 2000000 in
theorem is_Top_count {this : Nat} {p1 : Int32} {p1' : Int} (qp1 : p1.toInt = p1') : iS (jf_Top_count this p1) (iz_Top_count this p1') Int32.toInt := by
  subst qp1
  unfold jf_Top_count iz_Top_count
  refine is_E (V := id1) ?_ (fun s1 => ?_)
  ·
    refine is_if (ti_lt rfl tl_10) ?_ ?_
    ·
      exact is_P (pinl rfl)
    ·
      refine is_if (ti_le tl_18 rfl) ?_ ?_
      ·
        exact is_P (pinl rfl)
      ·
        refine is_A (fun h1 => ?_)
        refine is_B (V := Int32.toInt) (is_Run_setting (ti_sub rfl tl_10 h1)) (fun x2 => ?_)
        exact is_P (pinr rfl)
  ·
    refine is_if (ti_eq rfl tl_0) ?_ ?_
    ·
      refine is_B (V := Int32.toInt) (is_Gt rfl) (fun x3 => ?_)
      exact is_P rfl
    ·
      refine is_if (ti_eq rfl tl_1) ?_ ?_
      ·
        refine is_B (V := id1) (is_K (is_Top_laidOut)) (fun r4 => ?_)
        refine is_B (V := Int32.toInt) (is_Gt rfl) (fun x5 => ?_)
        exact is_P rfl
      ·
        refine is_if (ti_eq rfl tl_2) ?_ ?_
        ·
          refine is_B (V := id1) (is_K (is_Top_laidOut)) (fun r6 => ?_)
          refine is_B (V := Int32.toInt) (is_Gt rfl) (fun x7 => ?_)
          exact is_P rfl
        ·
          refine is_if (ti_eq rfl tl_3) ?_ ?_
          ·
            refine is_B (V := id1) (is_K (is_Top_laidOut)) (fun r8 => ?_)
            refine is_B (V := Int32.toInt) (is_Gt rfl) (fun x9 => ?_)
            exact is_P rfl
          ·
            refine is_if (ti_eq rfl tl_4) ?_ ?_
            ·
              refine is_B (V := Int32.toInt) (is_Gt rfl) (fun x10 => ?_)
              exact is_P rfl
            ·
              refine is_if (ti_eq rfl tl_5) ?_ ?_
              ·
                refine is_B (V := Int32.toInt) (is_Gt rfl) (fun x11 => ?_)
                exact is_P rfl
              ·
                refine is_if (ti_eq rfl tl_6) ?_ ?_
                ·
                  refine is_B (V := Int32.toInt) (is_Gt rfl) (fun x12 => ?_)
                  exact is_P rfl
                ·
                  refine is_if (ti_eq rfl tl_7) ?_ ?_
                  ·
                    refine is_B (V := id1) (is_K (is_Top_laidOut)) (fun r13 => ?_)
                    refine is_B (V := Int32.toInt) (is_Flow_spans) (fun x14 => ?_)
                    exact is_P rfl
                  ·
                    exact is_P tl_m1
noncomputable def iz_Top_pouredNow (this : Nat) : iM Nat :=
  iB (iK 13 (iz_Top_laidOut this)) fun r1 =>
  iB (iGt this 10) fun x2 =>
  if ¬ x2 = 0 then
    iP r1
  else
    iB (iz_Press_pourAll r1) fun x3 =>
    iB (iPz this 10 1) fun _ =>
    iP r1
set_option maxRecDepth 20000 in
set_option maxHeartbeats 2000000 in
theorem is_Top_pouredNow {this : Nat} : iS (jf_Top_pouredNow this) (iz_Top_pouredNow this) id1 := by
  unfold jf_Top_pouredNow iz_Top_pouredNow
  refine is_B (V := id1) (is_K (is_Top_laidOut)) (fun r1 => ?_)
  refine is_B (V := Int32.toInt) (is_Gt rfl) (fun x2 => ?_)
  refine is_if (ti_not (ti_eq rfl tl_0)) ?_ ?_
  ·
    exact is_P rfl
  ·
    refine is_B (V := Int32.toInt) (is_Press_pourAll) (fun x3 => ?_)
    refine is_B (V := id1) (is_Pz rfl tl_1) (fun _ => ?_)
    exact is_P rfl
noncomputable def iz_Top_pour (this : Nat) : iM Int :=
  iB (iK 13 (iz_Top_pouredNow this)) fun r1 =>
  iB (iz_Press_answer r1) fun x2 =>
  iP x2
set_option maxRecDepth 20000 in
set_option maxHeartbeats 2000000 in
theorem is_Top_pour {this : Nat} : iS (jf_Top_pour this) (iz_Top_pour this) Int32.toInt := by
  unfold jf_Top_pour iz_Top_pour
  refine is_B (V := id1) (is_K (is_Top_pouredNow)) (fun r1 => ?_)
  refine is_B (V := Int32.toInt) (is_Press_answer) (fun x2 => ?_)
  exact is_P rfl
noncomputable def iz_Top_column (this : Nat) (p1 : Int) (p2 : Int) : iM Int :=
  iB (iK 13 (iz_Top_pouredNow this)) fun r1 =>
  iB (α := (Unit ⊕ Int)) (
    if ¬ p1 = (-1) then
      iP (Sum.inl ())
    else
      if ¬ p2 = 0 then
        iP (Sum.inl ())
      else
        iB (iGt r1 4) fun x3 =>
        iP (Sum.inr x3)) (Sum.elim (fun s2 =>
    if p1 < 0 then
      iP (-1)
    else
      iB (iGt r1 4) fun x4 =>
      if x4 ≤ p1 then
        iP (-1)
      else
        if p2 < 0 then
          iP (-1)
        else
          if p2 < 12 then
            iB (iz_Press_cell r1 p1 p2) fun x5 =>
            iP x5
          else
            iP (-1)) iP)
set_option maxRecDepth 20000 in
set_option maxHeartbeats 2000000 in
theorem is_Top_column {this : Nat} {p1 : Int32} {p1' : Int} {p2 : Int32} {p2' : Int} (qp1 : p1.toInt = p1') (qp2 : p2.toInt = p2') : iS (jf_Top_column this p1 p2) (iz_Top_column this p1' p2') Int32.toInt := by
  subst qp1 qp2
  unfold jf_Top_column iz_Top_column
  refine is_B (V := id1) (is_K (is_Top_pouredNow)) (fun r1 => ?_)
  refine is_E (V := id1) ?_ (fun s2 => ?_)
  ·
    refine is_if (ti_not (ti_eq rfl tl_m1)) ?_ ?_
    ·
      exact is_P (pinl rfl)
    ·
      refine is_if (ti_not (ti_eq rfl tl_0)) ?_ ?_
      ·
        exact is_P (pinl rfl)
      ·
        refine is_B (V := Int32.toInt) (is_Gt rfl) (fun x3 => ?_)
        exact is_P (pinr rfl)
  ·
    refine is_if (ti_lt rfl tl_0) ?_ ?_
    ·
      exact is_P tl_m1
    ·
      refine is_B (V := Int32.toInt) (is_Gt rfl) (fun x4 => ?_)
      refine is_if (ti_le rfl rfl) ?_ ?_
      ·
        exact is_P tl_m1
      ·
        refine is_if (ti_lt rfl tl_0) ?_ ?_
        ·
          exact is_P tl_m1
        ·
          refine is_if (ti_lt rfl tl_12) ?_ ?_
          ·
            refine is_B (V := Int32.toInt) (is_Press_cell rfl rfl) (fun x5 => ?_)
            exact is_P rfl
          ·
            exact is_P tl_m1
noncomputable def iz_Top_where (this : Nat) (p1 : Int) (p2 : Int) : iM Int :=
  iB (iK 13 (iz_Top_pouredNow this)) fun r1 =>
  if p1 < 0 then
    iP (-1)
  else
    iB (iGt (qm_rf r1 1) 0) fun x2 =>
    if x2 ≤ p1 then
      iP (-1)
    else
      if p2 < 0 then
        iP (-1)
      else
        if p2 ≤ 2 then
          iB (iz_Press_columnOf r1 p1) fun x3 =>
          if ¬ x3 = (-1) then
            if p2 = 0 then
              iB (iz_Press_cell r1 x3 0) fun x4 =>
              iP x4
            else
              if p2 = 1 then
                iP x3
              else
                iB (iz_Press_cell r1 x3 3) fun x5 =>
                iB (iz_Flow_above (qm_rf r1 1) x5 p1) fun x6 =>
                iP x6
          else
            iP (-2)
        else
          iP (-1)
set_option maxRecDepth 20000 in
set_option maxHeartbeats 2000000 in
theorem is_Top_where {this : Nat} {p1 : Int32} {p1' : Int} {p2 : Int32} {p2' : Int} (qp1 : p1.toInt = p1') (qp2 : p2.toInt = p2') : iS (jf_Top_where this p1 p2) (iz_Top_where this p1' p2') Int32.toInt := by
  subst qp1 qp2
  unfold jf_Top_where iz_Top_where
  refine is_B (V := id1) (is_K (is_Top_pouredNow)) (fun r1 => ?_)
  refine is_if (ti_lt rfl tl_0) ?_ ?_
  ·
    exact is_P tl_m1
  ·
    refine is_B (V := Int32.toInt) (is_Gt rfl) (fun x2 => ?_)
    refine is_if (ti_le rfl rfl) ?_ ?_
    ·
      exact is_P tl_m1
    ·
      refine is_if (ti_lt rfl tl_0) ?_ ?_
      ·
        exact is_P tl_m1
      ·
        refine is_if (ti_le rfl tl_2) ?_ ?_
        ·
          refine is_B (V := Int32.toInt) (is_Press_columnOf rfl) (fun x3 => ?_)
          refine is_if (ti_not (ti_eq rfl tl_m1)) ?_ ?_
          ·
            refine is_if (ti_eq rfl tl_0) ?_ ?_
            ·
              refine is_B (V := Int32.toInt) (is_Press_cell rfl tl_0) (fun x4 => ?_)
              exact is_P rfl
            ·
              refine is_if (ti_eq rfl tl_1) ?_ ?_
              ·
                exact is_P rfl
              ·
                refine is_B (V := Int32.toInt) (is_Press_cell rfl tl_3) (fun x5 => ?_)
                refine is_B (V := Int32.toInt) (is_Flow_above rfl rfl) (fun x6 => ?_)
                exact is_P rfl
          ·
            exact is_P tl_m2
        ·
          exact is_P tl_m1
noncomputable def iz_Top_note (this : Nat) (p1 : Int) (p2 : Int) : iM Int :=
  iB (iK 13 (iz_Top_pouredNow this)) fun r1 =>
  iB (α := (Unit ⊕ Int)) (
    if ¬ p1 = (-1) then
      iP (Sum.inl ())
    else
      if ¬ p2 = 0 then
        iP (Sum.inl ())
      else
        iB (iGt (qm_rf r1 1) 2) fun x3 =>
        iP (Sum.inr x3)) (Sum.elim (fun s2 =>
    if p1 < 0 then
      iP (-1)
    else
      iB (iGt (qm_rf r1 1) 2) fun x4 =>
      if x4 ≤ p1 then
        iP (-1)
      else
        if p2 < 0 then
          iP (-1)
        else
          if p2 ≤ 3 then
            iB (iz_Top_at (qm_rf (qm_rf r1 1) 19) p1) fun x5 =>
            if p2 = 0 then
              iP x5
            else
              if p2 = 1 then
                iB (iz_Top_at (qm_rf (qm_rf r1 1) 9) x5) fun x6 =>
                iP x6
              else
                if p2 = 2 then
                  iB (iz_Press_linesByMark r1 x5) fun x7 =>
                  iP x7
                else
                  iB (iz_Press_columnsOfNote r1 x5) fun x8 =>
                  iP x8
          else
            iP (-1)) iP)
set_option maxRecDepth 20000 in
set_option maxHeartbeats 2000000 in
theorem is_Top_note {this : Nat} {p1 : Int32} {p1' : Int} {p2 : Int32} {p2' : Int} (qp1 : p1.toInt = p1') (qp2 : p2.toInt = p2') : iS (jf_Top_note this p1 p2) (iz_Top_note this p1' p2') Int32.toInt := by
  subst qp1 qp2
  unfold jf_Top_note iz_Top_note
  refine is_B (V := id1) (is_K (is_Top_pouredNow)) (fun r1 => ?_)
  refine is_E (V := id1) ?_ (fun s2 => ?_)
  ·
    refine is_if (ti_not (ti_eq rfl tl_m1)) ?_ ?_
    ·
      exact is_P (pinl rfl)
    ·
      refine is_if (ti_not (ti_eq rfl tl_0)) ?_ ?_
      ·
        exact is_P (pinl rfl)
      ·
        refine is_B (V := Int32.toInt) (is_Gt rfl) (fun x3 => ?_)
        exact is_P (pinr rfl)
  ·
    refine is_if (ti_lt rfl tl_0) ?_ ?_
    ·
      exact is_P tl_m1
    ·
      refine is_B (V := Int32.toInt) (is_Gt rfl) (fun x4 => ?_)
      refine is_if (ti_le rfl rfl) ?_ ?_
      ·
        exact is_P tl_m1
      ·
        refine is_if (ti_lt rfl tl_0) ?_ ?_
        ·
          exact is_P tl_m1
        ·
          refine is_if (ti_le rfl tl_3) ?_ ?_
          ·
            refine is_B (V := Int32.toInt) (is_Top_at rfl) (fun x5 => ?_)
            refine is_if (ti_eq rfl tl_0) ?_ ?_
            ·
              exact is_P rfl
            ·
              refine is_if (ti_eq rfl tl_1) ?_ ?_
              ·
                refine is_B (V := Int32.toInt) (is_Top_at rfl) (fun x6 => ?_)
                exact is_P rfl
              ·
                refine is_if (ti_eq rfl tl_2) ?_ ?_
                ·
                  refine is_B (V := Int32.toInt) (is_Press_linesByMark rfl) (fun x7 => ?_)
                  exact is_P rfl
                ·
                  refine is_B (V := Int32.toInt) (is_Press_columnsOfNote rfl) (fun x8 => ?_)
                  exact is_P rfl
          ·
            exact is_P tl_m1
noncomputable def iz_Top_span (this : Nat) (p1 : Int) (p2 : Int) : iM Int :=
  iB (iK 13 (iz_Top_pouredNow this)) fun r1 =>
  if p1 < 0 then
    iP (-1)
  else
    iB (iz_Flow_spans (qm_rf r1 1)) fun x2 =>
    if x2 ≤ p1 then
      iP (-1)
    else
      if p2 < 0 then
        iP (-1)
      else
        if p2 ≤ 1 then
          iB (iGt r1 10) fun x3 =>
          if p1 < x3 then
            if ¬ p2 = 0 then
              iB (iz_Top_at (qm_rf r1 12) p1) fun x4 =>
              iP x4
            else
              iB (iz_Top_at (qm_rf r1 11) p1) fun x5 =>
              iP x5
          else
            iP (-2)
        else
          iP (-1)
set_option maxRecDepth 20000 in
set_option maxHeartbeats 2000000 in
theorem is_Top_span {this : Nat} {p1 : Int32} {p1' : Int} {p2 : Int32} {p2' : Int} (qp1 : p1.toInt = p1') (qp2 : p2.toInt = p2') : iS (jf_Top_span this p1 p2) (iz_Top_span this p1' p2') Int32.toInt := by
  subst qp1 qp2
  unfold jf_Top_span iz_Top_span
  refine is_B (V := id1) (is_K (is_Top_pouredNow)) (fun r1 => ?_)
  refine is_if (ti_lt rfl tl_0) ?_ ?_
  ·
    exact is_P tl_m1
  ·
    refine is_B (V := Int32.toInt) (is_Flow_spans) (fun x2 => ?_)
    refine is_if (ti_le rfl rfl) ?_ ?_
    ·
      exact is_P tl_m1
    ·
      refine is_if (ti_lt rfl tl_0) ?_ ?_
      ·
        exact is_P tl_m1
      ·
        refine is_if (ti_le rfl tl_1) ?_ ?_
        ·
          refine is_B (V := Int32.toInt) (is_Gt rfl) (fun x3 => ?_)
          refine is_if (ti_lt rfl rfl) ?_ ?_
          ·
            refine is_if (ti_not (ti_eq rfl tl_0)) ?_ ?_
            ·
              refine is_B (V := Int32.toInt) (is_Top_at rfl) (fun x4 => ?_)
              exact is_P rfl
            ·
              refine is_B (V := Int32.toInt) (is_Top_at rfl) (fun x5 => ?_)
              exact is_P rfl
          ·
            exact is_P tl_m2
        ·
          exact is_P tl_m1
noncomputable def iz_Top_loose (this : Nat) (p1 : Int) : iM Int :=
  if p1 < 0 then
    iP (-1)
  else
    if p1 ≤ 2 then
      iB (iK 13 (iz_Top_pouredNow this)) fun r1 =>
      iB (iGt r1 9) fun x2 =>
      if x2 = (-1) then
        iB (α := (Int × (Int × Int))) (
          iW (S := (Int × (Int × (Int × Int)))) (α := (Int × (Int × Int))) (fun s4 =>
            iB (iGt r1 4) fun x5 =>
            if x5 ≤ s4.2.2.2 then
              iP (Sum.inr (s4.1, (s4.2.1, s4.2.2.1)))
            else
              iB (iz_Press_cell r1 s4.2.2.2 10) fun x6 =>
              iB (iz_Press_used r1 s4.2.2.2) fun x7 =>
              iA (x6 - x7) fun y1 =>
              iB (iP y1) fun x8 =>
              iA (s4.1 + x8) fun y2 =>
              iB (iP y2) fun x9 =>
              iB (α := (Int × Int)) (
                iB (α := (Unit ⊕ (Int × Int))) (
                  if s4.2.2.1 = (-2) then
                    iP (Sum.inl ())
                  else
                    if x8 ≤ s4.2.1 then
                      iP (Sum.inr (s4.2.1, s4.2.2.1))
                    else
                      iP (Sum.inl ())) (Sum.elim (fun s11 =>
                  iP (x8, s4.2.2.2)) iP)) fun s10 =>
              iA (s4.2.2.2 + 1) fun y3 =>
              iB (iP y3) fun x12 =>
              iP (Sum.inl (x9, (s10.1, (s10.2, x12))))) (0, (0, ((-2), 0)))) fun s3 =>
        if p1 = 0 then
          iP s3.1
        else
          if p1 = 1 then
            iP s3.2.1
          else
            iP s3.2.2
      else
        iB (iz_Press_answer r1) fun x13 =>
        iP x13
    else
      iP (-1)
set_option maxRecDepth 20000 in
set_option maxHeartbeats 2000000 in
theorem is_Top_loose {this : Nat} {p1 : Int32} {p1' : Int} (qp1 : p1.toInt = p1') : iS (jf_Top_loose this p1) (iz_Top_loose this p1') Int32.toInt := by
  subst qp1
  unfold jf_Top_loose iz_Top_loose
  refine is_if (ti_lt rfl tl_0) ?_ ?_
  ·
    exact is_P tl_m1
  ·
    refine is_if (ti_le rfl tl_2) ?_ ?_
    ·
      refine is_B (V := id1) (is_K (is_Top_pouredNow)) (fun r1 => ?_)
      refine is_B (V := Int32.toInt) (is_Gt rfl) (fun x2 => ?_)
      refine is_if (ti_eq rfl tl_m1) ?_ ?_
      ·
        refine is_B (V := (ip2 Int32.toInt (ip2 Int32.toInt Int32.toInt))) ?_ (fun s3 => ?_)
        ·
          refine is_W (V := (ip2 Int32.toInt (ip2 Int32.toInt (ip2 Int32.toInt Int32.toInt)))) (W := (ip2 Int32.toInt (ip2 Int32.toInt Int32.toInt))) (fun s4 => ?_) (ppair tl_0 (ppair tl_0 (ppair tl_m2 tl_0)))
          refine is_B (V := Int32.toInt) (is_Gt rfl) (fun x5 => ?_)
          refine is_if (ti_le rfl rfl) ?_ ?_
          ·
            exact is_P (pinr (ppair rfl (ppair rfl rfl)))
          ·
            refine is_B (V := Int32.toInt) (is_Press_cell rfl tl_10) (fun x6 => ?_)
            refine is_B (V := Int32.toInt) (is_Press_used rfl) (fun x7 => ?_)
            refine is_A (fun h1 => ?_)
            refine is_B (V := Int32.toInt) (is_P (ti_sub rfl rfl h1)) (fun x8 => ?_)
            refine is_A (fun h2 => ?_)
            refine is_B (V := Int32.toInt) (is_P (ti_add rfl rfl h2)) (fun x9 => ?_)
            refine is_B (V := (ip2 Int32.toInt Int32.toInt)) ?_ (fun s10 => ?_)
            ·
              refine is_E (V := id1) ?_ (fun s11 => ?_)
              ·
                refine is_if (ti_eq rfl tl_m2) ?_ ?_
                ·
                  exact is_P (pinl rfl)
                ·
                  refine is_if (ti_le rfl rfl) ?_ ?_
                  ·
                    exact is_P (pinr (ppair rfl rfl))
                  ·
                    exact is_P (pinl rfl)
              ·
                exact is_P (ppair rfl rfl)
            refine is_A (fun h3 => ?_)
            refine is_B (V := Int32.toInt) (is_P (ti_add rfl tl_1 h3)) (fun x12 => ?_)
            exact is_P (pinl (ppair rfl (ppair rfl (ppair rfl rfl))))
        refine is_if (ti_eq rfl tl_0) ?_ ?_
        ·
          exact is_P rfl
        ·
          refine is_if (ti_eq rfl tl_1) ?_ ?_
          ·
            exact is_P rfl
          ·
            exact is_P rfl
      ·
        refine is_B (V := Int32.toInt) (is_Press_answer) (fun x13 => ?_)
        exact is_P rfl
    ·
      exact is_P tl_m1
noncomputable def iz_Top_page (this : Nat) (p1 : Int) (p2 : Int) : iM Int :=
  iB (iK 13 (iz_Top_pouredNow this)) fun r1 =>
  if p1 < 0 then
    iP (-1)
  else
    iB (iGt r1 5) fun x2 =>
    if x2 < p1 then
      iP (-1)
    else
      iB (iGt (qm_rf r1 1) 1) fun x3 =>
      if ¬ x3 = 0 then
        if p2 = 0 then
          iB (iz_Press_columnsOn r1 p1) fun x4 =>
          iP x4
        else
          if p2 = 1 then
            iB (iz_Press_piecesOn r1 p1) fun x5 =>
            iP x5
          else
            if p2 = 2 then
              iB (iz_Press_spansOn r1 p1) fun x6 =>
              iP x6
            else
              if p2 = 3 then
                iB (iz_Press_noteLinesOn r1 p1) fun x7 =>
                iP x7
              else
                if p2 = 4 then
                  iB (iz_Press_sectionsOn r1 p1) fun x8 =>
                  iP x8
                else
                  iP (-1)
      else
        iP (-1)
set_option maxRecDepth 20000 in
set_option maxHeartbeats 2000000 in
theorem is_Top_page {this : Nat} {p1 : Int32} {p1' : Int} {p2 : Int32} {p2' : Int} (qp1 : p1.toInt = p1') (qp2 : p2.toInt = p2') : iS (jf_Top_page this p1 p2) (iz_Top_page this p1' p2') Int32.toInt := by
  subst qp1 qp2
  unfold jf_Top_page iz_Top_page
  refine is_B (V := id1) (is_K (is_Top_pouredNow)) (fun r1 => ?_)
  refine is_if (ti_lt rfl tl_0) ?_ ?_
  ·
    exact is_P tl_m1
  ·
    refine is_B (V := Int32.toInt) (is_Gt rfl) (fun x2 => ?_)
    refine is_if (ti_lt rfl rfl) ?_ ?_
    ·
      exact is_P tl_m1
    ·
      refine is_B (V := Int32.toInt) (is_Gt rfl) (fun x3 => ?_)
      refine is_if (ti_not (ti_eq rfl tl_0)) ?_ ?_
      ·
        refine is_if (ti_eq rfl tl_0) ?_ ?_
        ·
          refine is_B (V := Int32.toInt) (is_Press_columnsOn rfl) (fun x4 => ?_)
          exact is_P rfl
        ·
          refine is_if (ti_eq rfl tl_1) ?_ ?_
          ·
            refine is_B (V := Int32.toInt) (is_Press_piecesOn rfl) (fun x5 => ?_)
            exact is_P rfl
          ·
            refine is_if (ti_eq rfl tl_2) ?_ ?_
            ·
              refine is_B (V := Int32.toInt) (is_Press_spansOn rfl) (fun x6 => ?_)
              exact is_P rfl
            ·
              refine is_if (ti_eq rfl tl_3) ?_ ?_
              ·
                refine is_B (V := Int32.toInt) (is_Press_noteLinesOn rfl) (fun x7 => ?_)
                exact is_P rfl
              ·
                refine is_if (ti_eq rfl tl_4) ?_ ?_
                ·
                  refine is_B (V := Int32.toInt) (is_Press_sectionsOn rfl) (fun x8 => ?_)
                  exact is_P rfl
                ·
                  exact is_P tl_m1
      ·
        exact is_P tl_m1
noncomputable def iz_Top_asks (this : Nat) (p1 : Int) (p2 : Int) : iM Int :=
  if p1 < 0 then
    iP 0
  else
    iB (iK 13 (iz_Top_laidOut this)) fun r1 =>
    iB (iGt (qm_rf r1 1) 1) fun x2 =>
    if x2 ≤ p1 then
      iP 0
    else
      if p2 < 0 then
        iP 0
      else
        if 2000 < p2 then
          iP 0
        else
          iP 1
set_option maxRecDepth 20000 in
set_option maxHeartbeats 2000000 in
theorem is_Top_asks {this : Nat} {p1 : Int32} {p1' : Int} {p2 : Int32} {p2' : Int} (qp1 : p1.toInt = p1') (qp2 : p2.toInt = p2') : iS (jf_Top_asks this p1 p2) (iz_Top_asks this p1' p2') Int32.toInt := by
  subst qp1 qp2
  unfold jf_Top_asks iz_Top_asks
  refine is_if (ti_lt rfl tl_0) ?_ ?_
  ·
    exact is_P tl_0
  ·
    refine is_B (V := id1) (is_K (is_Top_laidOut)) (fun r1 => ?_)
    refine is_B (V := Int32.toInt) (is_Gt rfl) (fun x2 => ?_)
    refine is_if (ti_le rfl rfl) ?_ ?_
    ·
      exact is_P tl_0
    ·
      refine is_if (ti_lt rfl tl_0) ?_ ?_
      ·
        exact is_P tl_0
      ·
        refine is_if (ti_lt tl_2000 rfl) ?_ ?_
        ·
          exact is_P tl_0
        ·
          exact is_P tl_1
noncomputable def iz_Top_fits (this : Nat) (p1 : Int) (p2 : Int) : iM Int :=
  iB (iz_Top_asks this p1 p2) fun x1 =>
  if ¬ x1 = 0 then
    iB (iz_Run_setting (qm_rf this 0) 0) fun x2 =>
    iB (iz_Fitter_fitsAll (qm_rf (qm_rf this 6) 2) p1 x2 p2) fun x3 =>
    if x3 = 0 then
      iP 0
    else
      iP 1
  else
    iP (-1)
set_option maxRecDepth 20000 in
set_option maxHeartbeats 2000000 in
theorem is_Top_fits {this : Nat} {p1 : Int32} {p1' : Int} {p2 : Int32} {p2' : Int} (qp1 : p1.toInt = p1') (qp2 : p2.toInt = p2') : iS (jf_Top_fits this p1 p2) (iz_Top_fits this p1' p2') Int32.toInt := by
  subst qp1 qp2
  unfold jf_Top_fits iz_Top_fits
  refine is_B (V := Int32.toInt) (is_Top_asks rfl rfl) (fun x1 => ?_)
  refine is_if (ti_not (ti_eq rfl tl_0)) ?_ ?_
  ·
    refine is_B (V := Int32.toInt) (is_Run_setting tl_0) (fun x2 => ?_)
    refine is_B (V := Int32.toInt) (is_Fitter_fitsAll rfl rfl rfl) (fun x3 => ?_)
    refine is_if (ti_eq rfl tl_0) ?_ ?_
    ·
      exact is_P tl_0
    ·
      exact is_P tl_1
  ·
    exact is_P tl_m1
noncomputable def iz_Top_least (this : Nat) (p1 : Int) : iM Int :=
  iB (iz_Top_asks this p1 0) fun x1 =>
  if ¬ x1 = 0 then
    iB (iz_Fitter_leastOf (qm_rf (qm_rf this 6) 2) p1) fun x2 =>
    iP x2
  else
    iP (-1)
set_option maxRecDepth 20000 in
set_option maxHeartbeats 2000000 in
theorem is_Top_least {this : Nat} {p1 : Int32} {p1' : Int} (qp1 : p1.toInt = p1') : iS (jf_Top_least this p1) (iz_Top_least this p1') Int32.toInt := by
  subst qp1
  unfold jf_Top_least iz_Top_least
  refine is_B (V := Int32.toInt) (is_Top_asks rfl tl_0) (fun x1 => ?_)
  refine is_if (ti_not (ti_eq rfl tl_0)) ?_ ?_
  ·
    refine is_B (V := Int32.toInt) (is_Fitter_leastOf rfl) (fun x2 => ?_)
    exact is_P rfl
  ·
    exact is_P tl_m1
noncomputable def iz_Top_reach (this : Nat) (p1 : Int) (p2 : Int) (p3 : Int) : iM Int :=
  iB (iz_Top_asks this p1 p3) fun x1 =>
  if x1 = 0 then
    iP (-1)
  else
    if p2 < 1 then
      iP (-1)
    else
      if p2 ≤ 5 then
        iB (iz_Walker_farthest (qm_rf this 8) p1 p2 p3) fun x2 =>
        iP x2
      else
        iP (-1)
set_option maxRecDepth 20000 in
set_option maxHeartbeats 2000000 in
theorem is_Top_reach {this : Nat} {p1 : Int32} {p1' : Int} {p2 : Int32} {p2' : Int} {p3 : Int32} {p3' : Int} (qp1 : p1.toInt = p1') (qp2 : p2.toInt = p2') (qp3 : p3.toInt = p3') : iS (jf_Top_reach this p1 p2 p3) (iz_Top_reach this p1' p2' p3') Int32.toInt := by
  subst qp1 qp2 qp3
  unfold jf_Top_reach iz_Top_reach
  refine is_B (V := Int32.toInt) (is_Top_asks rfl rfl) (fun x1 => ?_)
  refine is_if (ti_eq rfl tl_0) ?_ ?_
  ·
    exact is_P tl_m1
  ·
    refine is_if (ti_lt rfl tl_1) ?_ ?_
    ·
      exact is_P tl_m1
    ·
      refine is_if (ti_le rfl tl_5) ?_ ?_
      ·
        refine is_B (V := Int32.toInt) (is_Walker_farthest rfl rfl rfl) (fun x2 => ?_)
        exact is_P rfl
      ·
        exact is_P tl_m1
noncomputable def iz_Top_ways (this : Nat) (p1 : Int) (p2 : Int) : iM Int :=
  iB (iz_Top_asks this p1 p2) fun x1 =>
  if ¬ x1 = 0 then
    iB (iz_Run_setting (qm_rf this 0) 0) fun x2 =>
    iB (iz_Walker_rowsOfEnds (qm_rf this 8) p1 x2 p2) fun x3 =>
    iP x3
  else
    iP (-1)
set_option maxRecDepth 20000 in
set_option maxHeartbeats 2000000 in
theorem is_Top_ways {this : Nat} {p1 : Int32} {p1' : Int} {p2 : Int32} {p2' : Int} (qp1 : p1.toInt = p1') (qp2 : p2.toInt = p2') : iS (jf_Top_ways this p1 p2) (iz_Top_ways this p1' p2') Int32.toInt := by
  subst qp1 qp2
  unfold jf_Top_ways iz_Top_ways
  refine is_B (V := Int32.toInt) (is_Top_asks rfl rfl) (fun x1 => ?_)
  refine is_if (ti_not (ti_eq rfl tl_0)) ?_ ?_
  ·
    refine is_B (V := Int32.toInt) (is_Run_setting tl_0) (fun x2 => ?_)
    refine is_B (V := Int32.toInt) (is_Walker_rowsOfEnds rfl rfl rfl) (fun x3 => ?_)
    exact is_P rfl
  ·
    exact is_P tl_m1
noncomputable def iz_Top_narrow (this : Nat) (p1 : Int) (p2 : Int) : iM Int :=
  iB (iz_Top_asks this p1 p2) fun x1 =>
  if ¬ x1 = 0 then
    iB (α := (Unit ⊕ Int)) (
      iW (S := Int) (α := (Unit ⊕ Int)) (fun s3 =>
        if 5 < s3 then
          iP (Sum.inr (Sum.inl ()))
        else
          iB (iz_Fitter_fitsAll (qm_rf (qm_rf this 6) 2) p1 s3 p2) fun x4 =>
          if x4 = 0 then
            iA (s3 + 1) fun y1 =>
            iB (iP y1) fun x5 =>
            iP (Sum.inl x5)
          else
            iP (Sum.inr (Sum.inr s3))) 1) (Sum.elim (fun s2 =>
      iP (-2)) iP)
  else
    iP (-1)
set_option maxRecDepth 20000 in
set_option maxHeartbeats 2000000 in
theorem is_Top_narrow {this : Nat} {p1 : Int32} {p1' : Int} {p2 : Int32} {p2' : Int} (qp1 : p1.toInt = p1') (qp2 : p2.toInt = p2') : iS (jf_Top_narrow this p1 p2) (iz_Top_narrow this p1' p2') Int32.toInt := by
  subst qp1 qp2
  unfold jf_Top_narrow iz_Top_narrow
  refine is_B (V := Int32.toInt) (is_Top_asks rfl rfl) (fun x1 => ?_)
  refine is_if (ti_not (ti_eq rfl tl_0)) ?_ ?_
  ·
    refine is_E (V := id1) ?_ (fun s2 => ?_)
    ·
      refine is_W (V := Int32.toInt) (W := (is2 id1 Int32.toInt)) (fun s3 => ?_) tl_1
      refine is_if (ti_lt tl_5 rfl) ?_ ?_
      ·
        exact is_P (pinr (pinl rfl))
      ·
        refine is_B (V := Int32.toInt) (is_Fitter_fitsAll rfl rfl rfl) (fun x4 => ?_)
        refine is_if (ti_eq rfl tl_0) ?_ ?_
        ·
          refine is_A (fun h1 => ?_)
          refine is_B (V := Int32.toInt) (is_P (ti_add rfl tl_1 h1)) (fun x5 => ?_)
          exact is_P (pinl rfl)
        ·
          exact is_P (pinr (pinr rfl))
    ·
      exact is_P tl_m2
  ·
    exact is_P tl_m1
noncomputable def iz_Top_even (this : Nat) (p1 : Int) : iM Int :=
  iB (iz_Top_asks this p1 0) fun x1 =>
  if ¬ x1 = 0 then
    iB (iz_Fitter_leastOf (qm_rf (qm_rf this 6) 2) p1) fun x2 =>
    if ¬ x2 = (-2) then
      iB (iz_Run_copyFrom (qm_rf (qm_rf this 7) 0) (qm_rf this 0)) fun _ =>
      iB (iz_Press_lay (qm_rf this 7)) fun _ =>
      iB (iz_Press_levelAlone (qm_rf this 7) p1 x2) fun _ =>
      iB (iz_Press_difference (qm_rf this 7)) fun x3 =>
      iP x3
    else
      iP (-2)
  else
    iP (-1)
set_option maxRecDepth 20000 in
set_option maxHeartbeats 2000000 in
theorem is_Top_even {this : Nat} {p1 : Int32} {p1' : Int} (qp1 : p1.toInt = p1') : iS (jf_Top_even this p1) (iz_Top_even this p1') Int32.toInt := by
  subst qp1
  unfold jf_Top_even iz_Top_even
  refine is_B (V := Int32.toInt) (is_Top_asks rfl tl_0) (fun x1 => ?_)
  refine is_if (ti_not (ti_eq rfl tl_0)) ?_ ?_
  ·
    refine is_B (V := Int32.toInt) (is_Fitter_leastOf rfl) (fun x2 => ?_)
    refine is_if (ti_not (ti_eq rfl tl_m2)) ?_ ?_
    ·
      refine is_B (V := id1) (is_Run_copyFrom) (fun _ => ?_)
      refine is_B (V := id1) (is_Press_lay) (fun _ => ?_)
      refine is_B (V := id1) (is_Press_levelAlone rfl rfl) (fun _ => ?_)
      refine is_B (V := Int32.toInt) (is_Press_difference) (fun x3 => ?_)
      exact is_P rfl
    ·
      exact is_P tl_m2
  ·
    exact is_P tl_m1
noncomputable def iz_Top_costs (this : Nat) (p1 : Int) (p2 : Int) : iM Int :=
  iB (iz_Top_asks this p1 0) fun x1 =>
  if x1 = 0 then
    iP (-1)
  else
    if p2 < 0 then
      iP (-1)
    else
      if p2 ≤ 4 then
        iB (iz_Fitter_leastOf (qm_rf (qm_rf this 6) 2) p1) fun x2 =>
        if ¬ x2 = (-2) then
          iB (iz_Run_copyFrom (qm_rf (qm_rf this 7) 0) (qm_rf this 0)) fun _ =>
          iB (iz_Run_withoutLaw (qm_rf (qm_rf this 7) 0) p2) fun _ =>
          iB (iz_Press_lay (qm_rf this 7)) fun _ =>
          iB (iz_Fitter_leastOf (qm_rf (qm_rf this 7) 2) p1) fun x3 =>
          iA (x2 - x3) fun y1 =>
          iP y1
        else
          iP (-2)
      else
        iP (-1)
set_option maxRecDepth 20000 in
set_option maxHeartbeats 2000000 in
theorem is_Top_costs {this : Nat} {p1 : Int32} {p1' : Int} {p2 : Int32} {p2' : Int} (qp1 : p1.toInt = p1') (qp2 : p2.toInt = p2') : iS (jf_Top_costs this p1 p2) (iz_Top_costs this p1' p2') Int32.toInt := by
  subst qp1 qp2
  unfold jf_Top_costs iz_Top_costs
  refine is_B (V := Int32.toInt) (is_Top_asks rfl tl_0) (fun x1 => ?_)
  refine is_if (ti_eq rfl tl_0) ?_ ?_
  ·
    exact is_P tl_m1
  ·
    refine is_if (ti_lt rfl tl_0) ?_ ?_
    ·
      exact is_P tl_m1
    ·
      refine is_if (ti_le rfl tl_4) ?_ ?_
      ·
        refine is_B (V := Int32.toInt) (is_Fitter_leastOf rfl) (fun x2 => ?_)
        refine is_if (ti_not (ti_eq rfl tl_m2)) ?_ ?_
        ·
          refine is_B (V := id1) (is_Run_copyFrom) (fun _ => ?_)
          refine is_B (V := id1) (is_Run_withoutLaw rfl) (fun _ => ?_)
          refine is_B (V := id1) (is_Press_lay) (fun _ => ?_)
          refine is_B (V := Int32.toInt) (is_Fitter_leastOf rfl) (fun x3 => ?_)
          refine is_A (fun h1 => ?_)
          exact is_P (ti_sub rfl rfl h1)
        ·
          exact is_P tl_m2
      ·
        exact is_P tl_m1
noncomputable def iz_Top_fitsUntied (this : Nat) (p1 : Int) (p2 : Int) (p3 : Int) : iM Int :=
  iB (α := Unit) (
    iW (S := Int) (α := Unit) (fun s2 =>
      iB (iGt (qm_rf this 0) 0) fun x3 =>
      if x3 ≤ s2 then
        iP (Sum.inr ())
      else
        iB (iP (ibAnd (ibShr p3 (ibAnd s2 31)) 1)) fun x4 =>
        iB (α := Int) (
          if ¬ x4 = 1 then
            iB (iz_Run_cell (qm_rf this 0) s2 4) fun x6 =>
            iP x6
          else
            iP 0) fun s5 =>
        iB (iz_Run_putCell (qm_rf (qm_rf this 7) 0) s2 4 s5) fun _ =>
        iA (s2 + 1) fun y1 =>
        iB (iP y1) fun x7 =>
        iP (Sum.inl x7)) 0) fun s1 =>
  iB (iz_Press_mark (qm_rf this 7)) fun _ =>
  iB (iz_Run_setting (qm_rf this 0) 0) fun x8 =>
  iB (iz_Fitter_fitsAll (qm_rf (qm_rf this 7) 2) p1 x8 p2) fun x9 =>
  iB (iZ x9) fun x10 =>
  iP x10
set_option maxRecDepth 20000 in
set_option maxHeartbeats 2000000 in
theorem is_Top_fitsUntied {this : Nat} {p1 : Int32} {p1' : Int} {p2 : Int32} {p2' : Int} {p3 : Int32} {p3' : Int} (qp1 : p1.toInt = p1') (qp2 : p2.toInt = p2') (qp3 : p3.toInt = p3') : iS (jf_Top_fitsUntied this p1 p2 p3) (iz_Top_fitsUntied this p1' p2' p3') Int32.toInt := by
  subst qp1 qp2 qp3
  unfold jf_Top_fitsUntied iz_Top_fitsUntied
  refine is_B (V := id1) ?_ (fun s1 => ?_)
  ·
    refine is_W (V := Int32.toInt) (W := id1) (fun s2 => ?_) tl_0
    refine is_B (V := Int32.toInt) (is_Gt rfl) (fun x3 => ?_)
    refine is_if (ti_le rfl rfl) ?_ ?_
    ·
      exact is_P (pinr rfl)
    ·
      refine is_B (V := Int32.toInt) (is_P (ti_and (ti_shr rfl (ti_and rfl tl_31)) tl_1)) (fun x4 => ?_)
      refine is_B (V := Int32.toInt) ?_ (fun s5 => ?_)
      ·
        refine is_if (ti_not (ti_eq rfl tl_1)) ?_ ?_
        ·
          refine is_B (V := Int32.toInt) (is_Run_cell rfl tl_4) (fun x6 => ?_)
          exact is_P rfl
        ·
          exact is_P tl_0
      refine is_B (V := id1) (is_Run_putCell rfl tl_4 rfl) (fun _ => ?_)
      refine is_A (fun h1 => ?_)
      refine is_B (V := Int32.toInt) (is_P (ti_add rfl tl_1 h1)) (fun x7 => ?_)
      exact is_P (pinl rfl)
  refine is_B (V := id1) (is_Press_mark) (fun _ => ?_)
  refine is_B (V := Int32.toInt) (is_Run_setting tl_0) (fun x8 => ?_)
  refine is_B (V := Int32.toInt) (is_Fitter_fitsAll rfl rfl rfl) (fun x9 => ?_)
  refine is_B (V := Int32.toInt) (is_Z rfl) (fun x10 => ?_)
  exact is_P rfl
noncomputable def iz_Top_untiedBy (this : Nat) (p1 : Int) (p2 : Int) (p3 : Int) (p4 : Int) : iM Int :=
  iB (α := (Unit ⊕ Int)) (
    iW (S := (Int × Int)) (α := (Unit ⊕ Int)) (fun s2 =>
      if 256 ≤ s2.2 then
        iP (Sum.inr (Sum.inl ()))
      else
        iB (iz_Integer_bitCount s2.1) fun x3 =>
        iB (α := (Unit ⊕ ((Int × Int) ⊕ (Unit ⊕ Int)))) (
          if ¬ x3 = p4 then
            iP (Sum.inl ())
          else
            iB (iz_Top_fitsUntied this p1 p2 s2.1) fun x5 =>
            if x5 = 0 then
              iP (Sum.inl ())
            else
              iP (Sum.inr (Sum.inr (Sum.inr s2.1)))) (Sum.elim (fun s4 =>
          iA (s2.1 - p3) fun y1 =>
          iB (iP (ibAnd y1 p3)) fun x6 =>
          iA (s2.2 + 1) fun y2 =>
          iB (iP y2) fun x7 =>
          iP (Sum.inl (x6, x7))) iP)) (0, 0)) (Sum.elim (fun s1 =>
    iP (-2)) iP)
set_option maxRecDepth 20000 in
set_option maxHeartbeats 2000000 in
theorem is_Top_untiedBy {this : Nat} {p1 : Int32} {p1' : Int} {p2 : Int32} {p2' : Int} {p3 : Int32} {p3' : Int} {p4 : Int32} {p4' : Int} (qp1 : p1.toInt = p1') (qp2 : p2.toInt = p2') (qp3 : p3.toInt = p3') (qp4 : p4.toInt = p4') : iS (jf_Top_untiedBy this p1 p2 p3 p4) (iz_Top_untiedBy this p1' p2' p3' p4') Int32.toInt := by
  subst qp1 qp2 qp3 qp4
  unfold jf_Top_untiedBy iz_Top_untiedBy
  refine is_E (V := id1) ?_ (fun s1 => ?_)
  ·
    refine is_W (V := (ip2 Int32.toInt Int32.toInt)) (W := (is2 id1 Int32.toInt)) (fun s2 => ?_) (ppair tl_0 tl_0)
    refine is_if (ti_le tl_256 rfl) ?_ ?_
    ·
      exact is_P (pinr (pinl rfl))
    ·
      refine is_B (V := Int32.toInt) (is_Integer_bitCount rfl) (fun x3 => ?_)
      refine is_E (V := id1) ?_ (fun s4 => ?_)
      ·
        refine is_if (ti_not (ti_eq rfl rfl)) ?_ ?_
        ·
          exact is_P (pinl rfl)
        ·
          refine is_B (V := Int32.toInt) (is_Top_fitsUntied rfl rfl rfl) (fun x5 => ?_)
          refine is_if (ti_eq rfl tl_0) ?_ ?_
          ·
            exact is_P (pinl rfl)
          ·
            exact is_P (pinr (pinr (pinr rfl)))
      ·
        refine is_A (fun h1 => ?_)
        refine is_B (V := Int32.toInt) (is_P (ti_and (ti_sub rfl rfl h1) rfl)) (fun x6 => ?_)
        refine is_A (fun h2 => ?_)
        refine is_B (V := Int32.toInt) (is_P (ti_add rfl tl_1 h2)) (fun x7 => ?_)
        exact is_P (pinl (ppair rfl rfl))
  ·
    exact is_P tl_m2
noncomputable def iz_Top_untie (this : Nat) (p1 : Int) (p2 : Int) : iM Int :=
  iB (iz_Top_asks this p1 p2) fun x1 =>
  if ¬ x1 = 0 then
    iB (iz_Run_copyFrom (qm_rf (qm_rf this 7) 0) (qm_rf this 0)) fun _ =>
    iB (iz_Press_lay (qm_rf this 7)) fun _ =>
    iB (iz_Flow_tiesIn (qm_rf (qm_rf this 7) 1) p1) fun x2 =>
    iB (iz_Top_fitsUntied this p1 p2 x2) fun x3 =>
    if ¬ x3 = 0 then
      iB (iz_Integer_bitCount x2) fun x4 =>
      iB (α := (Unit ⊕ Int)) (
        iW (S := Int) (α := (Unit ⊕ Int)) (fun s6 =>
          if x4 ≤ s6 then
            iP (Sum.inr (Sum.inl ()))
          else
            iB (iz_Top_untiedBy this p1 p2 x2 s6) fun x7 =>
            if x7 = (-2) then
              iA (s6 + 1) fun y1 =>
              iB (iP y1) fun x8 =>
              iP (Sum.inl x8)
            else
              iP (Sum.inr (Sum.inr x7))) 0) (Sum.elim (fun s5 =>
        iP x2) iP)
    else
      iP (-2)
  else
    iP (-1)
set_option maxRecDepth 20000 in
set_option maxHeartbeats 2000000 in
theorem is_Top_untie {this : Nat} {p1 : Int32} {p1' : Int} {p2 : Int32} {p2' : Int} (qp1 : p1.toInt = p1') (qp2 : p2.toInt = p2') : iS (jf_Top_untie this p1 p2) (iz_Top_untie this p1' p2') Int32.toInt := by
  subst qp1 qp2
  unfold jf_Top_untie iz_Top_untie
  refine is_B (V := Int32.toInt) (is_Top_asks rfl rfl) (fun x1 => ?_)
  refine is_if (ti_not (ti_eq rfl tl_0)) ?_ ?_
  ·
    refine is_B (V := id1) (is_Run_copyFrom) (fun _ => ?_)
    refine is_B (V := id1) (is_Press_lay) (fun _ => ?_)
    refine is_B (V := Int32.toInt) (is_Flow_tiesIn rfl) (fun x2 => ?_)
    refine is_B (V := Int32.toInt) (is_Top_fitsUntied rfl rfl rfl) (fun x3 => ?_)
    refine is_if (ti_not (ti_eq rfl tl_0)) ?_ ?_
    ·
      refine is_B (V := Int32.toInt) (is_Integer_bitCount rfl) (fun x4 => ?_)
      refine is_E (V := id1) ?_ (fun s5 => ?_)
      ·
        refine is_W (V := Int32.toInt) (W := (is2 id1 Int32.toInt)) (fun s6 => ?_) tl_0
        refine is_if (ti_le rfl rfl) ?_ ?_
        ·
          exact is_P (pinr (pinl rfl))
        ·
          refine is_B (V := Int32.toInt) (is_Top_untiedBy rfl rfl rfl rfl) (fun x7 => ?_)
          refine is_if (ti_eq rfl tl_m2) ?_ ?_
          ·
            refine is_A (fun h1 => ?_)
            refine is_B (V := Int32.toInt) (is_P (ti_add rfl tl_1 h1)) (fun x8 => ?_)
            exact is_P (pinl rfl)
          ·
            exact is_P (pinr (pinr rfl))
      ·
        exact is_P rfl
    ·
      exact is_P tl_m2
  ·
    exact is_P tl_m1
noncomputable def iz_Top_trial (this : Nat) (p1 : Int) (p2 : Int) : iM Int :=
  iB (iz_Run_takes p1 p2) fun x1 =>
  if ¬ x1 = 0 then
    iB (iz_Run_copyFrom (qm_rf (qm_rf this 7) 0) (qm_rf this 0)) fun _ =>
    iB (iz_Run_put (qm_rf (qm_rf this 7) 0) p1 p2) fun _ =>
    iB (iz_Press_lay (qm_rf this 7)) fun _ =>
    iB (iz_Press_pourAll (qm_rf this 7)) fun x2 =>
    iP x2
  else
    iP (-1)
set_option maxRecDepth 20000 in
set_option maxHeartbeats 2000000 in
theorem is_Top_trial {this : Nat} {p1 : Int32} {p1' : Int} {p2 : Int32} {p2' : Int} (qp1 : p1.toInt = p1') (qp2 : p2.toInt = p2') : iS (jf_Top_trial this p1 p2) (iz_Top_trial this p1' p2') Int32.toInt := by
  subst qp1 qp2
  unfold jf_Top_trial iz_Top_trial
  refine is_B (V := Int32.toInt) (is_Run_takes rfl rfl) (fun x1 => ?_)
  refine is_if (ti_not (ti_eq rfl tl_0)) ?_ ?_
  ·
    refine is_B (V := id1) (is_Run_copyFrom) (fun _ => ?_)
    refine is_B (V := id1) (is_Run_put rfl rfl) (fun _ => ?_)
    refine is_B (V := id1) (is_Press_lay) (fun _ => ?_)
    refine is_B (V := Int32.toInt) (is_Press_pourAll) (fun x2 => ?_)
    exact is_P rfl
  ·
    exact is_P tl_m1
noncomputable def iz_Top_tall (this : Nat) (p1 : Int) : iM Int :=
  if p1 < 0 then
    iP (-1)
  else
    if p1 ≤ 40 then
      iB (iz_Run_copyFrom (qm_rf (qm_rf this 7) 0) (qm_rf this 0)) fun _ =>
      iB (iz_Press_lay (qm_rf this 7)) fun _ =>
      iB (iLd 407 1) fun x1 =>
      iB (iz_Flow_allHeights (qm_rf (qm_rf this 7) 1)) fun x2 =>
      iB (iLd 406 1) fun x3 =>
      iB (α := (Unit ⊕ Int)) (
        iW (S := Int) (α := (Unit ⊕ Int)) (fun s5 =>
          if x1 < s5 then
            iP (Sum.inr (Sum.inl ()))
          else
            iB (iz_Run_setting (qm_rf this 0) 0) fun x6 =>
            iB (α := (Unit ⊕ (Int ⊕ (Unit ⊕ Int)))) (
              iA (p1 * x6) fun y1 =>
              iA (y1 * s5) fun y2 =>
              if y2 < x2 then
                iP (Sum.inl ())
              else
                iB (iz_Run_put (qm_rf (qm_rf this 7) 0) 1 s5) fun _ =>
                iB (iz_Press_pourAll (qm_rf this 7)) fun x8 =>
                if x8 < 0 then
                  iP (Sum.inl ())
                else
                  if p1 < x8 then
                    iP (Sum.inl ())
                  else
                    iP (Sum.inr (Sum.inr (Sum.inr s5)))) (Sum.elim (fun s7 =>
              iA (s5 + 1) fun y3 =>
              iB (iP y3) fun x9 =>
              iP (Sum.inl x9)) iP)) x3) (Sum.elim (fun s4 =>
        iP (-2)) iP)
    else
      iP (-1)
set_option maxRecDepth 20000 in
set_option maxHeartbeats 2000000 in
theorem is_Top_tall {this : Nat} {p1 : Int32} {p1' : Int} (qp1 : p1.toInt = p1') : iS (jf_Top_tall this p1) (iz_Top_tall this p1') Int32.toInt := by
  subst qp1
  unfold jf_Top_tall iz_Top_tall
  refine is_if (ti_lt rfl tl_0) ?_ ?_
  ·
    exact is_P tl_m1
  ·
    refine is_if (ti_le rfl tl_40) ?_ ?_
    ·
      refine is_B (V := id1) (is_Run_copyFrom) (fun _ => ?_)
      refine is_B (V := id1) (is_Press_lay) (fun _ => ?_)
      refine is_B (V := Int32.toInt) (is_Ld tl_1) (fun x1 => ?_)
      refine is_B (V := Int32.toInt) (is_Flow_allHeights) (fun x2 => ?_)
      refine is_B (V := Int32.toInt) (is_Ld tl_1) (fun x3 => ?_)
      refine is_E (V := id1) ?_ (fun s4 => ?_)
      ·
        refine is_W (V := Int32.toInt) (W := (is2 id1 Int32.toInt)) (fun s5 => ?_) rfl
        refine is_if (ti_lt rfl rfl) ?_ ?_
        ·
          exact is_P (pinr (pinl rfl))
        ·
          refine is_B (V := Int32.toInt) (is_Run_setting tl_0) (fun x6 => ?_)
          refine is_E (V := id1) ?_ (fun s7 => ?_)
          ·
            refine is_A (fun h1 => ?_)
            refine is_A (fun h2 => ?_)
            refine is_if (ti_lt (ti_mul (ti_mul rfl rfl h1) rfl h2) rfl) ?_ ?_
            ·
              exact is_P (pinl rfl)
            ·
              refine is_B (V := id1) (is_Run_put tl_1 rfl) (fun _ => ?_)
              refine is_B (V := Int32.toInt) (is_Press_pourAll) (fun x8 => ?_)
              refine is_if (ti_lt rfl tl_0) ?_ ?_
              ·
                exact is_P (pinl rfl)
              ·
                refine is_if (ti_lt rfl rfl) ?_ ?_
                ·
                  exact is_P (pinl rfl)
                ·
                  exact is_P (pinr (pinr (pinr rfl)))
          ·
            refine is_A (fun h3 => ?_)
            refine is_B (V := Int32.toInt) (is_P (ti_add rfl tl_1 h3)) (fun x9 => ?_)
            exact is_P (pinl rfl)
      ·
        exact is_P tl_m2
    ·
      exact is_P tl_m1
