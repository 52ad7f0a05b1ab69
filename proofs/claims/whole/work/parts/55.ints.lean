noncomputable def iz_Model_readsSetting (this : Nat) (p1 : Int) : iM Int :=
  iB (iGt this 52) fun x1 =>
  if ¬ (ibAnd (ibShr x1 (ibAnd p1 31)) 1) = 1 then
    iB (iGt this 52) fun x2 =>
    iB (iPt this 52 (ibOr x2 (ibShl 1 (ibAnd p1 31)))) fun _ =>
    iB (iGt this 46) fun x3 =>
    iB (iK 6 (iz_Model_settingWord p1)) fun r4 =>
    iB (iz_String_length r4) fun x5 =>
    iA (x3 + x5) fun y1 =>
    iB (iPt this 46 y1) fun _ =>
    iB (iz_Model_lowOf p1) fun x6 =>
    iB (iz_Model_highOf p1) fun x7 =>
    iB (iz_Model_readsNumber this x6 x7) fun x8 =>
    if ¬ x8 = 0 then
      iB (iGt this 48) fun x9 =>
      iB (iSt (qm_rf this 50) p1 x9) fun _ =>
      iP 1
    else
      iP 0
  else
    iB (iGt this 46) fun x10 =>
    iB (iz_Model_fails this 3 x10) fun x11 =>
    iB (iZ x11) fun x12 =>
    iP x12
set_option maxRecDepth 20000 in
set_option maxHeartbeats 2000000 in
theorem is_Model_readsSetting {this : Nat} {p1 : Int32} {p1' : Int} (qp1 : p1.toInt = p1') : iS (jf_Model_readsSetting this p1) (iz_Model_readsSetting this p1') Int32.toInt := by
  subst qp1
  unfold jf_Model_readsSetting iz_Model_readsSetting
  refine is_B (V := Int32.toInt) (is_Gt rfl) (fun x1 => ?_)
  refine is_if (ti_not (ti_eq (ti_and (ti_shr rfl (ti_and rfl tl_31)) tl_1) tl_1)) ?_ ?_
  ·
    refine is_B (V := Int32.toInt) (is_Gt rfl) (fun x2 => ?_)
    refine is_B (V := id1) (is_Pt rfl (ti_or rfl (ti_shl tl_1 (ti_and rfl tl_31)))) (fun _ => ?_)
    refine is_B (V := Int32.toInt) (is_Gt rfl) (fun x3 => ?_)
    refine is_B (V := id1) (is_K (is_Model_settingWord rfl)) (fun r4 => ?_)
    refine is_B (V := Int32.toInt) (is_String_length) (fun x5 => ?_)
    refine is_A (fun h1 => ?_)
    refine is_B (V := id1) (is_Pt rfl (ti_add rfl rfl h1)) (fun _ => ?_)
    refine is_B (V := Int32.toInt) (is_Model_lowOf rfl) (fun x6 => ?_)
    refine is_B (V := Int32.toInt) (is_Model_highOf rfl) (fun x7 => ?_)
    refine is_B (V := Int32.toInt) (is_Model_readsNumber rfl rfl) (fun x8 => ?_)
    refine is_if (ti_not (ti_eq rfl tl_0)) ?_ ?_
    ·
      refine is_B (V := Int32.toInt) (is_Gt rfl) (fun x9 => ?_)
      refine is_B (V := id1) (is_St rfl rfl) (fun _ => ?_)
      exact is_P tl_1
    ·
      exact is_P tl_0
  ·
    refine is_B (V := Int32.toInt) (is_Gt rfl) (fun x10 => ?_)
    refine is_B (V := Int32.toInt) (is_Model_fails tl_3 rfl) (fun x11 => ?_)
    refine is_B (V := Int32.toInt) (is_Z rfl) (fun x12 => ?_)
    exact is_P rfl
noncomputable def iz_Model_kindWord (p1 : Int) : iM Nat :=
  if p1 = 0 then
    iP 417
  else
    if p1 = 1 then
      iP 418
    else
      if p1 = 2 then
        iP 419
      else
        if p1 = 3 then
          iP 420
        else
          iP 421
set_option maxRecDepth 20000 in
set_option maxHeartbeats 2000000 in
theorem is_Model_kindWord {p1 : Int32} {p1' : Int} (qp1 : p1.toInt = p1') : iS (jf_Model_kindWord p1) (iz_Model_kindWord p1') id1 := by
  subst qp1
  unfold jf_Model_kindWord iz_Model_kindWord
  refine is_if (ti_eq rfl tl_0) ?_ ?_
  ·
    exact is_P rfl
  ·
    refine is_if (ti_eq rfl tl_1) ?_ ?_
    ·
      exact is_P rfl
    ·
      refine is_if (ti_eq rfl tl_2) ?_ ?_
      ·
        exact is_P rfl
      ·
        refine is_if (ti_eq rfl tl_3) ?_ ?_
        ·
          exact is_P rfl
        ·
          exact is_P rfl
noncomputable def iz_Model_readsOnce (this : Nat) (p1 : Int) (p2 : Int) (p3 : Nat) : iM Int :=
  iB (iGt this 53) fun x1 =>
  iB (iz_Model_has x1 p2) fun x2 =>
  if x2 = 0 then
    iB (iGt this 53) fun x3 =>
    iB (iPt this 53 (ibOr x3 (ibShl 1 (ibAnd p2 31)))) fun _ =>
    iB (iGt this 46) fun x4 =>
    iB (iz_String_length p3) fun x5 =>
    iA (x4 + x5) fun y1 =>
    iB (iPt this 46 y1) fun _ =>
    iB (α := (Unit ⊕ Int)) (
      if ¬ p2 = 6 then
        iP (Sum.inl ())
      else
        iB (iz_Model_readsNumber this 0 30) fun x7 =>
        if ¬ x7 = 0 then
          iP (Sum.inl ())
        else
          iP (Sum.inr 0)) (Sum.elim (fun s6 =>
      if ¬ p2 = 6 then
        iA (p1 + p2) fun y2 =>
        iB (iSt (qm_rf this 50) y2 1) fun _ =>
        iP 1
      else
        iB (iGt this 48) fun x8 =>
        iA (p1 + p2) fun y3 =>
        iB (iSt (qm_rf this 50) y3 x8) fun _ =>
        iP 1) iP)
  else
    iB (iGt this 46) fun x9 =>
    iB (iz_Model_fails this 3 x9) fun x10 =>
    iB (iZ x10) fun x11 =>
    iP x11
set_option maxRecDepth 20000 in
set_option maxHeartbeats 2000000 in
theorem is_Model_readsOnce {this : Nat} {p1 : Int32} {p1' : Int} {p2 : Int32} {p2' : Int} {p3 : Nat} (qp1 : p1.toInt = p1') (qp2 : p2.toInt = p2') : iS (jf_Model_readsOnce this p1 p2 p3) (iz_Model_readsOnce this p1' p2' p3) Int32.toInt := by
  subst qp1 qp2
  unfold jf_Model_readsOnce iz_Model_readsOnce
  refine is_B (V := Int32.toInt) (is_Gt rfl) (fun x1 => ?_)
  refine is_B (V := Int32.toInt) (is_Model_has rfl rfl) (fun x2 => ?_)
  refine is_if (ti_eq rfl tl_0) ?_ ?_
  ·
    refine is_B (V := Int32.toInt) (is_Gt rfl) (fun x3 => ?_)
    refine is_B (V := id1) (is_Pt rfl (ti_or rfl (ti_shl tl_1 (ti_and rfl tl_31)))) (fun _ => ?_)
    refine is_B (V := Int32.toInt) (is_Gt rfl) (fun x4 => ?_)
    refine is_B (V := Int32.toInt) (is_String_length) (fun x5 => ?_)
    refine is_A (fun h1 => ?_)
    refine is_B (V := id1) (is_Pt rfl (ti_add rfl rfl h1)) (fun _ => ?_)
    refine is_E (V := id1) ?_ (fun s6 => ?_)
    ·
      refine is_if (ti_not (ti_eq rfl tl_6)) ?_ ?_
      ·
        exact is_P (pinl rfl)
      ·
        refine is_B (V := Int32.toInt) (is_Model_readsNumber tl_0 tl_30) (fun x7 => ?_)
        refine is_if (ti_not (ti_eq rfl tl_0)) ?_ ?_
        ·
          exact is_P (pinl rfl)
        ·
          exact is_P (pinr tl_0)
    ·
      refine is_if (ti_not (ti_eq rfl tl_6)) ?_ ?_
      ·
        refine is_A (fun h2 => ?_)
        refine is_B (V := id1) (is_St (ti_add rfl rfl h2) tl_1) (fun _ => ?_)
        exact is_P tl_1
      ·
        refine is_B (V := Int32.toInt) (is_Gt rfl) (fun x8 => ?_)
        refine is_A (fun h3 => ?_)
        refine is_B (V := id1) (is_St (ti_add rfl rfl h3) rfl) (fun _ => ?_)
        exact is_P tl_1
  ·
    refine is_B (V := Int32.toInt) (is_Gt rfl) (fun x9 => ?_)
    refine is_B (V := Int32.toInt) (is_Model_fails tl_3 rfl) (fun x10 => ?_)
    refine is_B (V := Int32.toInt) (is_Z rfl) (fun x11 => ?_)
    exact is_P rfl
noncomputable def iz_Model_readsWords (this : Nat) (p1 : Int) (p2 : Int) : iM Int :=
  iB (iPt this 53 0) fun _ =>
  iB (α := (Unit ⊕ Int)) (
    iW (S := Unit) (α := (Unit ⊕ Int)) (fun s2 =>
      iB (iz_Model_nextByte this) fun x3 =>
      iB (iz_Model_in x3 97 122) fun x4 =>
      if x4 = 0 then
        iP (Sum.inr (Sum.inl ()))
      else
        iB (iz_Model_isWord this 422) fun x5 =>
        iB (α := Int) (
          if x5 = 0 then
            iB (iz_Model_isWord this 423) fun x7 =>
            if x7 = 0 then
              iB (α := (Unit ⊕ Int)) (
                if ¬ p2 = 0 then
                  iP (Sum.inl ())
                else
                  iB (iz_Model_isWord this 424) fun x9 =>
                  if x9 = 0 then
                    iP (Sum.inl ())
                  else
                    iB (iz_Model_readsOnce this p1 5 424) fun x10 =>
                    iP (Sum.inr x10)) (Sum.elim (fun s8 =>
                iB (α := (Unit ⊕ Int)) (
                  if ¬ p2 = 0 then
                    iP (Sum.inl ())
                  else
                    iB (iz_Model_isWord this 425) fun x12 =>
                    if x12 = 0 then
                      iP (Sum.inl ())
                    else
                      iB (iz_Model_readsMark this p1) fun x13 =>
                      iP (Sum.inr x13)) (Sum.elim (fun s11 =>
                  iB (iGt this 46) fun x14 =>
                  iB (iz_Model_fails this 1 x14) fun x15 =>
                  iP x15) iP)) iP)
            else
              iB (iz_Model_readsOnce this p1 6 423) fun x16 =>
              iP x16
          else
            iB (iz_Model_readsOnce this p1 4 422) fun x17 =>
            iP x17) fun s6 =>
        if ¬ s6 = 0 then
          iP (Sum.inl ())
        else
          iP (Sum.inr (Sum.inr 0))) ()) (Sum.elim (fun s1 =>
    iP 1) iP)
set_option maxRecDepth 20000 in
set_option maxHeartbeats 2000000 in
theorem is_Model_readsWords {this : Nat} {p1 : Int32} {p1' : Int} {p2 : Int32} {p2' : Int} (qp1 : p1.toInt = p1') (qp2 : p2.toInt = p2') : iS (jf_Model_readsWords this p1 p2) (iz_Model_readsWords this p1' p2') Int32.toInt := by
  subst qp1 qp2
  unfold jf_Model_readsWords iz_Model_readsWords
  refine is_B (V := id1) (is_Pt rfl tl_0) (fun _ => ?_)
  refine is_E (V := id1) ?_ (fun s1 => ?_)
  ·
    refine is_W (V := id1) (W := (is2 id1 Int32.toInt)) (fun s2 => ?_) rfl
    refine is_B (V := Int32.toInt) (is_Model_nextByte) (fun x3 => ?_)
    refine is_B (V := Int32.toInt) (is_Model_in (ti_64 rfl) t64_97 t64_122) (fun x4 => ?_)
    refine is_if (ti_eq rfl tl_0) ?_ ?_
    ·
      exact is_P (pinr (pinl rfl))
    ·
      refine is_B (V := Int32.toInt) (is_Model_isWord) (fun x5 => ?_)
      refine is_B (V := Int32.toInt) ?_ (fun s6 => ?_)
      ·
        refine is_if (ti_eq rfl tl_0) ?_ ?_
        ·
          refine is_B (V := Int32.toInt) (is_Model_isWord) (fun x7 => ?_)
          refine is_if (ti_eq rfl tl_0) ?_ ?_
          ·
            refine is_E (V := id1) ?_ (fun s8 => ?_)
            ·
              refine is_if (ti_not (ti_eq rfl tl_0)) ?_ ?_
              ·
                exact is_P (pinl rfl)
              ·
                refine is_B (V := Int32.toInt) (is_Model_isWord) (fun x9 => ?_)
                refine is_if (ti_eq rfl tl_0) ?_ ?_
                ·
                  exact is_P (pinl rfl)
                ·
                  refine is_B (V := Int32.toInt) (is_Model_readsOnce rfl tl_5) (fun x10 => ?_)
                  exact is_P (pinr rfl)
            ·
              refine is_E (V := id1) ?_ (fun s11 => ?_)
              ·
                refine is_if (ti_not (ti_eq rfl tl_0)) ?_ ?_
                ·
                  exact is_P (pinl rfl)
                ·
                  refine is_B (V := Int32.toInt) (is_Model_isWord) (fun x12 => ?_)
                  refine is_if (ti_eq rfl tl_0) ?_ ?_
                  ·
                    exact is_P (pinl rfl)
                  ·
                    refine is_B (V := Int32.toInt) (is_Model_readsMark rfl) (fun x13 => ?_)
                    exact is_P (pinr rfl)
              ·
                refine is_B (V := Int32.toInt) (is_Gt rfl) (fun x14 => ?_)
                refine is_B (V := Int32.toInt) (is_Model_fails tl_1 rfl) (fun x15 => ?_)
                exact is_P rfl
          ·
            refine is_B (V := Int32.toInt) (is_Model_readsOnce rfl tl_6) (fun x16 => ?_)
            exact is_P rfl
        ·
          refine is_B (V := Int32.toInt) (is_Model_readsOnce rfl tl_4) (fun x17 => ?_)
          exact is_P rfl
      refine is_if (ti_not (ti_eq rfl tl_0)) ?_ ?_
      ·
        exact is_P (pinl rfl)
      ·
        exact is_P (pinr (pinr tl_0))
  ·
    exact is_P tl_1
noncomputable def iz_Model_readsBlock (this : Nat) (p1 : Int) : iM Int :=
  iB (iLd (qm_rf this 50) 8) fun x1 =>
  iB (α := (Unit ⊕ Int)) (
    if x1 = 16 then
      iP (Sum.inl ())
    else
      iB (α := (Unit ⊕ (Unit ⊕ Int))) (
        iB (α := (Unit ⊕ (Unit ⊕ (Unit ⊕ Int)))) (
          if p1 = 1 then
            iP (Sum.inl ())
          else
            if ¬ p1 = 2 then
              iP (Sum.inr (Sum.inl ()))
            else
              iP (Sum.inl ())) (Sum.elim (fun s4 =>
          iB (iGt this 51) fun x5 =>
          if ¬ x5 = 90 then
            iP (Sum.inl ())
          else
            iP (Sum.inr (Sum.inl ()))) iP)) (Sum.elim (fun s3 =>
        iA (16 * x1) fun y1 =>
        iA (9 + y1) fun y2 =>
        iB (iP y2) fun x6 =>
        iB (iGt this 46) fun x7 =>
        iB (iK 6 (iz_Model_kindWord p1)) fun r8 =>
        iB (iz_String_length r8) fun x9 =>
        iA (x7 + x9) fun y3 =>
        iB (iPt this 46 y3) fun _ =>
        iA (x6 + 0) fun y4 =>
        iB (iSt (qm_rf this 50) y4 p1) fun _ =>
        iB (iz_Model_readsSizes this x6 p1) fun x10 =>
        if ¬ x10 = 0 then
          iB (α := (Unit ⊕ (Unit ⊕ Int))) (
            if p1 = 4 then
              iP (Sum.inl ())
            else
              iB (iz_Model_readsWords this x6 p1) fun x12 =>
              if ¬ x12 = 0 then
                iP (Sum.inl ())
              else
                iP (Sum.inr (Sum.inr 0))) (Sum.elim (fun s11 =>
            iB (iGt this 51) fun x13 =>
            iA (x6 + 1) fun y5 =>
            iB (iLd (qm_rf this 50) y5) fun x14 =>
            iA (x13 + x14) fun y6 =>
            iB (iPt this 51 y6) fun _ =>
            iB (iLd (qm_rf this 50) 8) fun x15 =>
            iA (x15 + 1) fun y7 =>
            iB (iSt (qm_rf this 50) 8 y7) fun _ =>
            iP (Sum.inr 1)) iP)
        else
          iP (Sum.inr 0)) iP)) (Sum.elim (fun s2 =>
    iB (iGt this 46) fun x16 =>
    iB (iz_Model_fails this 3 x16) fun x17 =>
    iB (iZ x17) fun x18 =>
    iP x18) iP)
set_option maxRecDepth 20000 in
set_option maxHeartbeats 2000000 in
theorem is_Model_readsBlock {this : Nat} {p1 : Int32} {p1' : Int} (qp1 : p1.toInt = p1') : iS (jf_Model_readsBlock this p1) (iz_Model_readsBlock this p1') Int32.toInt := by
  subst qp1
  unfold jf_Model_readsBlock iz_Model_readsBlock
  refine is_B (V := Int32.toInt) (is_Ld tl_8) (fun x1 => ?_)
  refine is_E (V := id1) ?_ (fun s2 => ?_)
  ·
    refine is_if (ti_eq rfl tl_16) ?_ ?_
    ·
      exact is_P (pinl rfl)
    ·
      refine is_E (V := id1) ?_ (fun s3 => ?_)
      ·
        refine is_E (V := id1) ?_ (fun s4 => ?_)
        ·
          refine is_if (ti_eq rfl tl_1) ?_ ?_
          ·
            exact is_P (pinl rfl)
          ·
            refine is_if (ti_not (ti_eq rfl tl_2)) ?_ ?_
            ·
              exact is_P (pinr (pinl rfl))
            ·
              exact is_P (pinl rfl)
        ·
          refine is_B (V := Int32.toInt) (is_Gt rfl) (fun x5 => ?_)
          refine is_if (ti_not (ti_eq rfl tl_90)) ?_ ?_
          ·
            exact is_P (pinl rfl)
          ·
            exact is_P (pinr (pinl rfl))
      ·
        refine is_A (fun h1 => ?_)
        refine is_A (fun h2 => ?_)
        refine is_B (V := Int32.toInt) (is_P (ti_add tl_9 (ti_mul tl_16 rfl h1) h2)) (fun x6 => ?_)
        refine is_B (V := Int32.toInt) (is_Gt rfl) (fun x7 => ?_)
        refine is_B (V := id1) (is_K (is_Model_kindWord rfl)) (fun r8 => ?_)
        refine is_B (V := Int32.toInt) (is_String_length) (fun x9 => ?_)
        refine is_A (fun h3 => ?_)
        refine is_B (V := id1) (is_Pt rfl (ti_add rfl rfl h3)) (fun _ => ?_)
        refine is_A (fun h4 => ?_)
        refine is_B (V := id1) (is_St (ti_add rfl tl_0 h4) rfl) (fun _ => ?_)
        refine is_B (V := Int32.toInt) (is_Model_readsSizes rfl rfl) (fun x10 => ?_)
        refine is_if (ti_not (ti_eq rfl tl_0)) ?_ ?_
        ·
          refine is_E (V := id1) ?_ (fun s11 => ?_)
          ·
            refine is_if (ti_eq rfl tl_4) ?_ ?_
            ·
              exact is_P (pinl rfl)
            ·
              refine is_B (V := Int32.toInt) (is_Model_readsWords rfl rfl) (fun x12 => ?_)
              refine is_if (ti_not (ti_eq rfl tl_0)) ?_ ?_
              ·
                exact is_P (pinl rfl)
              ·
                exact is_P (pinr (pinr tl_0))
          ·
            refine is_B (V := Int32.toInt) (is_Gt rfl) (fun x13 => ?_)
            refine is_A (fun h5 => ?_)
            refine is_B (V := Int32.toInt) (is_Ld (ti_add rfl tl_1 h5)) (fun x14 => ?_)
            refine is_A (fun h6 => ?_)
            refine is_B (V := id1) (is_Pt rfl (ti_add rfl rfl h6)) (fun _ => ?_)
            refine is_B (V := Int32.toInt) (is_Ld tl_8) (fun x15 => ?_)
            refine is_A (fun h7 => ?_)
            refine is_B (V := id1) (is_St tl_8 (ti_add rfl tl_1 h7)) (fun _ => ?_)
            exact is_P (pinr tl_1)
        ·
          exact is_P (pinr tl_0)
  ·
    refine is_B (V := Int32.toInt) (is_Gt rfl) (fun x16 => ?_)
    refine is_B (V := Int32.toInt) (is_Model_fails tl_3 rfl) (fun x17 => ?_)
    refine is_B (V := Int32.toInt) (is_Z rfl) (fun x18 => ?_)
    exact is_P rfl
noncomputable def iz_Model_readsPart (this : Nat) : iM Int :=
  iB (α := (Unit ⊕ Int)) (
    iW (S := Int) (α := (Unit ⊕ Int)) (fun s2 =>
      if 8 ≤ s2 then
        iP (Sum.inr (Sum.inl ()))
      else
        iB (iK 6 (iz_Model_settingWord s2)) fun r3 =>
        iB (iz_Model_isWord this r3) fun x4 =>
        if x4 = 0 then
          iA (s2 + 1) fun y1 =>
          iB (iP y1) fun x5 =>
          iP (Sum.inl x5)
        else
          iB (iz_Model_readsSetting this s2) fun x6 =>
          iB (iZ x6) fun x7 =>
          iP (Sum.inr (Sum.inr x7))) 0) (Sum.elim (fun s1 =>
    iB (α := (Unit ⊕ Int)) (
      iW (S := Int) (α := (Unit ⊕ Int)) (fun s9 =>
        if 4 < s9 then
          iP (Sum.inr (Sum.inl ()))
        else
          iB (iK 6 (iz_Model_kindWord s9)) fun r10 =>
          iB (iz_Model_isWord this r10) fun x11 =>
          if x11 = 0 then
            iA (s9 + 1) fun y2 =>
            iB (iP y2) fun x12 =>
            iP (Sum.inl x12)
          else
            iB (iz_Model_readsBlock this s9) fun x13 =>
            iB (iZ x13) fun x14 =>
            iP (Sum.inr (Sum.inr x14))) 0) (Sum.elim (fun s8 =>
      iB (iGt this 46) fun x15 =>
      iB (iz_Model_fails this 1 x15) fun x16 =>
      iB (iZ x16) fun x17 =>
      iP x17) iP)) iP)
set_option maxRecDepth 20000 in
set_option maxHeartbeats 2000000 in
theorem is_Model_readsPart {this : Nat} : iS (jf_Model_readsPart this) (iz_Model_readsPart this) Int32.toInt := by
  unfold jf_Model_readsPart iz_Model_readsPart
  refine is_E (V := id1) ?_ (fun s1 => ?_)
  ·
    refine is_W (V := Int32.toInt) (W := (is2 id1 Int32.toInt)) (fun s2 => ?_) tl_0
    refine is_if (ti_le tl_8 rfl) ?_ ?_
    ·
      exact is_P (pinr (pinl rfl))
    ·
      refine is_B (V := id1) (is_K (is_Model_settingWord rfl)) (fun r3 => ?_)
      refine is_B (V := Int32.toInt) (is_Model_isWord) (fun x4 => ?_)
      refine is_if (ti_eq rfl tl_0) ?_ ?_
      ·
        refine is_A (fun h1 => ?_)
        refine is_B (V := Int32.toInt) (is_P (ti_add rfl tl_1 h1)) (fun x5 => ?_)
        exact is_P (pinl rfl)
      ·
        refine is_B (V := Int32.toInt) (is_Model_readsSetting rfl) (fun x6 => ?_)
        refine is_B (V := Int32.toInt) (is_Z rfl) (fun x7 => ?_)
        exact is_P (pinr (pinr rfl))
  ·
    refine is_E (V := id1) ?_ (fun s8 => ?_)
    ·
      refine is_W (V := Int32.toInt) (W := (is2 id1 Int32.toInt)) (fun s9 => ?_) tl_0
      refine is_if (ti_lt tl_4 rfl) ?_ ?_
      ·
        exact is_P (pinr (pinl rfl))
      ·
        refine is_B (V := id1) (is_K (is_Model_kindWord rfl)) (fun r10 => ?_)
        refine is_B (V := Int32.toInt) (is_Model_isWord) (fun x11 => ?_)
        refine is_if (ti_eq rfl tl_0) ?_ ?_
        ·
          refine is_A (fun h2 => ?_)
          refine is_B (V := Int32.toInt) (is_P (ti_add rfl tl_1 h2)) (fun x12 => ?_)
          exact is_P (pinl rfl)
        ·
          refine is_B (V := Int32.toInt) (is_Model_readsBlock rfl) (fun x13 => ?_)
          refine is_B (V := Int32.toInt) (is_Z rfl) (fun x14 => ?_)
          exact is_P (pinr (pinr rfl))
    ·
      refine is_B (V := Int32.toInt) (is_Gt rfl) (fun x15 => ?_)
      refine is_B (V := Int32.toInt) (is_Model_fails tl_1 rfl) (fun x16 => ?_)
      refine is_B (V := Int32.toInt) (is_Z rfl) (fun x17 => ?_)
      exact is_P rfl
noncomputable def iz_Model_readsAll (this : Nat) : iM Int :=
  iB (iz_Model_begins (qm_rf this 50)) fun _ =>
  iB (iPt this 46 0) fun _ =>
  iB (iPt this 51 0) fun _ =>
  iB (iPt this 52 0) fun _ =>
  iB (iz_Model_nextByte this) fun x1 =>
  if ¬ x1 = (-1) then
    iB (iz_Model_readsPart this) fun x2 =>
    iB (α := Int) (
      iW (S := Int) (α := Int) (fun s4 =>
        if s4 = 0 then
          iP (Sum.inr s4)
        else
          iB (iz_Model_nextByte this) fun x5 =>
          if ¬ x5 = 59 then
            iP (Sum.inr s4)
          else
            iB (iGt this 46) fun x6 =>
            iA (x6 + 1) fun y1 =>
            iB (iPt this 46 y1) fun _ =>
            iB (iz_Model_readsPart this) fun x7 =>
            iP (Sum.inl x7)) x2) fun s3 =>
    if s3 = 0 then
      iP 0
    else
      iB (iz_Model_nextByte this) fun x8 =>
      if x8 = (-1) then
        iP 1
      else
        iB (iGt this 46) fun x9 =>
        iB (iz_Model_fails this 1 x9) fun x10 =>
        if x10 = 0 then
          iP 0
        else
          iP 1
  else
    iP 1
set_option maxRecDepth 20000 in
set_option maxHeartbeats 2000000 in
theorem is_Model_readsAll {this : Nat} : iS (jf_Model_readsAll this) (iz_Model_readsAll this) Int32.toInt := by
  unfold jf_Model_readsAll iz_Model_readsAll
  refine is_B (V := id1) (is_Model_begins) (fun _ => ?_)
  refine is_B (V := id1) (is_Pt rfl tl_0) (fun _ => ?_)
  refine is_B (V := id1) (is_Pt rfl tl_0) (fun _ => ?_)
  refine is_B (V := id1) (is_Pt rfl tl_0) (fun _ => ?_)
  refine is_B (V := Int32.toInt) (is_Model_nextByte) (fun x1 => ?_)
  refine is_if (ti_not (ti_eq rfl tl_m1)) ?_ ?_
  ·
    refine is_B (V := Int32.toInt) (is_Model_readsPart) (fun x2 => ?_)
    refine is_B (V := Int32.toInt) ?_ (fun s3 => ?_)
    ·
      refine is_W (V := Int32.toInt) (W := Int32.toInt) (fun s4 => ?_) rfl
      refine is_if (ti_eq rfl tl_0) ?_ ?_
      ·
        exact is_P (pinr rfl)
      ·
        refine is_B (V := Int32.toInt) (is_Model_nextByte) (fun x5 => ?_)
        refine is_if (ti_not (ti_eq rfl tl_59)) ?_ ?_
        ·
          exact is_P (pinr rfl)
        ·
          refine is_B (V := Int32.toInt) (is_Gt rfl) (fun x6 => ?_)
          refine is_A (fun h1 => ?_)
          refine is_B (V := id1) (is_Pt rfl (ti_add rfl tl_1 h1)) (fun _ => ?_)
          refine is_B (V := Int32.toInt) (is_Model_readsPart) (fun x7 => ?_)
          exact is_P (pinl rfl)
    refine is_if (ti_eq rfl tl_0) ?_ ?_
    ·
      exact is_P tl_0
    ·
      refine is_B (V := Int32.toInt) (is_Model_nextByte) (fun x8 => ?_)
      refine is_if (ti_eq rfl tl_m1) ?_ ?_
      ·
        exact is_P tl_1
      ·
        refine is_B (V := Int32.toInt) (is_Gt rfl) (fun x9 => ?_)
        refine is_B (V := Int32.toInt) (is_Model_fails tl_1 rfl) (fun x10 => ?_)
        refine is_if (ti_eq rfl tl_0) ?_ ?_
        ·
          exact is_P tl_0
        ·
          exact is_P tl_1
  ·
    exact is_P tl_1
noncomputable def iz_Model_tell (this : Nat) : iM Int :=
  iB (iz_Model_readsAll this) fun x1 =>
  iB (iPt this 45 0) fun _ =>
  if ¬ x1 = 0 then
    iB (α := Unit) (
      iW (S := Int) (α := Unit) (fun s3 =>
        if 265 ≤ s3 then
          iP (Sum.inr ())
        else
          iB (iLd (qm_rf this 50) s3) fun x4 =>
          iB (iSt (qm_rf this 0) s3 x4) fun _ =>
          iA (s3 + 1) fun y1 =>
          iB (iP y1) fun x5 =>
          iP (Sum.inl x5)) 0) fun s2 =>
    iB (iPt this 2 0) fun _ =>
    iB (iz_Model_lays this) fun _ =>
    iB (iGt this 13) fun x6 =>
    iP x6
  else
    iB (iGt this 47) fun x7 =>
    iA ((-2) - x7) fun y2 =>
    iP y2
set_option maxRecDepth 20000 in
set_option maxHeartbeats 2000000 in
theorem is_Model_tell {this : Nat} : iS (jf_Model_tell this) (iz_Model_tell this) Int32.toInt := by
  unfold jf_Model_tell iz_Model_tell
  refine is_B (V := Int32.toInt) (is_Model_readsAll) (fun x1 => ?_)
  refine is_B (V := id1) (is_Pt rfl tl_0) (fun _ => ?_)
  refine is_if (ti_not (ti_eq rfl tl_0)) ?_ ?_
  ·
    refine is_B (V := id1) ?_ (fun s2 => ?_)
    ·
      refine is_W (V := Int32.toInt) (W := id1) (fun s3 => ?_) tl_0
      refine is_if (ti_le tl_265 rfl) ?_ ?_
      ·
        exact is_P (pinr rfl)
      ·
        refine is_B (V := Int32.toInt) (is_Ld rfl) (fun x4 => ?_)
        refine is_B (V := id1) (is_St rfl rfl) (fun _ => ?_)
        refine is_A (fun h1 => ?_)
        refine is_B (V := Int32.toInt) (is_P (ti_add rfl tl_1 h1)) (fun x5 => ?_)
        exact is_P (pinl rfl)
    refine is_B (V := id1) (is_Pt rfl tl_0) (fun _ => ?_)
    refine is_B (V := id1) (is_Model_lays) (fun _ => ?_)
    refine is_B (V := Int32.toInt) (is_Gt rfl) (fun x6 => ?_)
    exact is_P rfl
  ·
    refine is_B (V := Int32.toInt) (is_Gt rfl) (fun x7 => ?_)
    refine is_A (fun h2 => ?_)
    exact is_P (ti_sub tl_m2 rfl h2)
