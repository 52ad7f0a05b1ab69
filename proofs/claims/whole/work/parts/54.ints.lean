noncomputable def iz_Model_keepsAside (this : Nat) : iM Unit :=
  iB (α := Unit) (
    iW (S := Int) (α := Unit) (fun s2 =>
      if 265 ≤ s2 then
        iP (Sum.inr ())
      else
        iB (iLd (qm_rf this 0) s2) fun x3 =>
        iB (iSt (qm_rf this 5) s2 x3) fun _ =>
        iA (s2 + 1) fun y1 =>
        iB (iP y1) fun x4 =>
        iP (Sum.inl x4)) 0) fun s1 =>
  iP ()
set_option maxRecDepth 20000 in
set_option maxHeartbeats 2000000 in
theorem is_Model_keepsAside {this : Nat} : iS (jf_Model_keepsAside this) (iz_Model_keepsAside this) id1 := by
  unfold jf_Model_keepsAside iz_Model_keepsAside
  refine is_B (V := id1) ?_ (fun s1 => ?_)
  ·
    refine is_W (V := Int32.toInt) (W := id1) (fun s2 => ?_) tl_0
    refine is_if (ti_le tl_265 rfl) ?_ ?_
    ·
      exact is_P (pinr rfl)
    ·
      refine is_B (V := Int32.toInt) (is_Ld rfl) (fun x3 => ?_)
      refine is_B (V := id1) (is_St rfl rfl) (fun _ => ?_)
      refine is_A (fun h1 => ?_)
      refine is_B (V := Int32.toInt) (is_P (ti_add rfl tl_1 h1)) (fun x4 => ?_)
      exact is_P (pinl rfl)
  exact is_P rfl
noncomputable def iz_Model_putsBack (this : Nat) : iM Unit :=
  iB (α := Unit) (
    iW (S := Int) (α := Unit) (fun s2 =>
      if 265 ≤ s2 then
        iP (Sum.inr ())
      else
        iB (iLd (qm_rf this 5) s2) fun x3 =>
        iB (iSt (qm_rf this 0) s2 x3) fun _ =>
        iA (s2 + 1) fun y1 =>
        iB (iP y1) fun x4 =>
        iP (Sum.inl x4)) 0) fun s1 =>
  iP ()
set_option maxRecDepth 20000 in
set_option maxHeartbeats 2000000 in
theorem is_Model_putsBack {this : Nat} : iS (jf_Model_putsBack this) (iz_Model_putsBack this) id1 := by
  unfold jf_Model_putsBack iz_Model_putsBack
  refine is_B (V := id1) ?_ (fun s1 => ?_)
  ·
    refine is_W (V := Int32.toInt) (W := id1) (fun s2 => ?_) tl_0
    refine is_if (ti_le tl_265 rfl) ?_ ?_
    ·
      exact is_P (pinr rfl)
    ·
      refine is_B (V := Int32.toInt) (is_Ld rfl) (fun x3 => ?_)
      refine is_B (V := id1) (is_St rfl rfl) (fun _ => ?_)
      refine is_A (fun h1 => ?_)
      refine is_B (V := Int32.toInt) (is_P (ti_add rfl tl_1 h1)) (fun x4 => ?_)
      exact is_P (pinl rfl)
  exact is_P rfl
noncomputable def iz_Model_trial (this : Nat) (p1 : Int) (p2 : Int) : iM Int :=
  iB (iz_Model_isSetting p1 p2) fun x1 =>
  if ¬ x1 = 0 then
    iB (iz_Model_keepsAside this) fun _ =>
    iB (iSt (qm_rf this 0) p1 p2) fun _ =>
    iB (iz_Model_pours this) fun x2 =>
    iB (iz_Model_putsBack this) fun _ =>
    iP x2
  else
    iP (-1)
set_option maxRecDepth 20000 in
set_option maxHeartbeats 2000000 in
theorem is_Model_trial {this : Nat} {p1 : Int32} {p1' : Int} {p2 : Int32} {p2' : Int} (qp1 : p1.toInt = p1') (qp2 : p2.toInt = p2') : iS (jf_Model_trial this p1 p2) (iz_Model_trial this p1' p2') Int32.toInt := by
  subst qp1 qp2
  unfold jf_Model_trial iz_Model_trial
  refine is_B (V := Int32.toInt) (is_Model_isSetting rfl rfl) (fun x1 => ?_)
  refine is_if (ti_not (ti_eq rfl tl_0)) ?_ ?_
  ·
    refine is_B (V := id1) (is_Model_keepsAside) (fun _ => ?_)
    refine is_B (V := id1) (is_St rfl rfl) (fun _ => ?_)
    refine is_B (V := Int32.toInt) (is_Model_pours) (fun x2 => ?_)
    refine is_B (V := id1) (is_Model_putsBack) (fun _ => ?_)
    exact is_P rfl
  ·
    exact is_P tl_m1
noncomputable def iz_Model_loosens (this : Nat) (p1 : Int) : iM Unit :=
  iB (α := Unit) (
    if ¬ p1 = 0 then
      if ¬ p1 = 1 then
        if ¬ p1 = 2 then
          iP ()
        else
          iB (iSt (qm_rf this 0) 4 0) fun _ =>
          iP ()
      else
        iB (iSt (qm_rf this 0) 3 1) fun _ =>
        iP ()
    else
      iB (iSt (qm_rf this 0) 2 1) fun _ =>
      iP ()) fun s1 =>
  iB (α := Unit) (
    iW (S := Int) (α := Unit) (fun s3 =>
      iB (iz_Model_blocks this) fun x4 =>
      if x4 ≤ s3 then
        iP (Sum.inr ())
      else
        if p1 ≤ 2 then
          iP (Sum.inr ())
        else
          iB (α := Int) (
            if ¬ p1 = 3 then
              iP 5
            else
              iP 4) fun s5 =>
          iA (16 * s3) fun y1 =>
          iA (9 + y1) fun y2 =>
          iA (y2 + s5) fun y3 =>
          iB (iSt (qm_rf this 0) y3 0) fun _ =>
          iA (s3 + 1) fun y4 =>
          iB (iP y4) fun x6 =>
          iP (Sum.inl x6)) 0) fun s2 =>
  iP ()
set_option maxRecDepth 20000 in
set_option maxHeartbeats 2000000 in
theorem is_Model_loosens {this : Nat} {p1 : Int32} {p1' : Int} (qp1 : p1.toInt = p1') : iS (jf_Model_loosens this p1) (iz_Model_loosens this p1') id1 := by
  subst qp1
  unfold jf_Model_loosens iz_Model_loosens
  refine is_B (V := id1) ?_ (fun s1 => ?_)
  ·
    refine is_if (ti_not (ti_eq rfl tl_0)) ?_ ?_
    ·
      refine is_if (ti_not (ti_eq rfl tl_1)) ?_ ?_
      ·
        refine is_if (ti_not (ti_eq rfl tl_2)) ?_ ?_
        ·
          exact is_P rfl
        ·
          refine is_B (V := id1) (is_St tl_4 tl_0) (fun _ => ?_)
          exact is_P rfl
      ·
        refine is_B (V := id1) (is_St tl_3 tl_1) (fun _ => ?_)
        exact is_P rfl
    ·
      refine is_B (V := id1) (is_St tl_2 tl_1) (fun _ => ?_)
      exact is_P rfl
  refine is_B (V := id1) ?_ (fun s2 => ?_)
  ·
    refine is_W (V := Int32.toInt) (W := id1) (fun s3 => ?_) tl_0
    refine is_B (V := Int32.toInt) (is_Model_blocks) (fun x4 => ?_)
    refine is_if (ti_le rfl rfl) ?_ ?_
    ·
      exact is_P (pinr rfl)
    ·
      refine is_if (ti_le rfl tl_2) ?_ ?_
      ·
        exact is_P (pinr rfl)
      ·
        refine is_B (V := Int32.toInt) ?_ (fun s5 => ?_)
        ·
          refine is_if (ti_not (ti_eq rfl tl_3)) ?_ ?_
          ·
            exact is_P tl_5
          ·
            exact is_P tl_4
        refine is_A (fun h1 => ?_)
        refine is_A (fun h2 => ?_)
        refine is_A (fun h3 => ?_)
        refine is_B (V := id1) (is_St (ti_add (ti_add tl_9 (ti_mul tl_16 rfl h1) h2) rfl h3) tl_0) (fun _ => ?_)
        refine is_A (fun h4 => ?_)
        refine is_B (V := Int32.toInt) (is_P (ti_add rfl tl_1 h4)) (fun x6 => ?_)
        exact is_P (pinl rfl)
  exact is_P rfl
noncomputable def iz_Model_costs (this : Nat) (p1 : Int) (p2 : Int) : iM Int :=
  iB (iz_Model_lays this) fun _ =>
  iB (iz_Model_isSection this p1) fun x1 =>
  if x1 = 0 then
    iP (-1)
  else
    iB (iz_Model_in p2 0 4) fun x2 =>
    if ¬ x2 = 0 then
      iB (iz_Model_leastOf this p1) fun x3 =>
      if 0 ≤ x3 then
        iB (iz_Model_keepsAside this) fun _ =>
        iB (iz_Model_loosens this p2) fun _ =>
        iB (iz_Model_lays this) fun _ =>
        iB (iz_Model_leastOf this p1) fun x4 =>
        iB (iz_Model_putsBack this) fun _ =>
        iA (x3 - x4) fun y1 =>
        iP y1
      else
        iP (-2)
    else
      iP (-1)
set_option maxRecDepth 20000 in
set_option maxHeartbeats 2000000 in
theorem is_Model_costs {this : Nat} {p1 : Int32} {p1' : Int} {p2 : Int32} {p2' : Int} (qp1 : p1.toInt = p1') (qp2 : p2.toInt = p2') : iS (jf_Model_costs this p1 p2) (iz_Model_costs this p1' p2') Int32.toInt := by
  subst qp1 qp2
  unfold jf_Model_costs iz_Model_costs
  refine is_B (V := id1) (is_Model_lays) (fun _ => ?_)
  refine is_B (V := Int32.toInt) (is_Model_isSection rfl) (fun x1 => ?_)
  refine is_if (ti_eq rfl tl_0) ?_ ?_
  ·
    exact is_P tl_m1
  ·
    refine is_B (V := Int32.toInt) (is_Model_in (ti_64 rfl) t64_0 t64_4) (fun x2 => ?_)
    refine is_if (ti_not (ti_eq rfl tl_0)) ?_ ?_
    ·
      refine is_B (V := Int32.toInt) (is_Model_leastOf rfl) (fun x3 => ?_)
      refine is_if (ti_le tl_0 rfl) ?_ ?_
      ·
        refine is_B (V := id1) (is_Model_keepsAside) (fun _ => ?_)
        refine is_B (V := id1) (is_Model_loosens rfl) (fun _ => ?_)
        refine is_B (V := id1) (is_Model_lays) (fun _ => ?_)
        refine is_B (V := Int32.toInt) (is_Model_leastOf rfl) (fun x4 => ?_)
        refine is_B (V := id1) (is_Model_putsBack) (fun _ => ?_)
        refine is_A (fun h1 => ?_)
        exact is_P (ti_sub rfl rfl h1)
      ·
        exact is_P tl_m2
    ·
      exact is_P tl_m1
noncomputable def iz_Model_tall (this : Nat) (p1 : Int) : iM Int :=
  iB (iz_Model_in p1 0 40) fun x1 =>
  if ¬ x1 = 0 then
    iB (iz_Model_keepsAside this) fun _ =>
    iB (α := Int) (
      iW (S := (Int × Int)) (α := Int) (fun s3 =>
        if 400 < s3.2 then
          iP (Sum.inr s3.1)
        else
          if ¬ s3.1 = (-2) then
            iP (Sum.inr s3.1)
          else
            iB (iSt (qm_rf this 0) 1 s3.2) fun _ =>
            iB (iz_Model_pours this) fun x4 =>
            iB (iz_Model_in x4 0 p1) fun x5 =>
            iB (α := Int) (
              if x5 = 0 then
                iP (-2)
              else
                iP s3.2) fun s6 =>
            iA (s3.2 + 1) fun y1 =>
            iB (iP y1) fun x7 =>
            iP (Sum.inl (s6, x7))) ((-2), 10)) fun s2 =>
    iB (iz_Model_putsBack this) fun _ =>
    iP s2
  else
    iP (-1)
set_option maxRecDepth 20000 in
set_option maxHeartbeats 2000000 in
theorem is_Model_tall {this : Nat} {p1 : Int32} {p1' : Int} (qp1 : p1.toInt = p1') : iS (jf_Model_tall this p1) (iz_Model_tall this p1') Int32.toInt := by
  subst qp1
  unfold jf_Model_tall iz_Model_tall
  refine is_B (V := Int32.toInt) (is_Model_in (ti_64 rfl) t64_0 t64_40) (fun x1 => ?_)
  refine is_if (ti_not (ti_eq rfl tl_0)) ?_ ?_
  ·
    refine is_B (V := id1) (is_Model_keepsAside) (fun _ => ?_)
    refine is_B (V := Int32.toInt) ?_ (fun s2 => ?_)
    ·
      refine is_W (V := (ip2 Int32.toInt Int32.toInt)) (W := Int32.toInt) (fun s3 => ?_) (ppair tl_m2 tl_10)
      refine is_if (ti_lt tl_400 rfl) ?_ ?_
      ·
        exact is_P (pinr rfl)
      ·
        refine is_if (ti_not (ti_eq rfl tl_m2)) ?_ ?_
        ·
          exact is_P (pinr rfl)
        ·
          refine is_B (V := id1) (is_St tl_1 rfl) (fun _ => ?_)
          refine is_B (V := Int32.toInt) (is_Model_pours) (fun x4 => ?_)
          refine is_B (V := Int32.toInt) (is_Model_in (ti_64 rfl) t64_0 (ti_64 rfl)) (fun x5 => ?_)
          refine is_B (V := Int32.toInt) ?_ (fun s6 => ?_)
          ·
            refine is_if (ti_eq rfl tl_0) ?_ ?_
            ·
              exact is_P tl_m2
            ·
              exact is_P rfl
          refine is_A (fun h1 => ?_)
          refine is_B (V := Int32.toInt) (is_P (ti_add rfl tl_1 h1)) (fun x7 => ?_)
          exact is_P (pinl (ppair rfl rfl))
    refine is_B (V := id1) (is_Model_putsBack) (fun _ => ?_)
    exact is_P rfl
  ·
    exact is_P tl_m1
noncomputable def iz_Model_looseOf (this : Nat) (p1 : Int) : iM Int :=
  iB (iLd (qm_rf this 30) p1) fun x1 =>
  iB (iLd (qm_rf this 26) p1) fun x2 =>
  iB (iLd (qm_rf this 27) p1) fun x3 =>
  iB (iz_Model_textOf this x2 x3) fun x4 =>
  iB (iz_Model_isNoted this p1) fun x5 =>
  iB (α := Int) (
    if x5 = 0 then
      iP 0
    else
      iB (iLd (qm_rf this 0) 6) fun x7 =>
      iP x7) fun s6 =>
  iB (iLd (qm_rf this 0) 5) fun x8 =>
  iB (iz_Model_linesIn this p1) fun x9 =>
  iA (x1 - x4) fun y1 =>
  iA (y1 - s6) fun y2 =>
  iA (x8 * x9) fun y3 =>
  iA (y2 - y3) fun y4 =>
  iP y4
set_option maxRecDepth 20000 in
set_option maxHeartbeats 2000000 in
theorem is_Model_looseOf {this : Nat} {p1 : Int32} {p1' : Int} (qp1 : p1.toInt = p1') : iS (jf_Model_looseOf this p1) (iz_Model_looseOf this p1') Int32.toInt := by
  subst qp1
  unfold jf_Model_looseOf iz_Model_looseOf
  refine is_B (V := Int32.toInt) (is_Ld rfl) (fun x1 => ?_)
  refine is_B (V := Int32.toInt) (is_Ld rfl) (fun x2 => ?_)
  refine is_B (V := Int32.toInt) (is_Ld rfl) (fun x3 => ?_)
  refine is_B (V := Int32.toInt) (is_Model_textOf rfl rfl) (fun x4 => ?_)
  refine is_B (V := Int32.toInt) (is_Model_isNoted rfl) (fun x5 => ?_)
  refine is_B (V := Int32.toInt) ?_ (fun s6 => ?_)
  ·
    refine is_if (ti_eq rfl tl_0) ?_ ?_
    ·
      exact is_P tl_0
    ·
      refine is_B (V := Int32.toInt) (is_Ld tl_6) (fun x7 => ?_)
      exact is_P rfl
  refine is_B (V := Int32.toInt) (is_Ld tl_5) (fun x8 => ?_)
  refine is_B (V := Int32.toInt) (is_Model_linesIn rfl) (fun x9 => ?_)
  refine is_A (fun h1 => ?_)
  refine is_A (fun h2 => ?_)
  refine is_A (fun h3 => ?_)
  refine is_A (fun h4 => ?_)
  exact is_P (ti_sub (ti_sub (ti_sub rfl rfl h1) rfl h2) (ti_mul rfl rfl h3) h4)
noncomputable def iz_Model_loose (this : Nat) (p1 : Int) : iM Int :=
  iB (iz_Model_in p1 0 2) fun x1 =>
  if ¬ x1 = 0 then
    iB (iz_Model_pours this) fun x2 =>
    if 0 ≤ x2 then
      iB (α := (Int × (Int × Int))) (
        iW (S := (Int × (Int × (Int × Int)))) (α := (Int × (Int × Int))) (fun s4 =>
          iB (iGt this 32) fun x5 =>
          if x5 ≤ s4.2.2.2 then
            iP (Sum.inr (s4.1, (s4.2.1, s4.2.2.1)))
          else
            iB (iz_Model_looseOf this s4.2.2.2) fun x6 =>
            iA (s4.1 + x6) fun y1 =>
            iB (iP y1) fun x7 =>
            iB (α := (Int × Int)) (
              iB (α := (Unit ⊕ (Int × Int))) (
                if s4.2.2.1 = (-2) then
                  iP (Sum.inl ())
                else
                  if s4.2.1 < x6 then
                    iP (Sum.inl ())
                  else
                    iP (Sum.inr (s4.2.1, s4.2.2.1))) (Sum.elim (fun s9 =>
                iP (x6, s4.2.2.2)) iP)) fun s8 =>
            iA (s4.2.2.2 + 1) fun y2 =>
            iB (iP y2) fun x10 =>
            iP (Sum.inl (x7, (s8.1, (s8.2, x10))))) (0, (0, ((-2), 0)))) fun s3 =>
      if ¬ p1 = 0 then
        if ¬ p1 = 1 then
          iP s3.2.2
        else
          iP s3.2.1
      else
        iP s3.1
    else
      iP x2
  else
    iP (-1)
set_option maxRecDepth 20000 in
set_option maxHeartbeats 2000000 in
theorem is_Model_loose {this : Nat} {p1 : Int32} {p1' : Int} (qp1 : p1.toInt = p1') : iS (jf_Model_loose this p1) (iz_Model_loose this p1') Int32.toInt := by
  subst qp1
  unfold jf_Model_loose iz_Model_loose
  refine is_B (V := Int32.toInt) (is_Model_in (ti_64 rfl) t64_0 t64_2) (fun x1 => ?_)
  refine is_if (ti_not (ti_eq rfl tl_0)) ?_ ?_
  ·
    refine is_B (V := Int32.toInt) (is_Model_pours) (fun x2 => ?_)
    refine is_if (ti_le tl_0 rfl) ?_ ?_
    ·
      refine is_B (V := (ip2 Int32.toInt (ip2 Int32.toInt Int32.toInt))) ?_ (fun s3 => ?_)
      ·
        refine is_W (V := (ip2 Int32.toInt (ip2 Int32.toInt (ip2 Int32.toInt Int32.toInt)))) (W := (ip2 Int32.toInt (ip2 Int32.toInt Int32.toInt))) (fun s4 => ?_) (ppair tl_0 (ppair tl_0 (ppair tl_m2 tl_0)))
        refine is_B (V := Int32.toInt) (is_Gt rfl) (fun x5 => ?_)
        refine is_if (ti_le rfl rfl) ?_ ?_
        ·
          exact is_P (pinr (ppair rfl (ppair rfl rfl)))
        ·
          refine is_B (V := Int32.toInt) (is_Model_looseOf rfl) (fun x6 => ?_)
          refine is_A (fun h1 => ?_)
          refine is_B (V := Int32.toInt) (is_P (ti_add rfl rfl h1)) (fun x7 => ?_)
          refine is_B (V := (ip2 Int32.toInt Int32.toInt)) ?_ (fun s8 => ?_)
          ·
            refine is_E (V := id1) ?_ (fun s9 => ?_)
            ·
              refine is_if (ti_eq rfl tl_m2) ?_ ?_
              ·
                exact is_P (pinl rfl)
              ·
                refine is_if (ti_lt rfl rfl) ?_ ?_
                ·
                  exact is_P (pinl rfl)
                ·
                  exact is_P (pinr (ppair rfl rfl))
            ·
              exact is_P (ppair rfl rfl)
          refine is_A (fun h2 => ?_)
          refine is_B (V := Int32.toInt) (is_P (ti_add rfl tl_1 h2)) (fun x10 => ?_)
          exact is_P (pinl (ppair rfl (ppair rfl (ppair rfl rfl))))
      refine is_if (ti_not (ti_eq rfl tl_0)) ?_ ?_
      ·
        refine is_if (ti_not (ti_eq rfl tl_1)) ?_ ?_
        ·
          exact is_P rfl
        ·
          exact is_P rfl
      ·
        exact is_P rfl
    ·
      exact is_P rfl
  ·
    exact is_P tl_m1
noncomputable def iz_Model_bits (p1 : Int) : iM Int :=
  iB (α := Int) (
    iW (S := (Int × Int)) (α := Int) (fun s2 =>
      if 18 ≤ s2.2 then
        iP (Sum.inr s2.1)
      else
        iA (s2.1 + (ibAnd (ibShr p1 (ibAnd s2.2 31)) 1)) fun y1 =>
        iB (iP y1) fun x3 =>
        iA (s2.2 + 1) fun y2 =>
        iB (iP y2) fun x4 =>
        iP (Sum.inl (x3, x4))) (0, 0)) fun s1 =>
  iP s1
set_option maxRecDepth 20000 in
set_option maxHeartbeats 2000000 in
theorem is_Model_bits {p1 : Int32} {p1' : Int} (qp1 : p1.toInt = p1') : iS (jf_Model_bits p1) (iz_Model_bits p1') Int32.toInt := by
  subst qp1
  unfold jf_Model_bits iz_Model_bits
  refine is_B (V := Int32.toInt) ?_ (fun s1 => ?_)
  ·
    refine is_W (V := (ip2 Int32.toInt Int32.toInt)) (W := Int32.toInt) (fun s2 => ?_) (ppair tl_0 tl_0)
    refine is_if (ti_le tl_18 rfl) ?_ ?_
    ·
      exact is_P (pinr rfl)
    ·
      refine is_A (fun h1 => ?_)
      refine is_B (V := Int32.toInt) (is_P (ti_add rfl (ti_and (ti_shr rfl (ti_and rfl tl_31)) tl_1) h1)) (fun x3 => ?_)
      refine is_A (fun h2 => ?_)
      refine is_B (V := Int32.toInt) (is_P (ti_add rfl tl_1 h2)) (fun x4 => ?_)
      exact is_P (pinl (ppair rfl rfl))
  exact is_P rfl
noncomputable def iz_Model_sectionsOn (this : Nat) (p1 : Int) : iM Int :=
  iB (α := Int) (
    iW (S := (Int × Int)) (α := Int) (fun s2 =>
      iB (iGt this 32) fun x3 =>
      if x3 ≤ s2.2 then
        iP (Sum.inr s2.1)
      else
        iB (iLd (qm_rf this 23) s2.2) fun x4 =>
        iB (α := Int) (
          if ¬ x4 = p1 then
            iP 0
          else
            iB (iLd (qm_rf this 25) s2.2) fun x6 =>
            iP (ibShl 1 (ibAnd x6 31))) fun s5 =>
        iB (iP (ibOr s2.1 s5)) fun x7 =>
        iA (s2.2 + 1) fun y1 =>
        iB (iP y1) fun x8 =>
        iP (Sum.inl (x7, x8))) (0, 0)) fun s1 =>
  iB (iz_Model_bits s1) fun x9 =>
  iP x9
set_option maxRecDepth 20000 in
set_option maxHeartbeats 2000000 in
theorem is_Model_sectionsOn {this : Nat} {p1 : Int32} {p1' : Int} (qp1 : p1.toInt = p1') : iS (jf_Model_sectionsOn this p1) (iz_Model_sectionsOn this p1') Int32.toInt := by
  subst qp1
  unfold jf_Model_sectionsOn iz_Model_sectionsOn
  refine is_B (V := Int32.toInt) ?_ (fun s1 => ?_)
  ·
    refine is_W (V := (ip2 Int32.toInt Int32.toInt)) (W := Int32.toInt) (fun s2 => ?_) (ppair tl_0 tl_0)
    refine is_B (V := Int32.toInt) (is_Gt rfl) (fun x3 => ?_)
    refine is_if (ti_le rfl rfl) ?_ ?_
    ·
      exact is_P (pinr rfl)
    ·
      refine is_B (V := Int32.toInt) (is_Ld rfl) (fun x4 => ?_)
      refine is_B (V := Int32.toInt) ?_ (fun s5 => ?_)
      ·
        refine is_if (ti_not (ti_eq rfl rfl)) ?_ ?_
        ·
          exact is_P tl_0
        ·
          refine is_B (V := Int32.toInt) (is_Ld rfl) (fun x6 => ?_)
          exact is_P (ti_shl tl_1 (ti_and rfl tl_31))
      refine is_B (V := Int32.toInt) (is_P (ti_or rfl rfl)) (fun x7 => ?_)
      refine is_A (fun h1 => ?_)
      refine is_B (V := Int32.toInt) (is_P (ti_add rfl tl_1 h1)) (fun x8 => ?_)
      exact is_P (pinl (ppair rfl rfl))
  refine is_B (V := Int32.toInt) (is_Model_bits rfl) (fun x9 => ?_)
  exact is_P rfl
noncomputable def iz_Model_spansOn (this : Nat) (p1 : Int) : iM Int :=
  iB (α := Int) (
    iW (S := (Int × Int)) (α := Int) (fun s2 =>
      iB (iGt this 16) fun x3 =>
      if x3 ≤ s2.2 then
        iP (Sum.inr s2.1)
      else
        iB (iLd (qm_rf this 38) s2.2) fun x4 =>
        iB (α := Int) (
          if ¬ x4 = p1 then
            iP 0
          else
            iP 1) fun s5 =>
        iA (s2.1 + s5) fun y1 =>
        iB (iP y1) fun x6 =>
        iA (s2.2 + 1) fun y2 =>
        iB (iP y2) fun x7 =>
        iP (Sum.inl (x6, x7))) (0, 1)) fun s1 =>
  iP s1
set_option maxRecDepth 20000 in
set_option maxHeartbeats 2000000 in
theorem is_Model_spansOn {this : Nat} {p1 : Int32} {p1' : Int} (qp1 : p1.toInt = p1') : iS (jf_Model_spansOn this p1) (iz_Model_spansOn this p1') Int32.toInt := by
  subst qp1
  unfold jf_Model_spansOn iz_Model_spansOn
  refine is_B (V := Int32.toInt) ?_ (fun s1 => ?_)
  ·
    refine is_W (V := (ip2 Int32.toInt Int32.toInt)) (W := Int32.toInt) (fun s2 => ?_) (ppair tl_0 tl_1)
    refine is_B (V := Int32.toInt) (is_Gt rfl) (fun x3 => ?_)
    refine is_if (ti_le rfl rfl) ?_ ?_
    ·
      exact is_P (pinr rfl)
    ·
      refine is_B (V := Int32.toInt) (is_Ld rfl) (fun x4 => ?_)
      refine is_B (V := Int32.toInt) ?_ (fun s5 => ?_)
      ·
        refine is_if (ti_not (ti_eq rfl rfl)) ?_ ?_
        ·
          exact is_P tl_0
        ·
          exact is_P tl_1
      refine is_A (fun h1 => ?_)
      refine is_B (V := Int32.toInt) (is_P (ti_add rfl rfl h1)) (fun x6 => ?_)
      refine is_A (fun h2 => ?_)
      refine is_B (V := Int32.toInt) (is_P (ti_add rfl tl_1 h2)) (fun x7 => ?_)
      exact is_P (pinl (ppair rfl rfl))
  exact is_P rfl
noncomputable def iz_Model_page (this : Nat) (p1 : Int) (p2 : Int) : iM Int :=
  iB (iz_Model_pours this) fun x1 =>
  iB (iz_Model_blocks this) fun x2 =>
  if x2 = 0 then
    iP (-1)
  else
    iB (iGt this 33) fun x3 =>
    iB (iz_Model_in p1 0 x3) fun x4 =>
    if x4 = 0 then
      iP (-1)
    else
      iB (iz_Model_in p2 0 4) fun x5 =>
      if ¬ x5 = 0 then
        iB (α := (Int × (Int × Int))) (
          iW (S := (Int × (Int × (Int × Int)))) (α := (Int × (Int × Int))) (fun s7 =>
            iB (iGt this 32) fun x8 =>
            if x8 ≤ s7.2.2.2 then
              iP (Sum.inr (s7.1, (s7.2.1, s7.2.2.1)))
            else
              iB (iLd (qm_rf this 23) s7.2.2.2) fun x9 =>
              iB (α := (Int × (Int × Int))) (
                if x9 = p1 then
                  iA (s7.1 + 1) fun y1 =>
                  iB (iP y1) fun x11 =>
                  iB (iLd (qm_rf this 27) s7.2.2.2) fun x12 =>
                  iB (iLd (qm_rf this 26) s7.2.2.2) fun x13 =>
                  iA (x12 - x13) fun y2 =>
                  iA (s7.2.1 + y2) fun y3 =>
                  iB (iP y3) fun x14 =>
                  iB (iz_Model_linesIn this s7.2.2.2) fun x15 =>
                  iA (s7.2.2.1 + x15) fun y4 =>
                  iB (iP y4) fun x16 =>
                  iP (x11, (x14, x16))
                else
                  iP (s7.1, (s7.2.1, s7.2.2.1))) fun s10 =>
              iA (s7.2.2.2 + 1) fun y5 =>
              iB (iP y5) fun x17 =>
              iP (Sum.inl (s10.1, (s10.2.1, (s10.2.2, x17))))) (0, (0, (0, 0)))) fun s6 =>
        if p2 = 0 then
          iP s6.1
        else
          if p2 = 1 then
            iP s6.2.1
          else
            if p2 = 2 then
              iB (iz_Model_spansOn this p1) fun x18 =>
              iP x18
            else
              if p2 = 3 then
                iP s6.2.2
              else
                iB (iz_Model_sectionsOn this p1) fun x19 =>
                iP x19
      else
        iP (-1)
set_option maxRecDepth 20000 in
set_option maxHeartbeats 2000000 in
theorem is_Model_page {this : Nat} {p1 : Int32} {p1' : Int} {p2 : Int32} {p2' : Int} (qp1 : p1.toInt = p1') (qp2 : p2.toInt = p2') : iS (jf_Model_page this p1 p2) (iz_Model_page this p1' p2') Int32.toInt := by
  subst qp1 qp2
  unfold jf_Model_page iz_Model_page
  refine is_B (V := Int32.toInt) (is_Model_pours) (fun x1 => ?_)
  refine is_B (V := Int32.toInt) (is_Model_blocks) (fun x2 => ?_)
  refine is_if (ti_eq rfl tl_0) ?_ ?_
  ·
    exact is_P tl_m1
  ·
    refine is_B (V := Int32.toInt) (is_Gt rfl) (fun x3 => ?_)
    refine is_B (V := Int32.toInt) (is_Model_in (ti_64 rfl) t64_0 (ti_64 rfl)) (fun x4 => ?_)
    refine is_if (ti_eq rfl tl_0) ?_ ?_
    ·
      exact is_P tl_m1
    ·
      refine is_B (V := Int32.toInt) (is_Model_in (ti_64 rfl) t64_0 t64_4) (fun x5 => ?_)
      refine is_if (ti_not (ti_eq rfl tl_0)) ?_ ?_
      ·
        refine is_B (V := (ip2 Int32.toInt (ip2 Int32.toInt Int32.toInt))) ?_ (fun s6 => ?_)
        ·
          refine is_W (V := (ip2 Int32.toInt (ip2 Int32.toInt (ip2 Int32.toInt Int32.toInt)))) (W := (ip2 Int32.toInt (ip2 Int32.toInt Int32.toInt))) (fun s7 => ?_) (ppair tl_0 (ppair tl_0 (ppair tl_0 tl_0)))
          refine is_B (V := Int32.toInt) (is_Gt rfl) (fun x8 => ?_)
          refine is_if (ti_le rfl rfl) ?_ ?_
          ·
            exact is_P (pinr (ppair rfl (ppair rfl rfl)))
          ·
            refine is_B (V := Int32.toInt) (is_Ld rfl) (fun x9 => ?_)
            refine is_B (V := (ip2 Int32.toInt (ip2 Int32.toInt Int32.toInt))) ?_ (fun s10 => ?_)
            ·
              refine is_if (ti_eq rfl rfl) ?_ ?_
              ·
                refine is_A (fun h1 => ?_)
                refine is_B (V := Int32.toInt) (is_P (ti_add rfl tl_1 h1)) (fun x11 => ?_)
                refine is_B (V := Int32.toInt) (is_Ld rfl) (fun x12 => ?_)
                refine is_B (V := Int32.toInt) (is_Ld rfl) (fun x13 => ?_)
                refine is_A (fun h2 => ?_)
                refine is_A (fun h3 => ?_)
                refine is_B (V := Int32.toInt) (is_P (ti_add rfl (ti_sub rfl rfl h2) h3)) (fun x14 => ?_)
                refine is_B (V := Int32.toInt) (is_Model_linesIn rfl) (fun x15 => ?_)
                refine is_A (fun h4 => ?_)
                refine is_B (V := Int32.toInt) (is_P (ti_add rfl rfl h4)) (fun x16 => ?_)
                exact is_P (ppair rfl (ppair rfl rfl))
              ·
                exact is_P (ppair rfl (ppair rfl rfl))
            refine is_A (fun h5 => ?_)
            refine is_B (V := Int32.toInt) (is_P (ti_add rfl tl_1 h5)) (fun x17 => ?_)
            exact is_P (pinl (ppair rfl (ppair rfl (ppair rfl rfl))))
        refine is_if (ti_eq rfl tl_0) ?_ ?_
        ·
          exact is_P rfl
        ·
          refine is_if (ti_eq rfl tl_1) ?_ ?_
          ·
            exact is_P rfl
          ·
            refine is_if (ti_eq rfl tl_2) ?_ ?_
            ·
              refine is_B (V := Int32.toInt) (is_Model_spansOn rfl) (fun x18 => ?_)
              exact is_P rfl
            ·
              refine is_if (ti_eq rfl tl_3) ?_ ?_
              ·
                exact is_P rfl
              ·
                refine is_B (V := Int32.toInt) (is_Model_sectionsOn rfl) (fun x19 => ?_)
                exact is_P rfl
      ·
        exact is_P tl_m1
noncomputable def iz_Model_goesBy (this : Nat) (p1 : Int) (p2 : Int) (p3 : Int) (p4 : Int) : iM Unit :=
  iB (α := Unit) (
    iW (S := Int) (α := Unit) (fun s2 =>
      iB (iz_Model_endOf this p1) fun x3 =>
      if x3 < s2 then
        iP (Sum.inr ())
      else
        iB (α := Unit) (
          iB (α := (Unit ⊕ Unit)) (
            if s2 ≤ p2 then
              iP (Sum.inl ())
            else
              iB (iz_Model_isEnd this p1 s2) fun x6 =>
              if x6 = 0 then
                iP (Sum.inr ())
              else
                iP (Sum.inl ())) (Sum.elim (fun s5 =>
            iB (iz_Model_canEnd this p2 s2 p3 p4) fun x7 =>
            if ¬ x7 = 0 then
              iB (iz_Model_ownOf this p2 s2) fun x8 =>
              iB (iz_Model_standsOf this p2 s2 p3 p4) fun x9 =>
              iA (20 * s2) fun y1 =>
              iA (y1 + p3) fun y2 =>
              iA (y2 + x8) fun y3 =>
              iA (y3 - x9) fun y4 =>
              iB (iLd (qm_rf this 43) y4) fun x10 =>
              iA (20 * p2) fun y5 =>
              iA (y5 + p3) fun y6 =>
              iB (iLd (qm_rf this 42) y6) fun x11 =>
              iA (20 * s2) fun y7 =>
              iA (y7 + p3) fun y8 =>
              iA (y8 + x8) fun y9 =>
              iA (y9 - x9) fun y10 =>
              iB (iSt (qm_rf this 43) y10 (ibAdd x10 x11)) fun _ =>
              iP ()
            else
              iP ()) iP)) fun s4 =>
        iA (s2 + 1) fun y11 =>
        iB (iP y11) fun x12 =>
        iP (Sum.inl x12)) p2) fun s1 =>
  iP ()
set_option maxRecDepth 20000 in
set_option maxHeartbeats 2000000 in
theorem is_Model_goesBy {this : Nat} {p1 : Int32} {p1' : Int} {p2 : Int32} {p2' : Int} {p3 : Int32} {p3' : Int} {p4 : Int32} {p4' : Int} (qp1 : p1.toInt = p1') (qp2 : p2.toInt = p2') (qp3 : p3.toInt = p3') (qp4 : p4.toInt = p4') : iS (jf_Model_goesBy this p1 p2 p3 p4) (iz_Model_goesBy this p1' p2' p3' p4') id1 := by
  subst qp1 qp2 qp3 qp4
  unfold jf_Model_goesBy iz_Model_goesBy
  refine is_B (V := id1) ?_ (fun s1 => ?_)
  ·
    refine is_W (V := Int32.toInt) (W := id1) (fun s2 => ?_) rfl
    refine is_B (V := Int32.toInt) (is_Model_endOf rfl) (fun x3 => ?_)
    refine is_if (ti_lt rfl rfl) ?_ ?_
    ·
      exact is_P (pinr rfl)
    ·
      refine is_B (V := id1) ?_ (fun s4 => ?_)
      ·
        refine is_E (V := id1) ?_ (fun s5 => ?_)
        ·
          refine is_if (ti_le rfl rfl) ?_ ?_
          ·
            exact is_P (pinl rfl)
          ·
            refine is_B (V := Int32.toInt) (is_Model_isEnd rfl rfl) (fun x6 => ?_)
            refine is_if (ti_eq rfl tl_0) ?_ ?_
            ·
              exact is_P (pinr rfl)
            ·
              exact is_P (pinl rfl)
        ·
          refine is_B (V := Int32.toInt) (is_Model_canEnd rfl rfl rfl rfl) (fun x7 => ?_)
          refine is_if (ti_not (ti_eq rfl tl_0)) ?_ ?_
          ·
            refine is_B (V := Int32.toInt) (is_Model_ownOf rfl rfl) (fun x8 => ?_)
            refine is_B (V := Int32.toInt) (is_Model_standsOf rfl rfl rfl rfl) (fun x9 => ?_)
            refine is_A (fun h1 => ?_)
            refine is_A (fun h2 => ?_)
            refine is_A (fun h3 => ?_)
            refine is_A (fun h4 => ?_)
            refine is_B (V := Int32.toInt) (is_Ld (ti_sub (ti_add (ti_add (ti_mul tl_20 rfl h1) rfl h2) rfl h3) rfl h4)) (fun x10 => ?_)
            refine is_A (fun h5 => ?_)
            refine is_A (fun h6 => ?_)
            refine is_B (V := Int32.toInt) (is_Ld (ti_add (ti_mul tl_20 rfl h5) rfl h6)) (fun x11 => ?_)
            refine is_A (fun h7 => ?_)
            refine is_A (fun h8 => ?_)
            refine is_A (fun h9 => ?_)
            refine is_A (fun h10 => ?_)
            refine is_B (V := id1) (is_St (ti_sub (ti_add (ti_add (ti_mul tl_20 rfl h7) rfl h8) rfl h9) rfl h10) (ti_wadd rfl rfl)) (fun _ => ?_)
            exact is_P rfl
          ·
            exact is_P rfl
      refine is_A (fun h11 => ?_)
      refine is_B (V := Int32.toInt) (is_P (ti_add rfl tl_1 h11)) (fun x12 => ?_)
      exact is_P (pinl rfl)
  exact is_P rfl
noncomputable def iz_Model_ways (this : Nat) (p1 : Int) (p2 : Int) : iM Int :=
  iB (iz_Model_lays this) fun _ =>
  iB (iz_Model_isSection this p1) fun x1 =>
  if x1 = 0 then
    iP (-1)
  else
    iB (iz_Model_in p2 0 2000) fun x2 =>
    if ¬ x2 = 0 then
      iB (α := Unit) (
        iW (S := Int) (α := Unit) (fun s4 =>
          if 1840 ≤ s4 then
            iP (Sum.inr ())
          else
            iB (iSt (qm_rf this 42) s4 0) fun _ =>
            iA (s4 + 1) fun y1 =>
            iB (iP y1) fun x5 =>
            iP (Sum.inl x5)) 0) fun s3 =>
      iB (iLd (qm_rf this 14) p1) fun x6 =>
      iA (20 * x6) fun y2 =>
      iB (iSt (qm_rf this 42) y2 1) fun _ =>
      iB (α := Unit) (
        iW (S := Int) (α := Unit) (fun s8 =>
          iB (iLd (qm_rf this 0) 0) fun x9 =>
          if x9 ≤ s8 then
            iP (Sum.inr ())
          else
            iB (α := Unit) (
              iW (S := Int) (α := Unit) (fun s11 =>
                if 1840 ≤ s11 then
                  iP (Sum.inr ())
                else
                  iB (iSt (qm_rf this 43) s11 0) fun _ =>
                  iA (s11 + 1) fun y3 =>
                  iB (iP y3) fun x12 =>
                  iP (Sum.inl x12)) 0) fun s10 =>
            iB (α := Unit) (
              iW (S := Int) (α := Unit) (fun s14 =>
                if 1840 ≤ s14 then
                  iP (Sum.inr ())
                else
                  iB (iLd (qm_rf this 42) s14) fun x15 =>
                  iB (α := Unit) (
                    if x15 ≤ 0 then
                      iP ()
                    else
                      iB (iDv s14 20) fun x17 =>
                      iB (iRm s14 20) fun x18 =>
                      iB (iz_Model_goesBy this p1 x17 x18 p2) fun _ =>
                      iP ()) fun s16 =>
                  iA (s14 + 1) fun y4 =>
                  iB (iP y4) fun x19 =>
                  iP (Sum.inl x19)) 0) fun s13 =>
            iB (α := Unit) (
              iW (S := Int) (α := Unit) (fun s21 =>
                if 1840 ≤ s21 then
                  iP (Sum.inr ())
                else
                  iB (iLd (qm_rf this 43) s21) fun x22 =>
                  iB (iSt (qm_rf this 42) s21 x22) fun _ =>
                  iA (s21 + 1) fun y5 =>
                  iB (iP y5) fun x23 =>
                  iP (Sum.inl x23)) 0) fun s20 =>
            iA (s8 + 1) fun y6 =>
            iB (iP y6) fun x24 =>
            iP (Sum.inl x24)) 0) fun s7 =>
      iB (iz_Model_endOf this p1) fun x25 =>
      iA (20 * x25) fun y7 =>
      iB (iLd (qm_rf this 42) y7) fun x26 =>
      iP x26
    else
      iP (-1)
set_option maxRecDepth 20000 in
set_option maxHeartbeats 2000000 in
theorem is_Model_ways {this : Nat} {p1 : Int32} {p1' : Int} {p2 : Int32} {p2' : Int} (qp1 : p1.toInt = p1') (qp2 : p2.toInt = p2') : iS (jf_Model_ways this p1 p2) (iz_Model_ways this p1' p2') Int32.toInt := by
  subst qp1 qp2
  unfold jf_Model_ways iz_Model_ways
  refine is_B (V := id1) (is_Model_lays) (fun _ => ?_)
  refine is_B (V := Int32.toInt) (is_Model_isSection rfl) (fun x1 => ?_)
  refine is_if (ti_eq rfl tl_0) ?_ ?_
  ·
    exact is_P tl_m1
  ·
    refine is_B (V := Int32.toInt) (is_Model_in (ti_64 rfl) t64_0 t64_2000) (fun x2 => ?_)
    refine is_if (ti_not (ti_eq rfl tl_0)) ?_ ?_
    ·
      refine is_B (V := id1) ?_ (fun s3 => ?_)
      ·
        refine is_W (V := Int32.toInt) (W := id1) (fun s4 => ?_) tl_0
        refine is_if (ti_le tl_1840 rfl) ?_ ?_
        ·
          exact is_P (pinr rfl)
        ·
          refine is_B (V := id1) (is_St rfl tl_0) (fun _ => ?_)
          refine is_A (fun h1 => ?_)
          refine is_B (V := Int32.toInt) (is_P (ti_add rfl tl_1 h1)) (fun x5 => ?_)
          exact is_P (pinl rfl)
      refine is_B (V := Int32.toInt) (is_Ld rfl) (fun x6 => ?_)
      refine is_A (fun h2 => ?_)
      refine is_B (V := id1) (is_St (ti_mul tl_20 rfl h2) tl_1) (fun _ => ?_)
      refine is_B (V := id1) ?_ (fun s7 => ?_)
      ·
        refine is_W (V := Int32.toInt) (W := id1) (fun s8 => ?_) tl_0
        refine is_B (V := Int32.toInt) (is_Ld tl_0) (fun x9 => ?_)
        refine is_if (ti_le rfl rfl) ?_ ?_
        ·
          exact is_P (pinr rfl)
        ·
          refine is_B (V := id1) ?_ (fun s10 => ?_)
          ·
            refine is_W (V := Int32.toInt) (W := id1) (fun s11 => ?_) tl_0
            refine is_if (ti_le tl_1840 rfl) ?_ ?_
            ·
              exact is_P (pinr rfl)
            ·
              refine is_B (V := id1) (is_St rfl tl_0) (fun _ => ?_)
              refine is_A (fun h3 => ?_)
              refine is_B (V := Int32.toInt) (is_P (ti_add rfl tl_1 h3)) (fun x12 => ?_)
              exact is_P (pinl rfl)
          refine is_B (V := id1) ?_ (fun s13 => ?_)
          ·
            refine is_W (V := Int32.toInt) (W := id1) (fun s14 => ?_) tl_0
            refine is_if (ti_le tl_1840 rfl) ?_ ?_
            ·
              exact is_P (pinr rfl)
            ·
              refine is_B (V := Int32.toInt) (is_Ld rfl) (fun x15 => ?_)
              refine is_B (V := id1) ?_ (fun s16 => ?_)
              ·
                refine is_if (ti_le rfl tl_0) ?_ ?_
                ·
                  exact is_P rfl
                ·
                  refine is_B (V := Int32.toInt) (is_Dv rfl tl_20) (fun x17 => ?_)
                  refine is_B (V := Int32.toInt) (is_Rm rfl tl_20) (fun x18 => ?_)
                  refine is_B (V := id1) (is_Model_goesBy rfl rfl rfl rfl) (fun _ => ?_)
                  exact is_P rfl
              refine is_A (fun h4 => ?_)
              refine is_B (V := Int32.toInt) (is_P (ti_add rfl tl_1 h4)) (fun x19 => ?_)
              exact is_P (pinl rfl)
          refine is_B (V := id1) ?_ (fun s20 => ?_)
          ·
            refine is_W (V := Int32.toInt) (W := id1) (fun s21 => ?_) tl_0
            refine is_if (ti_le tl_1840 rfl) ?_ ?_
            ·
              exact is_P (pinr rfl)
            ·
              refine is_B (V := Int32.toInt) (is_Ld rfl) (fun x22 => ?_)
              refine is_B (V := id1) (is_St rfl rfl) (fun _ => ?_)
              refine is_A (fun h5 => ?_)
              refine is_B (V := Int32.toInt) (is_P (ti_add rfl tl_1 h5)) (fun x23 => ?_)
              exact is_P (pinl rfl)
          refine is_A (fun h6 => ?_)
          refine is_B (V := Int32.toInt) (is_P (ti_add rfl tl_1 h6)) (fun x24 => ?_)
          exact is_P (pinl rfl)
      refine is_B (V := Int32.toInt) (is_Model_endOf rfl) (fun x25 => ?_)
      refine is_A (fun h7 => ?_)
      refine is_B (V := Int32.toInt) (is_Ld (ti_mul tl_20 rfl h7)) (fun x26 => ?_)
      exact is_P rfl
    ·
      exact is_P tl_m1
noncomputable def iz_Model_isIn (this : Nat) (p1 : Int) (p2 : Int) : iM Int :=
  iB (iz_Model_of this p1 0) fun x1 =>
  if x1 = 4 then
    iP 0
  else
    iB (iLd (qm_rf this 17) p1) fun x2 =>
    iB (iGt this 13) fun x3 =>
    if x3 ≤ x2 then
      iP 0
    else
      iB (iLd (qm_rf this 17) p1) fun x4 =>
      iB (iLd (qm_rf this 11) x4) fun x5 =>
      if ¬ x5 = p2 then
        iP 0
      else
        iP 1
set_option maxRecDepth 20000 in
set_option maxHeartbeats 2000000 in
theorem is_Model_isIn {this : Nat} {p1 : Int32} {p1' : Int} {p2 : Int32} {p2' : Int} (qp1 : p1.toInt = p1') (qp2 : p2.toInt = p2') : iS (jf_Model_isIn this p1 p2) (iz_Model_isIn this p1' p2') Int32.toInt := by
  subst qp1 qp2
  unfold jf_Model_isIn iz_Model_isIn
  refine is_B (V := Int32.toInt) (is_Model_of rfl tl_0) (fun x1 => ?_)
  refine is_if (ti_eq rfl tl_4) ?_ ?_
  ·
    exact is_P tl_0
  ·
    refine is_B (V := Int32.toInt) (is_Ld rfl) (fun x2 => ?_)
    refine is_B (V := Int32.toInt) (is_Gt rfl) (fun x3 => ?_)
    refine is_if (ti_le rfl rfl) ?_ ?_
    ·
      exact is_P tl_0
    ·
      refine is_B (V := Int32.toInt) (is_Ld rfl) (fun x4 => ?_)
      refine is_B (V := Int32.toInt) (is_Ld rfl) (fun x5 => ?_)
      refine is_if (ti_not (ti_eq rfl rfl)) ?_ ?_
      ·
        exact is_P tl_0
      ·
        exact is_P tl_1
noncomputable def iz_Model_tiedOf (this : Nat) (p1 : Int) : iM Int :=
  iB (α := Int) (
    iW (S := (Int × Int)) (α := Int) (fun s2 =>
      iB (iz_Model_blocks this) fun x3 =>
      if x3 ≤ s2.2 then
        iP (Sum.inr s2.1)
      else
        iB (iz_Model_isIn this s2.2 p1) fun x4 =>
        iB (α := Int) (
          if x4 = 0 then
            iP s2.1
          else
            iB (iz_Model_of this s2.2 4) fun x6 =>
            if ¬ x6 = 1 then
              iP s2.1
            else
              iB (iz_Model_bits s2.1) fun x7 =>
              if 8 ≤ x7 then
                iP s2.1
              else
                iB (iP (ibOr s2.1 (ibShl 1 (ibAnd s2.2 31)))) fun x8 =>
                iP x8) fun s5 =>
        iA (s2.2 + 1) fun y1 =>
        iB (iP y1) fun x9 =>
        iP (Sum.inl (s5, x9))) (0, 0)) fun s1 =>
  iP s1
set_option maxRecDepth 20000 in
set_option maxHeartbeats 2000000 in
theorem is_Model_tiedOf {this : Nat} {p1 : Int32} {p1' : Int} (qp1 : p1.toInt = p1') : iS (jf_Model_tiedOf this p1) (iz_Model_tiedOf this p1') Int32.toInt := by
  subst qp1
  unfold jf_Model_tiedOf iz_Model_tiedOf
  refine is_B (V := Int32.toInt) ?_ (fun s1 => ?_)
  ·
    refine is_W (V := (ip2 Int32.toInt Int32.toInt)) (W := Int32.toInt) (fun s2 => ?_) (ppair tl_0 tl_0)
    refine is_B (V := Int32.toInt) (is_Model_blocks) (fun x3 => ?_)
    refine is_if (ti_le rfl rfl) ?_ ?_
    ·
      exact is_P (pinr rfl)
    ·
      refine is_B (V := Int32.toInt) (is_Model_isIn rfl rfl) (fun x4 => ?_)
      refine is_B (V := Int32.toInt) ?_ (fun s5 => ?_)
      ·
        refine is_if (ti_eq rfl tl_0) ?_ ?_
        ·
          exact is_P rfl
        ·
          refine is_B (V := Int32.toInt) (is_Model_of rfl tl_4) (fun x6 => ?_)
          refine is_if (ti_not (ti_eq rfl tl_1)) ?_ ?_
          ·
            exact is_P rfl
          ·
            refine is_B (V := Int32.toInt) (is_Model_bits rfl) (fun x7 => ?_)
            refine is_if (ti_le tl_8 rfl) ?_ ?_
            ·
              exact is_P rfl
            ·
              refine is_B (V := Int32.toInt) (is_P (ti_or rfl (ti_shl tl_1 (ti_and rfl tl_31)))) (fun x8 => ?_)
              exact is_P rfl
      refine is_A (fun h1 => ?_)
      refine is_B (V := Int32.toInt) (is_P (ti_add rfl tl_1 h1)) (fun x9 => ?_)
      exact is_P (pinl (ppair rfl rfl))
  exact is_P rfl
noncomputable def iz_Model_has (p1 : Int) (p2 : Int) : iM Int :=
  if ¬ (ibAnd (ibShr p1 (ibAnd p2 31)) 1) = 1 then
    iP 0
  else
    iP 1
set_option maxRecDepth 20000 in
set_option maxHeartbeats 2000000 in
theorem is_Model_has {p1 : Int32} {p1' : Int} {p2 : Int32} {p2' : Int} (qp1 : p1.toInt = p1') (qp2 : p2.toInt = p2') : iS (jf_Model_has p1 p2) (iz_Model_has p1' p2') Int32.toInt := by
  subst qp1 qp2
  unfold jf_Model_has iz_Model_has
  refine is_if (ti_not (ti_eq (ti_and (ti_shr rfl (ti_and rfl tl_31)) tl_1) tl_1)) ?_ ?_
  ·
    exact is_P tl_0
  ·
    exact is_P tl_1
noncomputable def iz_Model_fitsWithout (this : Nat) (p1 : Int) (p2 : Int) (p3 : Int) : iM Int :=
  iB (α := Unit) (
    iW (S := Int) (α := Unit) (fun s2 =>
      iB (iz_Model_blocks this) fun x3 =>
      if x3 ≤ s2 then
        iP (Sum.inr ())
      else
        iB (iz_Model_has p2 s2) fun x4 =>
        iB (α := Unit) (
          if x4 = 0 then
            iP ()
          else
            iA (16 * s2) fun y1 =>
            iA (9 + y1) fun y2 =>
            iA (y2 + 4) fun y3 =>
            iB (iSt (qm_rf this 0) y3 0) fun _ =>
            iP ()) fun s5 =>
        iA (s2 + 1) fun y4 =>
        iB (iP y4) fun x6 =>
        iP (Sum.inl x6)) 0) fun s1 =>
  iB (iz_Model_lays this) fun _ =>
  iB (iLd (qm_rf this 14) p1) fun x7 =>
  iB (iz_Model_fitsFrom this p1 x7 0 p3) fun x8 =>
  iB (iz_Model_putsBack this) fun _ =>
  iB (iZ x8) fun x9 =>
  iP x9
set_option maxRecDepth 20000 in
set_option maxHeartbeats 2000000 in
theorem is_Model_fitsWithout {this : Nat} {p1 : Int32} {p1' : Int} {p2 : Int32} {p2' : Int} {p3 : Int32} {p3' : Int} (qp1 : p1.toInt = p1') (qp2 : p2.toInt = p2') (qp3 : p3.toInt = p3') : iS (jf_Model_fitsWithout this p1 p2 p3) (iz_Model_fitsWithout this p1' p2' p3') Int32.toInt := by
  subst qp1 qp2 qp3
  unfold jf_Model_fitsWithout iz_Model_fitsWithout
  refine is_B (V := id1) ?_ (fun s1 => ?_)
  ·
    refine is_W (V := Int32.toInt) (W := id1) (fun s2 => ?_) tl_0
    refine is_B (V := Int32.toInt) (is_Model_blocks) (fun x3 => ?_)
    refine is_if (ti_le rfl rfl) ?_ ?_
    ·
      exact is_P (pinr rfl)
    ·
      refine is_B (V := Int32.toInt) (is_Model_has rfl rfl) (fun x4 => ?_)
      refine is_B (V := id1) ?_ (fun s5 => ?_)
      ·
        refine is_if (ti_eq rfl tl_0) ?_ ?_
        ·
          exact is_P rfl
        ·
          refine is_A (fun h1 => ?_)
          refine is_A (fun h2 => ?_)
          refine is_A (fun h3 => ?_)
          refine is_B (V := id1) (is_St (ti_add (ti_add tl_9 (ti_mul tl_16 rfl h1) h2) tl_4 h3) tl_0) (fun _ => ?_)
          exact is_P rfl
      refine is_A (fun h4 => ?_)
      refine is_B (V := Int32.toInt) (is_P (ti_add rfl tl_1 h4)) (fun x6 => ?_)
      exact is_P (pinl rfl)
  refine is_B (V := id1) (is_Model_lays) (fun _ => ?_)
  refine is_B (V := Int32.toInt) (is_Ld rfl) (fun x7 => ?_)
  refine is_B (V := Int32.toInt) (is_Model_fitsFrom rfl rfl tl_0 rfl) (fun x8 => ?_)
  refine is_B (V := id1) (is_Model_putsBack) (fun _ => ?_)
  refine is_B (V := Int32.toInt) (is_Z rfl) (fun x9 => ?_)
  exact is_P rfl
noncomputable def iz_Model_untie (this : Nat) (p1 : Int) (p2 : Int) : iM Int :=
  iB (iz_Model_lays this) fun _ =>
  iB (iz_Model_isSection this p1) fun x1 =>
  if x1 = 0 then
    iP (-1)
  else
    iB (iz_Model_in p2 0 2000) fun x2 =>
    if ¬ x2 = 0 then
      iB (iz_Model_tiedOf this p1) fun x3 =>
      iB (iz_Model_keepsAside this) fun _ =>
      iB (α := Int) (
        iW (S := (Int × (Int × Int))) (α := Int) (fun s5 =>
          if s5.2.2 = 0 then
            iP (Sum.inr s5.1)
          else
            iB (α := Int) (
              iB (α := (Unit ⊕ Int)) (
                if s5.1 = (-2) then
                  iP (Sum.inl ())
                else
                  iB (iz_Model_bits s5.2.1) fun x8 =>
                  iB (iz_Model_bits s5.1) fun x9 =>
                  if x9 ≤ x8 then
                    iP (Sum.inr s5.1)
                  else
                    iP (Sum.inl ())) (Sum.elim (fun s7 =>
                iB (iz_Model_fitsWithout this p1 s5.2.1 p2) fun x10 =>
                if x10 = 0 then
                  iP s5.1
                else
                  iP s5.2.1) iP)) fun s6 =>
            iA (s5.2.1 - x3) fun y1 =>
            iB (iP (ibAnd y1 x3)) fun x11 =>
            iB (α := Int) (
              if x11 = 0 then
                iP 0
              else
                iP 1) fun s12 =>
            iP (Sum.inl (s6, (x11, s12)))) ((-2), (0, 1))) fun s4 =>
      iP s4
    else
      iP (-1)
set_option maxRecDepth 20000 in
set_option maxHeartbeats 2000000 in
theorem is_Model_untie {this : Nat} {p1 : Int32} {p1' : Int} {p2 : Int32} {p2' : Int} (qp1 : p1.toInt = p1') (qp2 : p2.toInt = p2') : iS (jf_Model_untie this p1 p2) (iz_Model_untie this p1' p2') Int32.toInt := by
  subst qp1 qp2
  unfold jf_Model_untie iz_Model_untie
  refine is_B (V := id1) (is_Model_lays) (fun _ => ?_)
  refine is_B (V := Int32.toInt) (is_Model_isSection rfl) (fun x1 => ?_)
  refine is_if (ti_eq rfl tl_0) ?_ ?_
  ·
    exact is_P tl_m1
  ·
    refine is_B (V := Int32.toInt) (is_Model_in (ti_64 rfl) t64_0 t64_2000) (fun x2 => ?_)
    refine is_if (ti_not (ti_eq rfl tl_0)) ?_ ?_
    ·
      refine is_B (V := Int32.toInt) (is_Model_tiedOf rfl) (fun x3 => ?_)
      refine is_B (V := id1) (is_Model_keepsAside) (fun _ => ?_)
      refine is_B (V := Int32.toInt) ?_ (fun s4 => ?_)
      ·
        refine is_W (V := (ip2 Int32.toInt (ip2 Int32.toInt Int32.toInt))) (W := Int32.toInt) (fun s5 => ?_) (ppair tl_m2 (ppair tl_0 tl_1))
        refine is_if (ti_eq rfl tl_0) ?_ ?_
        ·
          exact is_P (pinr rfl)
        ·
          refine is_B (V := Int32.toInt) ?_ (fun s6 => ?_)
          ·
            refine is_E (V := id1) ?_ (fun s7 => ?_)
            ·
              refine is_if (ti_eq rfl tl_m2) ?_ ?_
              ·
                exact is_P (pinl rfl)
              ·
                refine is_B (V := Int32.toInt) (is_Model_bits rfl) (fun x8 => ?_)
                refine is_B (V := Int32.toInt) (is_Model_bits rfl) (fun x9 => ?_)
                refine is_if (ti_le rfl rfl) ?_ ?_
                ·
                  exact is_P (pinr rfl)
                ·
                  exact is_P (pinl rfl)
            ·
              refine is_B (V := Int32.toInt) (is_Model_fitsWithout rfl rfl rfl) (fun x10 => ?_)
              refine is_if (ti_eq rfl tl_0) ?_ ?_
              ·
                exact is_P rfl
              ·
                exact is_P rfl
          refine is_A (fun h1 => ?_)
          refine is_B (V := Int32.toInt) (is_P (ti_and (ti_sub rfl rfl h1) rfl)) (fun x11 => ?_)
          refine is_B (V := Int32.toInt) ?_ (fun s12 => ?_)
          ·
            refine is_if (ti_eq rfl tl_0) ?_ ?_
            ·
              exact is_P tl_0
            ·
              exact is_P tl_1
          exact is_P (pinl (ppair rfl (ppair rfl rfl)))
      exact is_P rfl
    ·
      exact is_P tl_m1
noncomputable def iz_Model_narrow (this : Nat) (p1 : Int) (p2 : Int) : iM Int :=
  iB (iz_Model_lays this) fun _ =>
  iB (iz_Model_isSection this p1) fun x1 =>
  if x1 = 0 then
    iP (-1)
  else
    iB (iz_Model_in p2 0 2000) fun x2 =>
    if ¬ x2 = 0 then
      iB (iLd (qm_rf this 0) 0) fun x3 =>
      iB (α := Int) (
        iW (S := (Int × Int)) (α := Int) (fun s5 =>
          if 5 < s5.2 then
            iP (Sum.inr s5.1)
          else
            if ¬ s5.1 = (-2) then
              iP (Sum.inr s5.1)
            else
              iB (iSt (qm_rf this 0) 0 s5.2) fun _ =>
              iB (iLd (qm_rf this 14) p1) fun x6 =>
              iB (iz_Model_fitsFrom this p1 x6 0 p2) fun x7 =>
              iB (α := Int) (
                if x7 = 0 then
                  iP (-2)
                else
                  iP s5.2) fun s8 =>
              iA (s5.2 + 1) fun y1 =>
              iB (iP y1) fun x9 =>
              iP (Sum.inl (s8, x9))) ((-2), 1)) fun s4 =>
      iB (iSt (qm_rf this 0) 0 x3) fun _ =>
      iP s4
    else
      iP (-1)
set_option maxRecDepth 20000 in
set_option maxHeartbeats 2000000 in
theorem is_Model_narrow {this : Nat} {p1 : Int32} {p1' : Int} {p2 : Int32} {p2' : Int} (qp1 : p1.toInt = p1') (qp2 : p2.toInt = p2') : iS (jf_Model_narrow this p1 p2) (iz_Model_narrow this p1' p2') Int32.toInt := by
  subst qp1 qp2
  unfold jf_Model_narrow iz_Model_narrow
  refine is_B (V := id1) (is_Model_lays) (fun _ => ?_)
  refine is_B (V := Int32.toInt) (is_Model_isSection rfl) (fun x1 => ?_)
  refine is_if (ti_eq rfl tl_0) ?_ ?_
  ·
    exact is_P tl_m1
  ·
    refine is_B (V := Int32.toInt) (is_Model_in (ti_64 rfl) t64_0 t64_2000) (fun x2 => ?_)
    refine is_if (ti_not (ti_eq rfl tl_0)) ?_ ?_
    ·
      refine is_B (V := Int32.toInt) (is_Ld tl_0) (fun x3 => ?_)
      refine is_B (V := Int32.toInt) ?_ (fun s4 => ?_)
      ·
        refine is_W (V := (ip2 Int32.toInt Int32.toInt)) (W := Int32.toInt) (fun s5 => ?_) (ppair tl_m2 tl_1)
        refine is_if (ti_lt tl_5 rfl) ?_ ?_
        ·
          exact is_P (pinr rfl)
        ·
          refine is_if (ti_not (ti_eq rfl tl_m2)) ?_ ?_
          ·
            exact is_P (pinr rfl)
          ·
            refine is_B (V := id1) (is_St tl_0 rfl) (fun _ => ?_)
            refine is_B (V := Int32.toInt) (is_Ld rfl) (fun x6 => ?_)
            refine is_B (V := Int32.toInt) (is_Model_fitsFrom rfl rfl tl_0 rfl) (fun x7 => ?_)
            refine is_B (V := Int32.toInt) ?_ (fun s8 => ?_)
            ·
              refine is_if (ti_eq rfl tl_0) ?_ ?_
              ·
                exact is_P tl_m2
              ·
                exact is_P rfl
            refine is_A (fun h1 => ?_)
            refine is_B (V := Int32.toInt) (is_P (ti_add rfl tl_1 h1)) (fun x9 => ?_)
            exact is_P (pinl (ppair rfl rfl))
      refine is_B (V := id1) (is_St tl_0 rfl) (fun _ => ?_)
      exact is_P rfl
    ·
      exact is_P tl_m1
noncomputable def iz_Model_even (this : Nat) (p1 : Int) : iM Int :=
  iB (iz_Model_lays this) fun _ =>
  iB (iz_Model_isSection this p1) fun x1 =>
  if ¬ x1 = 0 then
    iB (iz_Model_leastOf this p1) fun x2 =>
    if 0 ≤ x2 then
      iB (iPt this 32 0) fun _ =>
      iB (iPt this 33 0) fun _ =>
      iB (iLd (qm_rf this 0) 1) fun x3 =>
      iB (iPt this 34 x3) fun _ =>
      iB (iLd (qm_rf this 14) p1) fun x4 =>
      iB (iPt this 36 x4) fun _ =>
      iB (iPt this 37 0) fun _ =>
      iB (iz_Model_levelsBy this p1 x2) fun _ =>
      iB (α := (Int × Int)) (
        iW (S := (Int × (Int × Int))) (α := (Int × Int)) (fun s6 =>
          iB (iGt this 32) fun x7 =>
          if x7 ≤ s6.2.2 then
            iP (Sum.inr (s6.1, s6.2.1))
          else
            iB (iLd (qm_rf this 30) s6.2.2) fun x8 =>
            iB (iz_Model_looseOf this s6.2.2) fun x9 =>
            iA (x8 - x9) fun y1 =>
            iB (iP y1) fun x10 =>
            iB (α := Int) (
              if s6.1 ≤ x10 then
                iP s6.1
              else
                iP x10) fun s11 =>
            iB (α := Int) (
              if x10 ≤ s6.2.1 then
                iP s6.2.1
              else
                iP x10) fun s12 =>
            iA (s6.2.2 + 1) fun y2 =>
            iB (iP y2) fun x13 =>
            iP (Sum.inl (s11, (s12, x13)))) (100000, (0, 0))) fun s5 =>
      iA (s5.2 - s5.1) fun y3 =>
      iP y3
    else
      iP (-2)
  else
    iP (-1)
set_option maxRecDepth 20000 in
set_option maxHeartbeats 2000000 in
theorem is_Model_even {this : Nat} {p1 : Int32} {p1' : Int} (qp1 : p1.toInt = p1') : iS (jf_Model_even this p1) (iz_Model_even this p1') Int32.toInt := by
  subst qp1
  unfold jf_Model_even iz_Model_even
  refine is_B (V := id1) (is_Model_lays) (fun _ => ?_)
  refine is_B (V := Int32.toInt) (is_Model_isSection rfl) (fun x1 => ?_)
  refine is_if (ti_not (ti_eq rfl tl_0)) ?_ ?_
  ·
    refine is_B (V := Int32.toInt) (is_Model_leastOf rfl) (fun x2 => ?_)
    refine is_if (ti_le tl_0 rfl) ?_ ?_
    ·
      refine is_B (V := id1) (is_Pt rfl tl_0) (fun _ => ?_)
      refine is_B (V := id1) (is_Pt rfl tl_0) (fun _ => ?_)
      refine is_B (V := Int32.toInt) (is_Ld tl_1) (fun x3 => ?_)
      refine is_B (V := id1) (is_Pt rfl rfl) (fun _ => ?_)
      refine is_B (V := Int32.toInt) (is_Ld rfl) (fun x4 => ?_)
      refine is_B (V := id1) (is_Pt rfl rfl) (fun _ => ?_)
      refine is_B (V := id1) (is_Pt rfl tl_0) (fun _ => ?_)
      refine is_B (V := id1) (is_Model_levelsBy rfl rfl) (fun _ => ?_)
      refine is_B (V := (ip2 Int32.toInt Int32.toInt)) ?_ (fun s5 => ?_)
      ·
        refine is_W (V := (ip2 Int32.toInt (ip2 Int32.toInt Int32.toInt))) (W := (ip2 Int32.toInt Int32.toInt)) (fun s6 => ?_) (ppair tl_100000 (ppair tl_0 tl_0))
        refine is_B (V := Int32.toInt) (is_Gt rfl) (fun x7 => ?_)
        refine is_if (ti_le rfl rfl) ?_ ?_
        ·
          exact is_P (pinr (ppair rfl rfl))
        ·
          refine is_B (V := Int32.toInt) (is_Ld rfl) (fun x8 => ?_)
          refine is_B (V := Int32.toInt) (is_Model_looseOf rfl) (fun x9 => ?_)
          refine is_A (fun h1 => ?_)
          refine is_B (V := Int32.toInt) (is_P (ti_sub rfl rfl h1)) (fun x10 => ?_)
          refine is_B (V := Int32.toInt) ?_ (fun s11 => ?_)
          ·
            refine is_if (ti_le rfl rfl) ?_ ?_
            ·
              exact is_P rfl
            ·
              exact is_P rfl
          refine is_B (V := Int32.toInt) ?_ (fun s12 => ?_)
          ·
            refine is_if (ti_le rfl rfl) ?_ ?_
            ·
              exact is_P rfl
            ·
              exact is_P rfl
          refine is_A (fun h2 => ?_)
          refine is_B (V := Int32.toInt) (is_P (ti_add rfl tl_1 h2)) (fun x13 => ?_)
          exact is_P (pinl (ppair rfl (ppair rfl rfl)))
      refine is_A (fun h3 => ?_)
      exact is_P (ti_sub rfl rfl h3)
    ·
      exact is_P tl_m2
  ·
    exact is_P tl_m1
noncomputable def iz_Model_trades (this : Nat) (p1 : Int) (p2 : Int) : iM Unit :=
  iB (α := Unit) (
    iW (S := Int) (α := Unit) (fun s2 =>
      if 16 ≤ s2 then
        iP (Sum.inr ())
      else
        iB (iz_Model_of this p1 s2) fun x3 =>
        iB (iz_Model_of this p2 s2) fun x4 =>
        iA (16 * p1) fun y1 =>
        iA (9 + y1) fun y2 =>
        iA (y2 + s2) fun y3 =>
        iB (iSt (qm_rf this 0) y3 x4) fun _ =>
        iA (16 * p2) fun y4 =>
        iA (9 + y4) fun y5 =>
        iA (y5 + s2) fun y6 =>
        iB (iSt (qm_rf this 0) y6 x3) fun _ =>
        iA (s2 + 1) fun y7 =>
        iB (iP y7) fun x5 =>
        iP (Sum.inl x5)) 0) fun s1 =>
  iP ()
set_option maxRecDepth 20000 in
set_option maxHeartbeats 2000000 in
theorem is_Model_trades {this : Nat} {p1 : Int32} {p1' : Int} {p2 : Int32} {p2' : Int} (qp1 : p1.toInt = p1') (qp2 : p2.toInt = p2') : iS (jf_Model_trades this p1 p2) (iz_Model_trades this p1' p2') id1 := by
  subst qp1 qp2
  unfold jf_Model_trades iz_Model_trades
  refine is_B (V := id1) ?_ (fun s1 => ?_)
  ·
    refine is_W (V := Int32.toInt) (W := id1) (fun s2 => ?_) tl_0
    refine is_if (ti_le tl_16 rfl) ?_ ?_
    ·
      exact is_P (pinr rfl)
    ·
      refine is_B (V := Int32.toInt) (is_Model_of rfl rfl) (fun x3 => ?_)
      refine is_B (V := Int32.toInt) (is_Model_of rfl rfl) (fun x4 => ?_)
      refine is_A (fun h1 => ?_)
      refine is_A (fun h2 => ?_)
      refine is_A (fun h3 => ?_)
      refine is_B (V := id1) (is_St (ti_add (ti_add tl_9 (ti_mul tl_16 rfl h1) h2) rfl h3) rfl) (fun _ => ?_)
      refine is_A (fun h4 => ?_)
      refine is_A (fun h5 => ?_)
      refine is_A (fun h6 => ?_)
      refine is_B (V := id1) (is_St (ti_add (ti_add tl_9 (ti_mul tl_16 rfl h4) h5) rfl h6) rfl) (fun _ => ?_)
      refine is_A (fun h7 => ?_)
      refine is_B (V := Int32.toInt) (is_P (ti_add rfl tl_1 h7)) (fun x5 => ?_)
      exact is_P (pinl rfl)
  exact is_P rfl
noncomputable def iz_Model_order (this : Nat) (p1 : Int) : iM Int :=
  iB (iz_Model_in p1 0 1) fun x1 =>
  if ¬ x1 = 0 then
    iB (iz_Model_keepsAside this) fun _ =>
    iB (α := (Int × Int)) (
      iW (S := (Int × (Int × Int))) (α := (Int × Int)) (fun s3 =>
        iB (iz_Model_blocks this) fun x4 =>
        iA (s3.2.2 + 1) fun y1 =>
        if x4 ≤ y1 then
          iP (Sum.inr (s3.1, s3.2.1))
        else
          iA (s3.2.2 + 1) fun y2 =>
          iB (iz_Model_trades this s3.2.2 y2) fun _ =>
          iB (iz_Model_pours this) fun x5 =>
          iB (iz_Model_putsBack this) fun _ =>
          iB (α := (Int × Int)) (
            if x5 < 0 then
              iP (s3.1, s3.2.1)
            else
              iB (α := (Unit ⊕ (Int × Int))) (
                if s3.1 = (-2) then
                  iP (Sum.inl ())
                else
                  if x5 < s3.2.1 then
                    iP (Sum.inl ())
                  else
                    iP (Sum.inr (s3.1, s3.2.1))) (Sum.elim (fun s7 =>
                iP (s3.2.2, x5)) iP)) fun s6 =>
          iA (s3.2.2 + 1) fun y3 =>
          iB (iP y3) fun x8 =>
          iP (Sum.inl (s6.1, (s6.2, x8)))) ((-2), ((-2), 0))) fun s2 =>
    if ¬ p1 = 0 then
      iP s2.2
    else
      iP s2.1
  else
    iP (-1)
set_option maxRecDepth 20000 in
set_option maxHeartbeats 2000000 in
theorem is_Model_order {this : Nat} {p1 : Int32} {p1' : Int} (qp1 : p1.toInt = p1') : iS (jf_Model_order this p1) (iz_Model_order this p1') Int32.toInt := by
  subst qp1
  unfold jf_Model_order iz_Model_order
  refine is_B (V := Int32.toInt) (is_Model_in (ti_64 rfl) t64_0 t64_1) (fun x1 => ?_)
  refine is_if (ti_not (ti_eq rfl tl_0)) ?_ ?_
  ·
    refine is_B (V := id1) (is_Model_keepsAside) (fun _ => ?_)
    refine is_B (V := (ip2 Int32.toInt Int32.toInt)) ?_ (fun s2 => ?_)
    ·
      refine is_W (V := (ip2 Int32.toInt (ip2 Int32.toInt Int32.toInt))) (W := (ip2 Int32.toInt Int32.toInt)) (fun s3 => ?_) (ppair tl_m2 (ppair tl_m2 tl_0))
      refine is_B (V := Int32.toInt) (is_Model_blocks) (fun x4 => ?_)
      refine is_A (fun h1 => ?_)
      refine is_if (ti_le rfl (ti_add rfl tl_1 h1)) ?_ ?_
      ·
        exact is_P (pinr (ppair rfl rfl))
      ·
        refine is_A (fun h2 => ?_)
        refine is_B (V := id1) (is_Model_trades rfl (ti_add rfl tl_1 h2)) (fun _ => ?_)
        refine is_B (V := Int32.toInt) (is_Model_pours) (fun x5 => ?_)
        refine is_B (V := id1) (is_Model_putsBack) (fun _ => ?_)
        refine is_B (V := (ip2 Int32.toInt Int32.toInt)) ?_ (fun s6 => ?_)
        ·
          refine is_if (ti_lt rfl tl_0) ?_ ?_
          ·
            exact is_P (ppair rfl rfl)
          ·
            refine is_E (V := id1) ?_ (fun s7 => ?_)
            ·
              refine is_if (ti_eq rfl tl_m2) ?_ ?_
              ·
                exact is_P (pinl rfl)
              ·
                refine is_if (ti_lt rfl rfl) ?_ ?_
                ·
                  exact is_P (pinl rfl)
                ·
                  exact is_P (pinr (ppair rfl rfl))
            ·
              exact is_P (ppair rfl rfl)
        refine is_A (fun h3 => ?_)
        refine is_B (V := Int32.toInt) (is_P (ti_add rfl tl_1 h3)) (fun x8 => ?_)
        exact is_P (pinl (ppair rfl (ppair rfl rfl)))
    refine is_if (ti_not (ti_eq rfl tl_0)) ?_ ?_
    ·
      exact is_P rfl
    ·
      exact is_P rfl
  ·
    exact is_P tl_m1
noncomputable def iz_Model_feed (this : Nat) (p1 : Int) (p2 : Int) (p3 : Int) (p4 : Int) (p5 : Int) : iM Int :=
  iB (iGt this 45) fun x1 =>
  if x1 ≤ 380 then
    iB (α := Unit) (
      iW (S := Int) (α := Unit) (fun s3 =>
        if 20 ≤ s3 then
          iP (Sum.inr ())
        else
          iB (α := Int) (
            if 4 ≤ s3 then
              if 8 ≤ s3 then
                if 12 ≤ s3 then
                  if 16 ≤ s3 then
                    iP p5
                  else
                    iP p4
                else
                  iP p3
              else
                iP p2
            else
              iP p1) fun s4 =>
          iB (iGt this 45) fun x5 =>
          iB (iRm s3 4) fun x6 =>
          iA (x5 + s3) fun y1 =>
          iA (8 * x6) fun y2 =>
          iA (24 - y2) fun y3 =>
          iB (iSb (qm_rf this 44) y1 (i8 (ibShr s4 (ibAnd y3 31)))) fun _ =>
          iA (s3 + 1) fun y4 =>
          iB (iP y4) fun x7 =>
          iP (Sum.inl x7)) 0) fun s2 =>
    iB (iGt this 45) fun x8 =>
    iA (x8 + 20) fun y5 =>
    iB (iPt this 45 y5) fun _ =>
    iB (iGt this 45) fun x9 =>
    iP x9
  else
    iP (-1)
set_option maxRecDepth 20000 in
set_option maxHeartbeats 2000000 in
theorem is_Model_feed {this : Nat} {p1 : Int32} {p1' : Int} {p2 : Int32} {p2' : Int} {p3 : Int32} {p3' : Int} {p4 : Int32} {p4' : Int} {p5 : Int32} {p5' : Int} (qp1 : p1.toInt = p1') (qp2 : p2.toInt = p2') (qp3 : p3.toInt = p3') (qp4 : p4.toInt = p4') (qp5 : p5.toInt = p5') : iS (jf_Model_feed this p1 p2 p3 p4 p5) (iz_Model_feed this p1' p2' p3' p4' p5') Int32.toInt := by
  subst qp1 qp2 qp3 qp4 qp5
  unfold jf_Model_feed iz_Model_feed
  refine is_B (V := Int32.toInt) (is_Gt rfl) (fun x1 => ?_)
  refine is_if (ti_le rfl tl_380) ?_ ?_
  ·
    refine is_B (V := id1) ?_ (fun s2 => ?_)
    ·
      refine is_W (V := Int32.toInt) (W := id1) (fun s3 => ?_) tl_0
      refine is_if (ti_le tl_20 rfl) ?_ ?_
      ·
        exact is_P (pinr rfl)
      ·
        refine is_B (V := Int32.toInt) ?_ (fun s4 => ?_)
        ·
          refine is_if (ti_le tl_4 rfl) ?_ ?_
          ·
            refine is_if (ti_le tl_8 rfl) ?_ ?_
            ·
              refine is_if (ti_le tl_12 rfl) ?_ ?_
              ·
                refine is_if (ti_le tl_16 rfl) ?_ ?_
                ·
                  exact is_P rfl
                ·
                  exact is_P rfl
              ·
                exact is_P rfl
            ·
              exact is_P rfl
          ·
            exact is_P rfl
        refine is_B (V := Int32.toInt) (is_Gt rfl) (fun x5 => ?_)
        refine is_B (V := Int32.toInt) (is_Rm rfl tl_4) (fun x6 => ?_)
        refine is_A (fun h1 => ?_)
        refine is_A (fun h2 => ?_)
        refine is_A (fun h3 => ?_)
        refine is_B (V := id1) (is_Sb (ti_add rfl rfl h1) (ti_8 (ti_shr rfl (ti_and (ti_sub tl_24 (ti_mul tl_8 rfl h2) h3) tl_31)))) (fun _ => ?_)
        refine is_A (fun h4 => ?_)
        refine is_B (V := Int32.toInt) (is_P (ti_add rfl tl_1 h4)) (fun x7 => ?_)
        exact is_P (pinl rfl)
    refine is_B (V := Int32.toInt) (is_Gt rfl) (fun x8 => ?_)
    refine is_A (fun h5 => ?_)
    refine is_B (V := id1) (is_Pt rfl (ti_add rfl tl_20 h5)) (fun _ => ?_)
    refine is_B (V := Int32.toInt) (is_Gt rfl) (fun x9 => ?_)
    exact is_P rfl
  ·
    exact is_P tl_m1
noncomputable def iz_Model_end (this : Nat) (p1 : Int) : iM Int :=
  iB (iGt this 45) fun x1 =>
  iB (iz_Model_in p1 0 x1) fun x2 =>
  if ¬ x2 = 0 then
    iB (iPt this 45 p1) fun _ =>
    iP p1
  else
    iP (-1)
set_option maxRecDepth 20000 in
set_option maxHeartbeats 2000000 in
theorem is_Model_end {this : Nat} {p1 : Int32} {p1' : Int} (qp1 : p1.toInt = p1') : iS (jf_Model_end this p1) (iz_Model_end this p1') Int32.toInt := by
  subst qp1
  unfold jf_Model_end iz_Model_end
  refine is_B (V := Int32.toInt) (is_Gt rfl) (fun x1 => ?_)
  refine is_B (V := Int32.toInt) (is_Model_in (ti_64 rfl) t64_0 (ti_64 rfl)) (fun x2 => ?_)
  refine is_if (ti_not (ti_eq rfl tl_0)) ?_ ?_
  ·
    refine is_B (V := id1) (is_Pt rfl rfl) (fun _ => ?_)
    exact is_P rfl
  ·
    exact is_P tl_m1
noncomputable def iz_Model_byteAt (this : Nat) (p1 : Int) : iM Int :=
  iB (iGt this 45) fun x1 =>
  if x1 ≤ p1 then
    iP (-1)
  else
    iB (iLd (qm_rf this 44) p1) fun x2 =>
    iP (ibAnd x2 255)
set_option maxRecDepth 20000 in
set_option maxHeartbeats 2000000 in
theorem is_Model_byteAt {this : Nat} {p1 : Int32} {p1' : Int} (qp1 : p1.toInt = p1') : iS (jf_Model_byteAt this p1) (iz_Model_byteAt this p1') Int32.toInt := by
  subst qp1
  unfold jf_Model_byteAt iz_Model_byteAt
  refine is_B (V := Int32.toInt) (is_Gt rfl) (fun x1 => ?_)
  refine is_if (ti_le rfl rfl) ?_ ?_
  ·
    exact is_P tl_m1
  ·
    refine is_B (V := Int32.toInt) (is_Ld rfl) (fun x2 => ?_)
    exact is_P (ti_and rfl tl_255)
noncomputable def iz_Model_nextByte (this : Nat) : iM Int :=
  iB (α := Unit) (
    iW (S := Unit) (α := Unit) (fun s2 =>
      iB (iGt this 46) fun x3 =>
      iB (iz_Model_byteAt this x3) fun x4 =>
      if ¬ x4 = 32 then
        iP (Sum.inr ())
      else
        iB (iGt this 46) fun x5 =>
        iA (x5 + 1) fun y1 =>
        iB (iPt this 46 y1) fun _ =>
        iP (Sum.inl ())) ()) fun s1 =>
  iB (iGt this 46) fun x6 =>
  iB (iz_Model_byteAt this x6) fun x7 =>
  iP x7
set_option maxRecDepth 20000 in
set_option maxHeartbeats 2000000 in
theorem is_Model_nextByte {this : Nat} : iS (jf_Model_nextByte this) (iz_Model_nextByte this) Int32.toInt := by
  unfold jf_Model_nextByte iz_Model_nextByte
  refine is_B (V := id1) ?_ (fun s1 => ?_)
  ·
    refine is_W (V := id1) (W := id1) (fun s2 => ?_) rfl
    refine is_B (V := Int32.toInt) (is_Gt rfl) (fun x3 => ?_)
    refine is_B (V := Int32.toInt) (is_Model_byteAt rfl) (fun x4 => ?_)
    refine is_if (ti_not (ti_eq rfl tl_32)) ?_ ?_
    ·
      exact is_P (pinr rfl)
    ·
      refine is_B (V := Int32.toInt) (is_Gt rfl) (fun x5 => ?_)
      refine is_A (fun h1 => ?_)
      refine is_B (V := id1) (is_Pt rfl (ti_add rfl tl_1 h1)) (fun _ => ?_)
      exact is_P (pinl rfl)
  refine is_B (V := Int32.toInt) (is_Gt rfl) (fun x6 => ?_)
  refine is_B (V := Int32.toInt) (is_Model_byteAt rfl) (fun x7 => ?_)
  exact is_P rfl
noncomputable def iz_Model_fails (this : Nat) (p1 : Int) (p2 : Int) : iM Int :=
  iA (8 * p2) fun y1 =>
  iA (y1 + p1) fun y2 =>
  iB (iPt this 47 y2) fun _ =>
  iP 0
set_option maxRecDepth 20000 in
set_option maxHeartbeats 2000000 in
theorem is_Model_fails {this : Nat} {p1 : Int32} {p1' : Int} {p2 : Int32} {p2' : Int} (qp1 : p1.toInt = p1') (qp2 : p2.toInt = p2') : iS (jf_Model_fails this p1 p2) (iz_Model_fails this p1' p2') Int32.toInt := by
  subst qp1 qp2
  unfold jf_Model_fails iz_Model_fails
  refine is_A (fun h1 => ?_)
  refine is_A (fun h2 => ?_)
  refine is_B (V := id1) (is_Pt rfl (ti_add (ti_mul tl_8 rfl h1) rfl h2)) (fun _ => ?_)
  exact is_P tl_0
noncomputable def iz_Model_readsNumber (this : Nat) (p1 : Int) (p2 : Int) : iM Int :=
  iB (iz_Model_nextByte this) fun x1 =>
  iB (iz_Model_in x1 48 57) fun x2 =>
  if ¬ x2 = 0 then
    iB (iGt this 46) fun x3 =>
    iB (iPt this 49 x3) fun _ =>
    iB (iPt this 48 0) fun _ =>
    iB (α := Unit) (
      iW (S := Unit) (α := Unit) (fun s5 =>
        iB (iGt this 46) fun x6 =>
        iB (iz_Model_byteAt this x6) fun x7 =>
        iB (iz_Model_in x7 48 57) fun x8 =>
        if x8 = 0 then
          iP (Sum.inr ())
        else
          iB (iGt this 48) fun x9 =>
          iB (α := Unit) (
            if 10000 ≤ x9 then
              iP ()
            else
              iB (iGt this 48) fun x11 =>
              iB (iGt this 46) fun x12 =>
              iB (iz_Model_byteAt this x12) fun x13 =>
              iA (10 * x11) fun y1 =>
              iA (y1 + x13) fun y2 =>
              iA (y2 - 48) fun y3 =>
              iB (iPt this 48 y3) fun _ =>
              iP ()) fun s10 =>
          iB (iGt this 46) fun x14 =>
          iA (x14 + 1) fun y4 =>
          iB (iPt this 46 y4) fun _ =>
          iP (Sum.inl ())) ()) fun s4 =>
    iB (iGt this 48) fun x15 =>
    iB (iz_Model_in x15 p1 p2) fun x16 =>
    if ¬ x16 = 0 then
      iP 1
    else
      iB (iGt this 49) fun x17 =>
      iB (iz_Model_fails this 2 x17) fun x18 =>
      if x18 = 0 then
        iP 0
      else
        iP 1
  else
    iB (iGt this 46) fun x19 =>
    iB (iz_Model_fails this 1 x19) fun x20 =>
    iB (iZ x20) fun x21 =>
    iP x21
set_option maxRecDepth 20000 in
set_option maxHeartbeats 2000000 in
theorem is_Model_readsNumber {this : Nat} {p1 : Int32} {p1' : Int} {p2 : Int32} {p2' : Int} (qp1 : p1.toInt = p1') (qp2 : p2.toInt = p2') : iS (jf_Model_readsNumber this p1 p2) (iz_Model_readsNumber this p1' p2') Int32.toInt := by
  subst qp1 qp2
  unfold jf_Model_readsNumber iz_Model_readsNumber
  refine is_B (V := Int32.toInt) (is_Model_nextByte) (fun x1 => ?_)
  refine is_B (V := Int32.toInt) (is_Model_in (ti_64 rfl) t64_48 t64_57) (fun x2 => ?_)
  refine is_if (ti_not (ti_eq rfl tl_0)) ?_ ?_
  ·
    refine is_B (V := Int32.toInt) (is_Gt rfl) (fun x3 => ?_)
    refine is_B (V := id1) (is_Pt rfl rfl) (fun _ => ?_)
    refine is_B (V := id1) (is_Pt rfl tl_0) (fun _ => ?_)
    refine is_B (V := id1) ?_ (fun s4 => ?_)
    ·
      refine is_W (V := id1) (W := id1) (fun s5 => ?_) rfl
      refine is_B (V := Int32.toInt) (is_Gt rfl) (fun x6 => ?_)
      refine is_B (V := Int32.toInt) (is_Model_byteAt rfl) (fun x7 => ?_)
      refine is_B (V := Int32.toInt) (is_Model_in (ti_64 rfl) t64_48 t64_57) (fun x8 => ?_)
      refine is_if (ti_eq rfl tl_0) ?_ ?_
      ·
        exact is_P (pinr rfl)
      ·
        refine is_B (V := Int32.toInt) (is_Gt rfl) (fun x9 => ?_)
        refine is_B (V := id1) ?_ (fun s10 => ?_)
        ·
          refine is_if (ti_le tl_10000 rfl) ?_ ?_
          ·
            exact is_P rfl
          ·
            refine is_B (V := Int32.toInt) (is_Gt rfl) (fun x11 => ?_)
            refine is_B (V := Int32.toInt) (is_Gt rfl) (fun x12 => ?_)
            refine is_B (V := Int32.toInt) (is_Model_byteAt rfl) (fun x13 => ?_)
            refine is_A (fun h1 => ?_)
            refine is_A (fun h2 => ?_)
            refine is_A (fun h3 => ?_)
            refine is_B (V := id1) (is_Pt rfl (ti_sub (ti_add (ti_mul tl_10 rfl h1) rfl h2) tl_48 h3)) (fun _ => ?_)
            exact is_P rfl
        refine is_B (V := Int32.toInt) (is_Gt rfl) (fun x14 => ?_)
        refine is_A (fun h4 => ?_)
        refine is_B (V := id1) (is_Pt rfl (ti_add rfl tl_1 h4)) (fun _ => ?_)
        exact is_P (pinl rfl)
    refine is_B (V := Int32.toInt) (is_Gt rfl) (fun x15 => ?_)
    refine is_B (V := Int32.toInt) (is_Model_in (ti_64 rfl) (ti_64 rfl) (ti_64 rfl)) (fun x16 => ?_)
    refine is_if (ti_not (ti_eq rfl tl_0)) ?_ ?_
    ·
      exact is_P tl_1
    ·
      refine is_B (V := Int32.toInt) (is_Gt rfl) (fun x17 => ?_)
      refine is_B (V := Int32.toInt) (is_Model_fails tl_2 rfl) (fun x18 => ?_)
      refine is_if (ti_eq rfl tl_0) ?_ ?_
      ·
        exact is_P tl_0
      ·
        exact is_P tl_1
  ·
    refine is_B (V := Int32.toInt) (is_Gt rfl) (fun x19 => ?_)
    refine is_B (V := Int32.toInt) (is_Model_fails tl_1 rfl) (fun x20 => ?_)
    refine is_B (V := Int32.toInt) (is_Z rfl) (fun x21 => ?_)
    exact is_P rfl
noncomputable def iz_Model_highest (p1 : Int) : iM Int :=
  if ¬ p1 = 1 then
    if ¬ p1 = 2 then
      if ¬ p1 = 4 then
        iP 9
      else
        iP 60
    else
      iP 30
  else
    iP 200
set_option maxRecDepth 20000 in
set_option maxHeartbeats 2000000 in
theorem is_Model_highest {p1 : Int32} {p1' : Int} (qp1 : p1.toInt = p1') : iS (jf_Model_highest p1) (iz_Model_highest p1') Int32.toInt := by
  subst qp1
  unfold jf_Model_highest iz_Model_highest
  refine is_if (ti_not (ti_eq rfl tl_1)) ?_ ?_
  ·
    refine is_if (ti_not (ti_eq rfl tl_2)) ?_ ?_
    ·
      refine is_if (ti_not (ti_eq rfl tl_4)) ?_ ?_
      ·
        exact is_P tl_9
      ·
        exact is_P tl_60
    ·
      exact is_P tl_30
  ·
    exact is_P tl_200
noncomputable def iz_Model_readsMany (this : Nat) (p1 : Int) : iM Int :=
  iB (iz_Model_readsNumber this 1 30) fun x1 =>
  if ¬ x1 = 0 then
    iB (iGt this 51) fun x2 =>
    iB (iGt this 48) fun x3 =>
    iA (x2 + x3) fun y1 =>
    if y1 ≤ 90 then
      iB (iGt this 48) fun x4 =>
      iA (p1 + 1) fun y2 =>
      iB (iSt (qm_rf this 50) y2 x4) fun _ =>
      iP 1
    else
      iB (iGt this 49) fun x5 =>
      iB (iz_Model_fails this 3 x5) fun x6 =>
      iB (iZ x6) fun x7 =>
      iP x7
  else
    iP 0
set_option maxRecDepth 20000 in
set_option maxHeartbeats 2000000 in
theorem is_Model_readsMany {this : Nat} {p1 : Int32} {p1' : Int} (qp1 : p1.toInt = p1') : iS (jf_Model_readsMany this p1) (iz_Model_readsMany this p1') Int32.toInt := by
  subst qp1
  unfold jf_Model_readsMany iz_Model_readsMany
  refine is_B (V := Int32.toInt) (is_Model_readsNumber tl_1 tl_30) (fun x1 => ?_)
  refine is_if (ti_not (ti_eq rfl tl_0)) ?_ ?_
  ·
    refine is_B (V := Int32.toInt) (is_Gt rfl) (fun x2 => ?_)
    refine is_B (V := Int32.toInt) (is_Gt rfl) (fun x3 => ?_)
    refine is_A (fun h1 => ?_)
    refine is_if (ti_le (ti_add rfl rfl h1) tl_90) ?_ ?_
    ·
      refine is_B (V := Int32.toInt) (is_Gt rfl) (fun x4 => ?_)
      refine is_A (fun h2 => ?_)
      refine is_B (V := id1) (is_St (ti_add rfl tl_1 h2) rfl) (fun _ => ?_)
      exact is_P tl_1
    ·
      refine is_B (V := Int32.toInt) (is_Gt rfl) (fun x5 => ?_)
      refine is_B (V := Int32.toInt) (is_Model_fails tl_3 rfl) (fun x6 => ?_)
      refine is_B (V := Int32.toInt) (is_Z rfl) (fun x7 => ?_)
      exact is_P rfl
  ·
    exact is_P tl_0
noncomputable def iz_Model_readsHigh (this : Nat) (p1 : Int) (p2 : Int) : iM Int :=
  iB (iz_Model_highest p2) fun x1 =>
  iB (iz_Model_readsNumber this 1 x1) fun x2 =>
  if ¬ x2 = 0 then
    iB (iGt this 48) fun x3 =>
    iA (p1 + 2) fun y1 =>
    iB (iSt (qm_rf this 50) y1 x3) fun _ =>
    iP 1
  else
    iP 0
set_option maxRecDepth 20000 in
set_option maxHeartbeats 2000000 in
theorem is_Model_readsHigh {this : Nat} {p1 : Int32} {p1' : Int} {p2 : Int32} {p2' : Int} (qp1 : p1.toInt = p1') (qp2 : p2.toInt = p2') : iS (jf_Model_readsHigh this p1 p2) (iz_Model_readsHigh this p1' p2') Int32.toInt := by
  subst qp1 qp2
  unfold jf_Model_readsHigh iz_Model_readsHigh
  refine is_B (V := Int32.toInt) (is_Model_highest rfl) (fun x1 => ?_)
  refine is_B (V := Int32.toInt) (is_Model_readsNumber tl_1 rfl) (fun x2 => ?_)
  refine is_if (ti_not (ti_eq rfl tl_0)) ?_ ?_
  ·
    refine is_B (V := Int32.toInt) (is_Gt rfl) (fun x3 => ?_)
    refine is_A (fun h1 => ?_)
    refine is_B (V := id1) (is_St (ti_add rfl tl_2 h1) rfl) (fun _ => ?_)
    exact is_P tl_1
  ·
    exact is_P tl_0
noncomputable def iz_Model_readsTop (this : Nat) (p1 : Int) : iM Int :=
  iB (iz_Model_readsNumber this 0 9) fun x1 =>
  if ¬ x1 = 0 then
    iB (iGt this 48) fun x2 =>
    iA (p1 + 3) fun y1 =>
    iB (iSt (qm_rf this 50) y1 x2) fun _ =>
    iP 1
  else
    iP 0
set_option maxRecDepth 20000 in
set_option maxHeartbeats 2000000 in
theorem is_Model_readsTop {this : Nat} {p1 : Int32} {p1' : Int} (qp1 : p1.toInt = p1') : iS (jf_Model_readsTop this p1) (iz_Model_readsTop this p1') Int32.toInt := by
  subst qp1
  unfold jf_Model_readsTop iz_Model_readsTop
  refine is_B (V := Int32.toInt) (is_Model_readsNumber tl_0 tl_9) (fun x1 => ?_)
  refine is_if (ti_not (ti_eq rfl tl_0)) ?_ ?_
  ·
    refine is_B (V := Int32.toInt) (is_Gt rfl) (fun x2 => ?_)
    refine is_A (fun h1 => ?_)
    refine is_B (V := id1) (is_St (ti_add rfl tl_3 h1) rfl) (fun _ => ?_)
    exact is_P tl_1
  ·
    exact is_P tl_0
noncomputable def iz_Model_readsSizes (this : Nat) (p1 : Int) (p2 : Int) : iM Int :=
  iB (α := Int) (
    if ¬ p2 = 4 then
      iP 1
    else
      iP 0) fun s1 =>
  iA (p1 + 1) fun y1 =>
  iB (iSt (qm_rf this 50) y1 s1) fun _ =>
  iB (α := (Unit ⊕ Int)) (
    if ¬ p2 = 0 then
      iP (Sum.inl ())
    else
      iB (iz_Model_readsMany this p1) fun x3 =>
      if ¬ x3 = 0 then
        iP (Sum.inl ())
      else
        iP (Sum.inr 0)) (Sum.elim (fun s2 =>
    iB (α := (Unit ⊕ Int)) (
      if ¬ p2 = 3 then
        iP (Sum.inl ())
      else
        iB (iz_Model_readsTop this p1) fun x5 =>
        if x5 = 0 then
          iP (Sum.inr 0)
        else
          iB (iz_Model_readsMany this p1) fun x6 =>
          if ¬ x6 = 0 then
            iP (Sum.inl ())
          else
            iP (Sum.inr 0)) (Sum.elim (fun s4 =>
      iB (iz_Model_readsHigh this p1 p2) fun x7 =>
      iB (iZ x7) fun x8 =>
      iP x8) iP)) iP)
set_option maxRecDepth 20000 in
set_option maxHeartbeats 2000000 in
theorem is_Model_readsSizes {this : Nat} {p1 : Int32} {p1' : Int} {p2 : Int32} {p2' : Int} (qp1 : p1.toInt = p1') (qp2 : p2.toInt = p2') : iS (jf_Model_readsSizes this p1 p2) (iz_Model_readsSizes this p1' p2') Int32.toInt := by
  subst qp1 qp2
  unfold jf_Model_readsSizes iz_Model_readsSizes
  refine is_B (V := Int32.toInt) ?_ (fun s1 => ?_)
  ·
    refine is_if (ti_not (ti_eq rfl tl_4)) ?_ ?_
    ·
      exact is_P tl_1
    ·
      exact is_P tl_0
  refine is_A (fun h1 => ?_)
  refine is_B (V := id1) (is_St (ti_add rfl tl_1 h1) rfl) (fun _ => ?_)
  refine is_E (V := id1) ?_ (fun s2 => ?_)
  ·
    refine is_if (ti_not (ti_eq rfl tl_0)) ?_ ?_
    ·
      exact is_P (pinl rfl)
    ·
      refine is_B (V := Int32.toInt) (is_Model_readsMany rfl) (fun x3 => ?_)
      refine is_if (ti_not (ti_eq rfl tl_0)) ?_ ?_
      ·
        exact is_P (pinl rfl)
      ·
        exact is_P (pinr tl_0)
  ·
    refine is_E (V := id1) ?_ (fun s4 => ?_)
    ·
      refine is_if (ti_not (ti_eq rfl tl_3)) ?_ ?_
      ·
        exact is_P (pinl rfl)
      ·
        refine is_B (V := Int32.toInt) (is_Model_readsTop rfl) (fun x5 => ?_)
        refine is_if (ti_eq rfl tl_0) ?_ ?_
        ·
          exact is_P (pinr tl_0)
        ·
          refine is_B (V := Int32.toInt) (is_Model_readsMany rfl) (fun x6 => ?_)
          refine is_if (ti_not (ti_eq rfl tl_0)) ?_ ?_
          ·
            exact is_P (pinl rfl)
          ·
            exact is_P (pinr tl_0)
    ·
      refine is_B (V := Int32.toInt) (is_Model_readsHigh rfl rfl) (fun x7 => ?_)
      refine is_B (V := Int32.toInt) (is_Z rfl) (fun x8 => ?_)
      exact is_P rfl
noncomputable def iz_Model_readsMark (this : Nat) (p1 : Int) : iM Int :=
  iA (p1 + 7) fun y1 =>
  iB (iLd (qm_rf this 50) y1) fun x1 =>
  if ¬ x1 = 4 then
    iB (iGt this 46) fun x2 =>
    iA (x2 + 4) fun y2 =>
    iB (iPt this 46 y2) fun _ =>
    iA (p1 + 1) fun y3 =>
    iB (iLd (qm_rf this 50) y3) fun x3 =>
    iB (iz_Model_readsNumber this 1 x3) fun x4 =>
    if ¬ x4 = 0 then
      iA (p1 + 7) fun y4 =>
      iB (iLd (qm_rf this 50) y4) fun x5 =>
      iB (α := (Unit ⊕ Int)) (
        iW (S := Int) (α := (Unit ⊕ Int)) (fun s7 =>
          if x5 ≤ s7 then
            iP (Sum.inr (Sum.inl ()))
          else
            iA (p1 + 8) fun y5 =>
            iA (2 * s7) fun y6 =>
            iA (y5 + y6) fun y7 =>
            iB (iLd (qm_rf this 50) y7) fun x8 =>
            iB (iGt this 48) fun x9 =>
            if ¬ x8 = x9 then
              iA (s7 + 1) fun y8 =>
              iB (iP y8) fun x10 =>
              iP (Sum.inl x10)
            else
              iB (iGt this 49) fun x11 =>
              iB (iz_Model_fails this 2 x11) fun x12 =>
              iB (iZ x12) fun x13 =>
              iP (Sum.inr (Sum.inr x13))) 0) (Sum.elim (fun s6 =>
        iB (iGt this 48) fun x14 =>
        iA (p1 + 8) fun y9 =>
        iA (2 * x5) fun y10 =>
        iA (y9 + y10) fun y11 =>
        iB (iSt (qm_rf this 50) y11 x14) fun _ =>
        iB (iz_Model_readsNumber this 1 20) fun x15 =>
        if ¬ x15 = 0 then
          iB (iGt this 48) fun x16 =>
          iA (p1 + 8) fun y12 =>
          iA (2 * x5) fun y13 =>
          iA (y12 + y13) fun y14 =>
          iA (y14 + 1) fun y15 =>
          iB (iSt (qm_rf this 50) y15 x16) fun _ =>
          iA (p1 + 7) fun y16 =>
          iB (iLd (qm_rf this 50) y16) fun x17 =>
          iA (p1 + 7) fun y17 =>
          iA (x17 + 1) fun y18 =>
          iB (iSt (qm_rf this 50) y17 y18) fun _ =>
          iP 1
        else
          iP 0) iP)
    else
      iP 0
  else
    iB (iGt this 46) fun x18 =>
    iB (iz_Model_fails this 3 x18) fun x19 =>
    iB (iZ x19) fun x20 =>
    iP x20
set_option maxRecDepth 20000 in
set_option maxHeartbeats 2000000 in
theorem is_Model_readsMark {this : Nat} {p1 : Int32} {p1' : Int} (qp1 : p1.toInt = p1') : iS (jf_Model_readsMark this p1) (iz_Model_readsMark this p1') Int32.toInt := by
  subst qp1
  unfold jf_Model_readsMark iz_Model_readsMark
  refine is_A (fun h1 => ?_)
  refine is_B (V := Int32.toInt) (is_Ld (ti_add rfl tl_7 h1)) (fun x1 => ?_)
  refine is_if (ti_not (ti_eq rfl tl_4)) ?_ ?_
  ·
    refine is_B (V := Int32.toInt) (is_Gt rfl) (fun x2 => ?_)
    refine is_A (fun h2 => ?_)
    refine is_B (V := id1) (is_Pt rfl (ti_add rfl tl_4 h2)) (fun _ => ?_)
    refine is_A (fun h3 => ?_)
    refine is_B (V := Int32.toInt) (is_Ld (ti_add rfl tl_1 h3)) (fun x3 => ?_)
    refine is_B (V := Int32.toInt) (is_Model_readsNumber tl_1 rfl) (fun x4 => ?_)
    refine is_if (ti_not (ti_eq rfl tl_0)) ?_ ?_
    ·
      refine is_A (fun h4 => ?_)
      refine is_B (V := Int32.toInt) (is_Ld (ti_add rfl tl_7 h4)) (fun x5 => ?_)
      refine is_E (V := id1) ?_ (fun s6 => ?_)
      ·
        refine is_W (V := Int32.toInt) (W := (is2 id1 Int32.toInt)) (fun s7 => ?_) tl_0
        refine is_if (ti_le rfl rfl) ?_ ?_
        ·
          exact is_P (pinr (pinl rfl))
        ·
          refine is_A (fun h5 => ?_)
          refine is_A (fun h6 => ?_)
          refine is_A (fun h7 => ?_)
          refine is_B (V := Int32.toInt) (is_Ld (ti_add (ti_add rfl tl_8 h5) (ti_mul tl_2 rfl h6) h7)) (fun x8 => ?_)
          refine is_B (V := Int32.toInt) (is_Gt rfl) (fun x9 => ?_)
          refine is_if (ti_not (ti_eq rfl rfl)) ?_ ?_
          ·
            refine is_A (fun h8 => ?_)
            refine is_B (V := Int32.toInt) (is_P (ti_add rfl tl_1 h8)) (fun x10 => ?_)
            exact is_P (pinl rfl)
          ·
            refine is_B (V := Int32.toInt) (is_Gt rfl) (fun x11 => ?_)
            refine is_B (V := Int32.toInt) (is_Model_fails tl_2 rfl) (fun x12 => ?_)
            refine is_B (V := Int32.toInt) (is_Z rfl) (fun x13 => ?_)
            exact is_P (pinr (pinr rfl))
      ·
        refine is_B (V := Int32.toInt) (is_Gt rfl) (fun x14 => ?_)
        refine is_A (fun h9 => ?_)
        refine is_A (fun h10 => ?_)
        refine is_A (fun h11 => ?_)
        refine is_B (V := id1) (is_St (ti_add (ti_add rfl tl_8 h9) (ti_mul tl_2 rfl h10) h11) rfl) (fun _ => ?_)
        refine is_B (V := Int32.toInt) (is_Model_readsNumber tl_1 tl_20) (fun x15 => ?_)
        refine is_if (ti_not (ti_eq rfl tl_0)) ?_ ?_
        ·
          refine is_B (V := Int32.toInt) (is_Gt rfl) (fun x16 => ?_)
          refine is_A (fun h12 => ?_)
          refine is_A (fun h13 => ?_)
          refine is_A (fun h14 => ?_)
          refine is_A (fun h15 => ?_)
          refine is_B (V := id1) (is_St (ti_add (ti_add (ti_add rfl tl_8 h12) (ti_mul tl_2 rfl h13) h14) tl_1 h15) rfl) (fun _ => ?_)
          refine is_A (fun h16 => ?_)
          refine is_B (V := Int32.toInt) (is_Ld (ti_add rfl tl_7 h16)) (fun x17 => ?_)
          refine is_A (fun h17 => ?_)
          refine is_A (fun h18 => ?_)
          refine is_B (V := id1) (is_St (ti_add rfl tl_7 h17) (ti_add rfl tl_1 h18)) (fun _ => ?_)
          exact is_P tl_1
        ·
          exact is_P tl_0
    ·
      exact is_P tl_0
  ·
    refine is_B (V := Int32.toInt) (is_Gt rfl) (fun x18 => ?_)
    refine is_B (V := Int32.toInt) (is_Model_fails tl_3 rfl) (fun x19 => ?_)
    refine is_B (V := Int32.toInt) (is_Z rfl) (fun x20 => ?_)
    exact is_P rfl
noncomputable def iz_Model_keepsAct (this : Nat) : iM Unit :=
  iB (iGt this 2) fun x1 =>
  iB (α := Unit) (
    if ¬ x1 = 10 then
      iP ()
    else
      iB (α := Unit) (
        iW (S := Int) (α := Unit) (fun s4 =>
          if 2650 ≤ s4 then
            iP (Sum.inr ())
          else
            iB (iLd (qm_rf this 1) s4) fun x5 =>
            iA (s4 - 265) fun y1 =>
            iB (iSt (qm_rf this 1) y1 x5) fun _ =>
            iA (s4 + 1) fun y2 =>
            iB (iP y2) fun x6 =>
            iP (Sum.inl x6)) 265) fun s3 =>
      iB (iGt this 2) fun x7 =>
      iA (x7 - 1) fun y3 =>
      iB (iPt this 2 y3) fun _ =>
      iP ()) fun s2 =>
  iB (α := Unit) (
    iW (S := Int) (α := Unit) (fun s9 =>
      if 265 ≤ s9 then
        iP (Sum.inr ())
      else
        iB (iGt this 2) fun x10 =>
        iB (iLd (qm_rf this 0) s9) fun x11 =>
        iA (265 * x10) fun y4 =>
        iA (y4 + s9) fun y5 =>
        iB (iSt (qm_rf this 1) y5 x11) fun _ =>
        iA (s9 + 1) fun y6 =>
        iB (iP y6) fun x12 =>
        iP (Sum.inl x12)) 0) fun s8 =>
  iB (iGt this 2) fun x13 =>
  iA (x13 + 1) fun y7 =>
  iB (iPt this 2 y7) fun _ =>
  iP ()
set_option maxRecDepth 20000 in
set_option maxHeartbeats 2000000 in
theorem is_Model_keepsAct {this : Nat} : iS (jf_Model_keepsAct this) (iz_Model_keepsAct this) id1 := by
  unfold jf_Model_keepsAct iz_Model_keepsAct
  refine is_B (V := Int32.toInt) (is_Gt rfl) (fun x1 => ?_)
  refine is_B (V := id1) ?_ (fun s2 => ?_)
  ·
    refine is_if (ti_not (ti_eq rfl tl_10)) ?_ ?_
    ·
      exact is_P rfl
    ·
      refine is_B (V := id1) ?_ (fun s3 => ?_)
      ·
        refine is_W (V := Int32.toInt) (W := id1) (fun s4 => ?_) tl_265
        refine is_if (ti_le tl_2650 rfl) ?_ ?_
        ·
          exact is_P (pinr rfl)
        ·
          refine is_B (V := Int32.toInt) (is_Ld rfl) (fun x5 => ?_)
          refine is_A (fun h1 => ?_)
          refine is_B (V := id1) (is_St (ti_sub rfl tl_265 h1) rfl) (fun _ => ?_)
          refine is_A (fun h2 => ?_)
          refine is_B (V := Int32.toInt) (is_P (ti_add rfl tl_1 h2)) (fun x6 => ?_)
          exact is_P (pinl rfl)
      refine is_B (V := Int32.toInt) (is_Gt rfl) (fun x7 => ?_)
      refine is_A (fun h3 => ?_)
      refine is_B (V := id1) (is_Pt rfl (ti_sub rfl tl_1 h3)) (fun _ => ?_)
      exact is_P rfl
  refine is_B (V := id1) ?_ (fun s8 => ?_)
  ·
    refine is_W (V := Int32.toInt) (W := id1) (fun s9 => ?_) tl_0
    refine is_if (ti_le tl_265 rfl) ?_ ?_
    ·
      exact is_P (pinr rfl)
    ·
      refine is_B (V := Int32.toInt) (is_Gt rfl) (fun x10 => ?_)
      refine is_B (V := Int32.toInt) (is_Ld rfl) (fun x11 => ?_)
      refine is_A (fun h4 => ?_)
      refine is_A (fun h5 => ?_)
      refine is_B (V := id1) (is_St (ti_add (ti_mul tl_265 rfl h4) rfl h5) rfl) (fun _ => ?_)
      refine is_A (fun h6 => ?_)
      refine is_B (V := Int32.toInt) (is_P (ti_add rfl tl_1 h6)) (fun x12 => ?_)
      exact is_P (pinl rfl)
  refine is_B (V := Int32.toInt) (is_Gt rfl) (fun x13 => ?_)
  refine is_A (fun h7 => ?_)
  refine is_B (V := id1) (is_Pt rfl (ti_add rfl tl_1 h7)) (fun _ => ?_)
  exact is_P rfl
noncomputable def iz_Model_set (this : Nat) (p1 : Int) (p2 : Int) : iM Int :=
  iB (iz_Model_isSetting p1 p2) fun x1 =>
  if ¬ x1 = 0 then
    iB (iLd (qm_rf this 0) p1) fun x2 =>
    if ¬ x2 = p2 then
      iB (iz_Model_keepsAct this) fun _ =>
      iB (iSt (qm_rf this 0) p1 p2) fun _ =>
      iP x2
    else
      iP (-2)
  else
    iP (-1)
set_option maxRecDepth 20000 in
set_option maxHeartbeats 2000000 in
theorem is_Model_set {this : Nat} {p1 : Int32} {p1' : Int} {p2 : Int32} {p2' : Int} (qp1 : p1.toInt = p1') (qp2 : p2.toInt = p2') : iS (jf_Model_set this p1 p2) (iz_Model_set this p1' p2') Int32.toInt := by
  subst qp1 qp2
  unfold jf_Model_set iz_Model_set
  refine is_B (V := Int32.toInt) (is_Model_isSetting rfl rfl) (fun x1 => ?_)
  refine is_if (ti_not (ti_eq rfl tl_0)) ?_ ?_
  ·
    refine is_B (V := Int32.toInt) (is_Ld rfl) (fun x2 => ?_)
    refine is_if (ti_not (ti_eq rfl rfl)) ?_ ?_
    ·
      refine is_B (V := id1) (is_Model_keepsAct) (fun _ => ?_)
      refine is_B (V := id1) (is_St rfl rfl) (fun _ => ?_)
      exact is_P rfl
    ·
      exact is_P tl_m2
  ·
    exact is_P tl_m1
noncomputable def iz_Model_isPlain (this : Nat) (p1 : Int) : iM Int :=
  iB (iz_Model_isBlock this p1) fun x1 =>
  if x1 = 0 then
    iP 0
  else
    iB (iz_Model_of this p1 0) fun x2 =>
    if x2 = 4 then
      iP 0
    else
      iP 1
set_option maxRecDepth 20000 in
set_option maxHeartbeats 2000000 in
theorem is_Model_isPlain {this : Nat} {p1 : Int32} {p1' : Int} (qp1 : p1.toInt = p1') : iS (jf_Model_isPlain this p1) (iz_Model_isPlain this p1') Int32.toInt := by
  subst qp1
  unfold jf_Model_isPlain iz_Model_isPlain
  refine is_B (V := Int32.toInt) (is_Model_isBlock rfl) (fun x1 => ?_)
  refine is_if (ti_eq rfl tl_0) ?_ ?_
  ·
    exact is_P tl_0
  ·
    refine is_B (V := Int32.toInt) (is_Model_of rfl tl_0) (fun x2 => ?_)
    refine is_if (ti_eq rfl tl_4) ?_ ?_
    ·
      exact is_P tl_0
    ·
      exact is_P tl_1
noncomputable def iz_Model_tie (this : Nat) (p1 : Int) (p2 : Int) : iM Int :=
  iB (iz_Model_isPlain this p1) fun x1 =>
  if ¬ x1 = 0 then
    iB (iz_Model_of this p1 4) fun x2 =>
    iB (α := Int) (
      if ¬ x2 = 1 then
        iP 0
      else
        iP 1) fun s3 =>
    if ¬ s3 = p2 then
      iB (iz_Model_keepsAct this) fun _ =>
      if p2 = 0 then
        iA (16 * p1) fun y1 =>
        iA (9 + y1) fun y2 =>
        iA (y2 + 4) fun y3 =>
        iB (iSt (qm_rf this 0) y3 0) fun _ =>
        iP 1
      else
        iA (16 * p1) fun y4 =>
        iA (9 + y4) fun y5 =>
        iA (y5 + 4) fun y6 =>
        iB (iSt (qm_rf this 0) y6 1) fun _ =>
        iP 1
    else
      iP (-2)
  else
    iP (-1)
set_option maxRecDepth 20000 in
set_option maxHeartbeats 2000000 in
theorem is_Model_tie {this : Nat} {p1 : Int32} {p1' : Int} {p2 : Int32} {p2' : Int} (qp1 : p1.toInt = p1') (qp2 : p2.toInt = p2') : iS (jf_Model_tie this p1 p2) (iz_Model_tie this p1' p2') Int32.toInt := by
  subst qp1 qp2
  unfold jf_Model_tie iz_Model_tie
  refine is_B (V := Int32.toInt) (is_Model_isPlain rfl) (fun x1 => ?_)
  refine is_if (ti_not (ti_eq rfl tl_0)) ?_ ?_
  ·
    refine is_B (V := Int32.toInt) (is_Model_of rfl tl_4) (fun x2 => ?_)
    refine is_B (V := Int32.toInt) ?_ (fun s3 => ?_)
    ·
      refine is_if (ti_not (ti_eq rfl tl_1)) ?_ ?_
      ·
        exact is_P tl_0
      ·
        exact is_P tl_1
    refine is_if (ti_not (ti_eq rfl rfl)) ?_ ?_
    ·
      refine is_B (V := id1) (is_Model_keepsAct) (fun _ => ?_)
      refine is_if (ti_eq rfl tl_0) ?_ ?_
      ·
        refine is_A (fun h1 => ?_)
        refine is_A (fun h2 => ?_)
        refine is_A (fun h3 => ?_)
        refine is_B (V := id1) (is_St (ti_add (ti_add tl_9 (ti_mul tl_16 rfl h1) h2) tl_4 h3) tl_0) (fun _ => ?_)
        exact is_P tl_1
      ·
        refine is_A (fun h4 => ?_)
        refine is_A (fun h5 => ?_)
        refine is_A (fun h6 => ?_)
        refine is_B (V := id1) (is_St (ti_add (ti_add tl_9 (ti_mul tl_16 rfl h4) h5) tl_4 h6) tl_1) (fun _ => ?_)
        exact is_P tl_1
    ·
      exact is_P tl_m2
  ·
    exact is_P tl_m1
noncomputable def iz_Model_space (this : Nat) (p1 : Int) (p2 : Int) : iM Int :=
  iB (iz_Model_isPlain this p1) fun x1 =>
  if x1 = 0 then
    iP (-1)
  else
    iB (iz_Model_in p2 0 30) fun x2 =>
    if ¬ x2 = 0 then
      iB (iz_Model_of this p1 6) fun x3 =>
      if ¬ x3 = p2 then
        iB (iz_Model_keepsAct this) fun _ =>
        iA (16 * p1) fun y1 =>
        iA (9 + y1) fun y2 =>
        iA (y2 + 6) fun y3 =>
        iB (iSt (qm_rf this 0) y3 p2) fun _ =>
        iP x3
      else
        iP (-2)
    else
      iP (-1)
set_option maxRecDepth 20000 in
set_option maxHeartbeats 2000000 in
theorem is_Model_space {this : Nat} {p1 : Int32} {p1' : Int} {p2 : Int32} {p2' : Int} (qp1 : p1.toInt = p1') (qp2 : p2.toInt = p2') : iS (jf_Model_space this p1 p2) (iz_Model_space this p1' p2') Int32.toInt := by
  subst qp1 qp2
  unfold jf_Model_space iz_Model_space
  refine is_B (V := Int32.toInt) (is_Model_isPlain rfl) (fun x1 => ?_)
  refine is_if (ti_eq rfl tl_0) ?_ ?_
  ·
    exact is_P tl_m1
  ·
    refine is_B (V := Int32.toInt) (is_Model_in (ti_64 rfl) t64_0 t64_30) (fun x2 => ?_)
    refine is_if (ti_not (ti_eq rfl tl_0)) ?_ ?_
    ·
      refine is_B (V := Int32.toInt) (is_Model_of rfl tl_6) (fun x3 => ?_)
      refine is_if (ti_not (ti_eq rfl rfl)) ?_ ?_
      ·
        refine is_B (V := id1) (is_Model_keepsAct) (fun _ => ?_)
        refine is_A (fun h1 => ?_)
        refine is_A (fun h2 => ?_)
        refine is_A (fun h3 => ?_)
        refine is_B (V := id1) (is_St (ti_add (ti_add tl_9 (ti_mul tl_16 rfl h1) h2) tl_6 h3) rfl) (fun _ => ?_)
        exact is_P rfl
      ·
        exact is_P tl_m2
    ·
      exact is_P tl_m1
noncomputable def iz_Model_swap (this : Nat) (p1 : Int) (p2 : Int) : iM Int :=
  iB (iz_Model_isBlock this p1) fun x1 =>
  if x1 = 0 then
    iP (-1)
  else
    iB (iz_Model_isBlock this p2) fun x2 =>
    if x2 = 0 then
      iP (-1)
    else
      if ¬ p1 = p2 then
        iB (iz_Model_keepsAct this) fun _ =>
        iB (iz_Model_trades this p1 p2) fun _ =>
        iP 1
      else
        iP (-1)
set_option maxRecDepth 20000 in
set_option maxHeartbeats 2000000 in
theorem is_Model_swap {this : Nat} {p1 : Int32} {p1' : Int} {p2 : Int32} {p2' : Int} (qp1 : p1.toInt = p1') (qp2 : p2.toInt = p2') : iS (jf_Model_swap this p1 p2) (iz_Model_swap this p1' p2') Int32.toInt := by
  subst qp1 qp2
  unfold jf_Model_swap iz_Model_swap
  refine is_B (V := Int32.toInt) (is_Model_isBlock rfl) (fun x1 => ?_)
  refine is_if (ti_eq rfl tl_0) ?_ ?_
  ·
    exact is_P tl_m1
  ·
    refine is_B (V := Int32.toInt) (is_Model_isBlock rfl) (fun x2 => ?_)
    refine is_if (ti_eq rfl tl_0) ?_ ?_
    ·
      exact is_P tl_m1
    ·
      refine is_if (ti_not (ti_eq rfl rfl)) ?_ ?_
      ·
        refine is_B (V := id1) (is_Model_keepsAct) (fun _ => ?_)
        refine is_B (V := id1) (is_Model_trades rfl rfl) (fun _ => ?_)
        exact is_P tl_1
      ·
        exact is_P tl_m1
noncomputable def iz_Model_again (this : Nat) (p1 : Int) : iM Int :=
  iB (iz_Model_isBlock this p1) fun x1 =>
  if ¬ x1 = 0 then
    iB (iz_Model_lays this) fun _ =>
    iB (iz_Model_blocks this) fun x2 =>
    if x2 = 16 then
      iP (-2)
    else
      iB (iGt this 13) fun x3 =>
      iB (iz_Model_of this p1 1) fun x4 =>
      iA (x3 + x4) fun y1 =>
      if y1 ≤ 90 then
        iB (iz_Model_keepsAct this) fun _ =>
        iB (α := Unit) (
          iW (S := Int) (α := Unit) (fun s6 =>
            if 16 ≤ s6 then
              iP (Sum.inr ())
            else
              iB (iz_Model_blocks this) fun x7 =>
              iB (iz_Model_of this p1 s6) fun x8 =>
              iA (16 * x7) fun y2 =>
              iA (9 + y2) fun y3 =>
              iA (y3 + s6) fun y4 =>
              iB (iSt (qm_rf this 0) y4 x8) fun _ =>
              iA (s6 + 1) fun y5 =>
              iB (iP y5) fun x9 =>
              iP (Sum.inl x9)) 0) fun s5 =>
        iB (iLd (qm_rf this 0) 8) fun x10 =>
        iA (x10 + 1) fun y6 =>
        iB (iSt (qm_rf this 0) 8 y6) fun _ =>
        iB (iz_Model_blocks this) fun x11 =>
        iP x11
      else
        iP (-2)
  else
    iP (-1)
set_option maxRecDepth 20000 in
set_option maxHeartbeats 2000000 in
theorem is_Model_again {this : Nat} {p1 : Int32} {p1' : Int} (qp1 : p1.toInt = p1') : iS (jf_Model_again this p1) (iz_Model_again this p1') Int32.toInt := by
  subst qp1
  unfold jf_Model_again iz_Model_again
  refine is_B (V := Int32.toInt) (is_Model_isBlock rfl) (fun x1 => ?_)
  refine is_if (ti_not (ti_eq rfl tl_0)) ?_ ?_
  ·
    refine is_B (V := id1) (is_Model_lays) (fun _ => ?_)
    refine is_B (V := Int32.toInt) (is_Model_blocks) (fun x2 => ?_)
    refine is_if (ti_eq rfl tl_16) ?_ ?_
    ·
      exact is_P tl_m2
    ·
      refine is_B (V := Int32.toInt) (is_Gt rfl) (fun x3 => ?_)
      refine is_B (V := Int32.toInt) (is_Model_of rfl tl_1) (fun x4 => ?_)
      refine is_A (fun h1 => ?_)
      refine is_if (ti_le (ti_add rfl rfl h1) tl_90) ?_ ?_
      ·
        refine is_B (V := id1) (is_Model_keepsAct) (fun _ => ?_)
        refine is_B (V := id1) ?_ (fun s5 => ?_)
        ·
          refine is_W (V := Int32.toInt) (W := id1) (fun s6 => ?_) tl_0
          refine is_if (ti_le tl_16 rfl) ?_ ?_
          ·
            exact is_P (pinr rfl)
          ·
            refine is_B (V := Int32.toInt) (is_Model_blocks) (fun x7 => ?_)
            refine is_B (V := Int32.toInt) (is_Model_of rfl rfl) (fun x8 => ?_)
            refine is_A (fun h2 => ?_)
            refine is_A (fun h3 => ?_)
            refine is_A (fun h4 => ?_)
            refine is_B (V := id1) (is_St (ti_add (ti_add tl_9 (ti_mul tl_16 rfl h2) h3) rfl h4) rfl) (fun _ => ?_)
            refine is_A (fun h5 => ?_)
            refine is_B (V := Int32.toInt) (is_P (ti_add rfl tl_1 h5)) (fun x9 => ?_)
            exact is_P (pinl rfl)
        refine is_B (V := Int32.toInt) (is_Ld tl_8) (fun x10 => ?_)
        refine is_A (fun h6 => ?_)
        refine is_B (V := id1) (is_St tl_8 (ti_add rfl tl_1 h6)) (fun _ => ?_)
        refine is_B (V := Int32.toInt) (is_Model_blocks) (fun x11 => ?_)
        exact is_P rfl
      ·
        exact is_P tl_m2
  ·
    exact is_P tl_m1
noncomputable def iz_Model_drop (this : Nat) (p1 : Int) : iM Int :=
  iB (iz_Model_isBlock this p1) fun x1 =>
  if ¬ x1 = 0 then
    iB (iz_Model_keepsAct this) fun _ =>
    iB (iLd (qm_rf this 0) 8) fun x2 =>
    iA (x2 - 1) fun y1 =>
    iB (iSt (qm_rf this 0) 8 y1) fun _ =>
    iA (16 * p1) fun y2 =>
    iA (9 + y2) fun y3 =>
    iB (iP y3) fun x3 =>
    iB (α := Unit) (
      iW (S := Int) (α := Unit) (fun s5 =>
        iB (iz_Model_blocks this) fun x6 =>
        iA (16 * x6) fun y4 =>
        iA (9 + y4) fun y5 =>
        if y5 ≤ s5 then
          iP (Sum.inr ())
        else
          iA (s5 + 16) fun y6 =>
          iB (iLd (qm_rf this 0) y6) fun x7 =>
          iB (iSt (qm_rf this 0) s5 x7) fun _ =>
          iA (s5 + 1) fun y7 =>
          iB (iP y7) fun x8 =>
          iP (Sum.inl x8)) x3) fun s4 =>
    iB (iz_Model_blocks this) fun x9 =>
    iP x9
  else
    iP (-1)
set_option maxRecDepth 20000 in
set_option maxHeartbeats 2000000 in
theorem is_Model_drop {this : Nat} {p1 : Int32} {p1' : Int} (qp1 : p1.toInt = p1') : iS (jf_Model_drop this p1) (iz_Model_drop this p1') Int32.toInt := by
  subst qp1
  unfold jf_Model_drop iz_Model_drop
  refine is_B (V := Int32.toInt) (is_Model_isBlock rfl) (fun x1 => ?_)
  refine is_if (ti_not (ti_eq rfl tl_0)) ?_ ?_
  ·
    refine is_B (V := id1) (is_Model_keepsAct) (fun _ => ?_)
    refine is_B (V := Int32.toInt) (is_Ld tl_8) (fun x2 => ?_)
    refine is_A (fun h1 => ?_)
    refine is_B (V := id1) (is_St tl_8 (ti_sub rfl tl_1 h1)) (fun _ => ?_)
    refine is_A (fun h2 => ?_)
    refine is_A (fun h3 => ?_)
    refine is_B (V := Int32.toInt) (is_P (ti_add tl_9 (ti_mul tl_16 rfl h2) h3)) (fun x3 => ?_)
    refine is_B (V := id1) ?_ (fun s4 => ?_)
    ·
      refine is_W (V := Int32.toInt) (W := id1) (fun s5 => ?_) rfl
      refine is_B (V := Int32.toInt) (is_Model_blocks) (fun x6 => ?_)
      refine is_A (fun h4 => ?_)
      refine is_A (fun h5 => ?_)
      refine is_if (ti_le (ti_add tl_9 (ti_mul tl_16 rfl h4) h5) rfl) ?_ ?_
      ·
        exact is_P (pinr rfl)
      ·
        refine is_A (fun h6 => ?_)
        refine is_B (V := Int32.toInt) (is_Ld (ti_add rfl tl_16 h6)) (fun x7 => ?_)
        refine is_B (V := id1) (is_St rfl rfl) (fun _ => ?_)
        refine is_A (fun h7 => ?_)
        refine is_B (V := Int32.toInt) (is_P (ti_add rfl tl_1 h7)) (fun x8 => ?_)
        exact is_P (pinl rfl)
    refine is_B (V := Int32.toInt) (is_Model_blocks) (fun x9 => ?_)
    exact is_P rfl
  ·
    exact is_P tl_m1
noncomputable def iz_Model_undo (this : Nat) : iM Int :=
  iB (iGt this 2) fun x1 =>
  if ¬ x1 = 0 then
    iB (iGt this 2) fun x2 =>
    iA (x2 - 1) fun y1 =>
    iB (iPt this 2 y1) fun _ =>
    iB (α := Unit) (
      iW (S := Int) (α := Unit) (fun s4 =>
        if 265 ≤ s4 then
          iP (Sum.inr ())
        else
          iB (iGt this 2) fun x5 =>
          iA (265 * x5) fun y2 =>
          iA (y2 + s4) fun y3 =>
          iB (iLd (qm_rf this 1) y3) fun x6 =>
          iB (iSt (qm_rf this 0) s4 x6) fun _ =>
          iA (s4 + 1) fun y4 =>
          iB (iP y4) fun x7 =>
          iP (Sum.inl x7)) 0) fun s3 =>
    iB (iGt this 2) fun x8 =>
    iP x8
  else
    iP (-1)
set_option maxRecDepth 20000 in
set_option maxHeartbeats 2000000 in
theorem is_Model_undo {this : Nat} : iS (jf_Model_undo this) (iz_Model_undo this) Int32.toInt := by
  unfold jf_Model_undo iz_Model_undo
  refine is_B (V := Int32.toInt) (is_Gt rfl) (fun x1 => ?_)
  refine is_if (ti_not (ti_eq rfl tl_0)) ?_ ?_
  ·
    refine is_B (V := Int32.toInt) (is_Gt rfl) (fun x2 => ?_)
    refine is_A (fun h1 => ?_)
    refine is_B (V := id1) (is_Pt rfl (ti_sub rfl tl_1 h1)) (fun _ => ?_)
    refine is_B (V := id1) ?_ (fun s3 => ?_)
    ·
      refine is_W (V := Int32.toInt) (W := id1) (fun s4 => ?_) tl_0
      refine is_if (ti_le tl_265 rfl) ?_ ?_
      ·
        exact is_P (pinr rfl)
      ·
        refine is_B (V := Int32.toInt) (is_Gt rfl) (fun x5 => ?_)
        refine is_A (fun h2 => ?_)
        refine is_A (fun h3 => ?_)
        refine is_B (V := Int32.toInt) (is_Ld (ti_add (ti_mul tl_265 rfl h2) rfl h3)) (fun x6 => ?_)
        refine is_B (V := id1) (is_St rfl rfl) (fun _ => ?_)
        refine is_A (fun h4 => ?_)
        refine is_B (V := Int32.toInt) (is_P (ti_add rfl tl_1 h4)) (fun x7 => ?_)
        exact is_P (pinl rfl)
    refine is_B (V := Int32.toInt) (is_Gt rfl) (fun x8 => ?_)
    exact is_P rfl
  ·
    exact is_P tl_m1
noncomputable def iz_Model_keep (this : Nat) (p1 : Int) : iM Int :=
  iB (iz_Model_in p1 0 1) fun x1 =>
  if ¬ x1 = 0 then
    iB (α := Unit) (
      iW (S := Int) (α := Unit) (fun s3 =>
        if 265 ≤ s3 then
          iP (Sum.inr ())
        else
          iB (iLd (qm_rf this 0) s3) fun x4 =>
          iA (265 * p1) fun y1 =>
          iA (y1 + s3) fun y2 =>
          iB (iSt (qm_rf this 3) y2 x4) fun _ =>
          iA (s3 + 1) fun y3 =>
          iB (iP y3) fun x5 =>
          iP (Sum.inl x5)) 0) fun s2 =>
    iB (iSz (qm_rf this 4) p1 1) fun _ =>
    iB (iz_Model_blocks this) fun x6 =>
    iP x6
  else
    iP (-1)
set_option maxRecDepth 20000 in
set_option maxHeartbeats 2000000 in
theorem is_Model_keep {this : Nat} {p1 : Int32} {p1' : Int} (qp1 : p1.toInt = p1') : iS (jf_Model_keep this p1) (iz_Model_keep this p1') Int32.toInt := by
  subst qp1
  unfold jf_Model_keep iz_Model_keep
  refine is_B (V := Int32.toInt) (is_Model_in (ti_64 rfl) t64_0 t64_1) (fun x1 => ?_)
  refine is_if (ti_not (ti_eq rfl tl_0)) ?_ ?_
  ·
    refine is_B (V := id1) ?_ (fun s2 => ?_)
    ·
      refine is_W (V := Int32.toInt) (W := id1) (fun s3 => ?_) tl_0
      refine is_if (ti_le tl_265 rfl) ?_ ?_
      ·
        exact is_P (pinr rfl)
      ·
        refine is_B (V := Int32.toInt) (is_Ld rfl) (fun x4 => ?_)
        refine is_A (fun h1 => ?_)
        refine is_A (fun h2 => ?_)
        refine is_B (V := id1) (is_St (ti_add (ti_mul tl_265 rfl h1) rfl h2) rfl) (fun _ => ?_)
        refine is_A (fun h3 => ?_)
        refine is_B (V := Int32.toInt) (is_P (ti_add rfl tl_1 h3)) (fun x5 => ?_)
        exact is_P (pinl rfl)
    refine is_B (V := id1) (is_Sz rfl tl_1) (fun _ => ?_)
    refine is_B (V := Int32.toInt) (is_Model_blocks) (fun x6 => ?_)
    exact is_P rfl
  ·
    exact is_P tl_m1
noncomputable def iz_Model_back (this : Nat) (p1 : Int) : iM Int :=
  iB (iz_Model_in p1 0 1) fun x1 =>
  if ¬ x1 = 0 then
    iB (iLd (qm_rf this 4) p1) fun x2 =>
    if ¬ x2 = 0 then
      iB (α := Unit) (
        iW (S := Int) (α := Unit) (fun s4 =>
          if 265 ≤ s4 then
            iP (Sum.inr ())
          else
            iA (265 * p1) fun y1 =>
            iA (y1 + s4) fun y2 =>
            iB (iLd (qm_rf this 3) y2) fun x5 =>
            iB (iSt (qm_rf this 0) s4 x5) fun _ =>
            iA (s4 + 1) fun y3 =>
            iB (iP y3) fun x6 =>
            iP (Sum.inl x6)) 0) fun s3 =>
      iB (iPt this 2 0) fun _ =>
      iB (iz_Model_blocks this) fun x7 =>
      iP x7
    else
      iP (-2)
  else
    iP (-1)
set_option maxRecDepth 20000 in
set_option maxHeartbeats 2000000 in
theorem is_Model_back {this : Nat} {p1 : Int32} {p1' : Int} (qp1 : p1.toInt = p1') : iS (jf_Model_back this p1) (iz_Model_back this p1') Int32.toInt := by
  subst qp1
  unfold jf_Model_back iz_Model_back
  refine is_B (V := Int32.toInt) (is_Model_in (ti_64 rfl) t64_0 t64_1) (fun x1 => ?_)
  refine is_if (ti_not (ti_eq rfl tl_0)) ?_ ?_
  ·
    refine is_B (V := Int32.toInt) (is_Ld rfl) (fun x2 => ?_)
    refine is_if (ti_not (ti_eq rfl tl_0)) ?_ ?_
    ·
      refine is_B (V := id1) ?_ (fun s3 => ?_)
      ·
        refine is_W (V := Int32.toInt) (W := id1) (fun s4 => ?_) tl_0
        refine is_if (ti_le tl_265 rfl) ?_ ?_
        ·
          exact is_P (pinr rfl)
        ·
          refine is_A (fun h1 => ?_)
          refine is_A (fun h2 => ?_)
          refine is_B (V := Int32.toInt) (is_Ld (ti_add (ti_mul tl_265 rfl h1) rfl h2)) (fun x5 => ?_)
          refine is_B (V := id1) (is_St rfl rfl) (fun _ => ?_)
          refine is_A (fun h3 => ?_)
          refine is_B (V := Int32.toInt) (is_P (ti_add rfl tl_1 h3)) (fun x6 => ?_)
          exact is_P (pinl rfl)
      refine is_B (V := id1) (is_Pt rfl tl_0) (fun _ => ?_)
      refine is_B (V := Int32.toInt) (is_Model_blocks) (fun x7 => ?_)
      exact is_P rfl
    ·
      exact is_P tl_m2
  ·
    exact is_P tl_m1
noncomputable def iz_Model_count (this : Nat) (p1 : Int) : iM Int :=
  iB (iz_Model_lays this) fun _ =>
  iB (iz_Model_in p1 10 17) fun x1 =>
  if x1 = 0 then
    if p1 = 0 then
      iB (iz_Model_blocks this) fun x2 =>
      iP x2
    else
      if p1 = 1 then
        iB (iGt this 13) fun x3 =>
        iP x3
      else
        if p1 = 2 then
          iB (iGt this 16) fun x4 =>
          iP x4
        else
          if p1 = 3 then
            iB (iz_Model_notes this) fun x5 =>
            iP x5
          else
            if p1 = 4 then
              iB (iGt this 2) fun x6 =>
              iP x6
            else
              if p1 = 5 then
                iB (iGt this 45) fun x7 =>
                iP x7
              else
                if p1 = 6 then
                  iB (iLd (qm_rf this 4) 0) fun x8 =>
                  iB (α := Int) (
                    if x8 = 0 then
                      iP 0
                    else
                      iP 1) fun s9 =>
                  iB (iLd (qm_rf this 4) 1) fun x10 =>
                  if x10 = 0 then
                    iA (s9 + 0) fun y1 =>
                    iP y1
                  else
                    iA (s9 + 2) fun y2 =>
                    iP y2
                else
                  if p1 = 7 then
                    iB (iGt this 16) fun x11 =>
                    if ¬ x11 = 0 then
                      iB (iGt this 16) fun x12 =>
                      iA (x12 - 1) fun y3 =>
                      iP y3
                    else
                      iP 0
                  else
                    iP (-1)
  else
    iA (p1 - 10) fun y4 =>
    iB (iLd (qm_rf this 0) y4) fun x13 =>
    iP x13
set_option maxRecDepth 20000 in
set_option maxHeartbeats 2000000 in
theorem is_Model_count {this : Nat} {p1 : Int32} {p1' : Int} (qp1 : p1.toInt = p1') : iS (jf_Model_count this p1) (iz_Model_count this p1') Int32.toInt := by
  subst qp1
  unfold jf_Model_count iz_Model_count
  refine is_B (V := id1) (is_Model_lays) (fun _ => ?_)
  refine is_B (V := Int32.toInt) (is_Model_in (ti_64 rfl) t64_10 t64_17) (fun x1 => ?_)
  refine is_if (ti_eq rfl tl_0) ?_ ?_
  ·
    refine is_if (ti_eq rfl tl_0) ?_ ?_
    ·
      refine is_B (V := Int32.toInt) (is_Model_blocks) (fun x2 => ?_)
      exact is_P rfl
    ·
      refine is_if (ti_eq rfl tl_1) ?_ ?_
      ·
        refine is_B (V := Int32.toInt) (is_Gt rfl) (fun x3 => ?_)
        exact is_P rfl
      ·
        refine is_if (ti_eq rfl tl_2) ?_ ?_
        ·
          refine is_B (V := Int32.toInt) (is_Gt rfl) (fun x4 => ?_)
          exact is_P rfl
        ·
          refine is_if (ti_eq rfl tl_3) ?_ ?_
          ·
            refine is_B (V := Int32.toInt) (is_Model_notes) (fun x5 => ?_)
            exact is_P rfl
          ·
            refine is_if (ti_eq rfl tl_4) ?_ ?_
            ·
              refine is_B (V := Int32.toInt) (is_Gt rfl) (fun x6 => ?_)
              exact is_P rfl
            ·
              refine is_if (ti_eq rfl tl_5) ?_ ?_
              ·
                refine is_B (V := Int32.toInt) (is_Gt rfl) (fun x7 => ?_)
                exact is_P rfl
              ·
                refine is_if (ti_eq rfl tl_6) ?_ ?_
                ·
                  refine is_B (V := Int32.toInt) (is_Ld tl_0) (fun x8 => ?_)
                  refine is_B (V := Int32.toInt) ?_ (fun s9 => ?_)
                  ·
                    refine is_if (ti_eq rfl tl_0) ?_ ?_
                    ·
                      exact is_P tl_0
                    ·
                      exact is_P tl_1
                  refine is_B (V := Int32.toInt) (is_Ld tl_1) (fun x10 => ?_)
                  refine is_if (ti_eq rfl tl_0) ?_ ?_
                  ·
                    refine is_A (fun h1 => ?_)
                    exact is_P (ti_add rfl tl_0 h1)
                  ·
                    refine is_A (fun h2 => ?_)
                    exact is_P (ti_add rfl tl_2 h2)
                ·
                  refine is_if (ti_eq rfl tl_7) ?_ ?_
                  ·
                    refine is_B (V := Int32.toInt) (is_Gt rfl) (fun x11 => ?_)
                    refine is_if (ti_not (ti_eq rfl tl_0)) ?_ ?_
                    ·
                      refine is_B (V := Int32.toInt) (is_Gt rfl) (fun x12 => ?_)
                      refine is_A (fun h3 => ?_)
                      exact is_P (ti_sub rfl tl_1 h3)
                    ·
                      exact is_P tl_0
                  ·
                    exact is_P tl_m1
  ·
    refine is_A (fun h4 => ?_)
    refine is_B (V := Int32.toInt) (is_Ld (ti_sub rfl tl_10 h4)) (fun x13 => ?_)
    exact is_P rfl
noncomputable def iz_Teller_isWord (this : Nat) (p1 : Int) (p2 : Int) (p3 : Int) : iM Int :=
  iA (p3 - p2) fun y1 =>
  iB (iP y1) fun x1 =>
  if p1 < 0 then
    iP 0
  else
    if x1 ≤ 0 then
      iP 0
    else
      iB (iz_String_length 408) fun x2 =>
      iA (p1 + x1) fun y2 =>
      if x2 ≤ y2 then
        iP 0
      else
        iA (p1 + x1) fun y3 =>
        iB (iz_String_charAt 408 y3) fun x3 =>
        if x3 = 32 then
          iB (α := (Unit ⊕ Int)) (
            iW (S := Int) (α := (Unit ⊕ Int)) (fun s5 =>
              if x1 ≤ s5 then
                iP (Sum.inr (Sum.inl ()))
              else
                iA (p1 + s5) fun y4 =>
                iB (iz_String_charAt 408 y4) fun x6 =>
                iA (p2 + s5) fun y5 =>
                iB (iz_Top_at (qm_rf (qm_rf this 0) 0) y5) fun x7 =>
                if x6 = x7 then
                  iA (s5 + 1) fun y6 =>
                  iB (iP y6) fun x8 =>
                  iP (Sum.inl x8)
                else
                  iP (Sum.inr (Sum.inr 0))) 0) (Sum.elim (fun s4 =>
            iP 1) iP)
        else
          iP 0
set_option maxRecDepth 20000 in
set_option maxHeartbeats 2000000 in
theorem is_Teller_isWord {this : Nat} {p1 : Int32} {p1' : Int} {p2 : Int32} {p2' : Int} {p3 : Int32} {p3' : Int} (qp1 : p1.toInt = p1') (qp2 : p2.toInt = p2') (qp3 : p3.toInt = p3') : iS (jf_Teller_isWord this p1 p2 p3) (iz_Teller_isWord this p1' p2' p3') Int32.toInt := by
  subst qp1 qp2 qp3
  unfold jf_Teller_isWord iz_Teller_isWord
  refine is_A (fun h1 => ?_)
  refine is_B (V := Int32.toInt) (is_P (ti_sub rfl rfl h1)) (fun x1 => ?_)
  refine is_if (ti_lt rfl tl_0) ?_ ?_
  ·
    exact is_P tl_0
  ·
    refine is_if (ti_le rfl tl_0) ?_ ?_
    ·
      exact is_P tl_0
    ·
      refine is_B (V := Int32.toInt) (is_String_length) (fun x2 => ?_)
      refine is_A (fun h2 => ?_)
      refine is_if (ti_le rfl (ti_add rfl rfl h2)) ?_ ?_
      ·
        exact is_P tl_0
      ·
        refine is_A (fun h3 => ?_)
        refine is_B (V := Int32.toInt) (is_String_charAt (ti_add rfl rfl h3)) (fun x3 => ?_)
        refine is_if (ti_eq rfl tl_32) ?_ ?_
        ·
          refine is_E (V := id1) ?_ (fun s4 => ?_)
          ·
            refine is_W (V := Int32.toInt) (W := (is2 id1 Int32.toInt)) (fun s5 => ?_) tl_0
            refine is_if (ti_le rfl rfl) ?_ ?_
            ·
              exact is_P (pinr (pinl rfl))
            ·
              refine is_A (fun h4 => ?_)
              refine is_B (V := Int32.toInt) (is_String_charAt (ti_add rfl rfl h4)) (fun x6 => ?_)
              refine is_A (fun h5 => ?_)
              refine is_B (V := Int32.toInt) (is_Top_at (ti_add rfl rfl h5)) (fun x7 => ?_)
              refine is_if (ti_eq rfl rfl) ?_ ?_
              ·
                refine is_A (fun h6 => ?_)
                refine is_B (V := Int32.toInt) (is_P (ti_add rfl tl_1 h6)) (fun x8 => ?_)
                exact is_P (pinl rfl)
              ·
                exact is_P (pinr (pinr tl_0))
          ·
            exact is_P tl_1
        ·
          exact is_P tl_0
noncomputable def iz_Teller_wordOf (this : Nat) (p1 : Int) (p2 : Int) : iM Int :=
  iB (α := (Unit ⊕ Int)) (
    iW (S := (Int × Int)) (α := (Unit ⊕ Int)) (fun s2 =>
      iB (iz_String_length 408) fun x3 =>
      if x3 ≤ s2.2 then
        iP (Sum.inr (Sum.inl ()))
      else
        iB (iz_String_charAt 408 s2.2) fun x4 =>
        iB (α := (Int ⊕ ((Int × Int) ⊕ (Unit ⊕ Int)))) (
          if ¬ x4 = 32 then
            iP (Sum.inl s2.1)
          else
            iA (s2.1 + 1) fun y1 =>
            iB (iP y1) fun x6 =>
            iA (s2.2 + 1) fun y2 =>
            iB (iz_Teller_isWord this y2 p1 p2) fun x7 =>
            if x7 = 0 then
              iP (Sum.inl x6)
            else
              iP (Sum.inr (Sum.inr (Sum.inr x6)))) (Sum.elim (fun s5 =>
          iA (s2.2 + 1) fun y3 =>
          iB (iP y3) fun x8 =>
          iP (Sum.inl (s5, x8))) iP)) ((-1), 0)) (Sum.elim (fun s1 =>
    iP (-1)) iP)
set_option maxRecDepth 20000 in
set_option maxHeartbeats 2000000 in
theorem is_Teller_wordOf {this : Nat} {p1 : Int32} {p1' : Int} {p2 : Int32} {p2' : Int} (qp1 : p1.toInt = p1') (qp2 : p2.toInt = p2') : iS (jf_Teller_wordOf this p1 p2) (iz_Teller_wordOf this p1' p2') Int32.toInt := by
  subst qp1 qp2
  unfold jf_Teller_wordOf iz_Teller_wordOf
  refine is_E (V := id1) ?_ (fun s1 => ?_)
  ·
    refine is_W (V := (ip2 Int32.toInt Int32.toInt)) (W := (is2 id1 Int32.toInt)) (fun s2 => ?_) (ppair tl_m1 tl_0)
    refine is_B (V := Int32.toInt) (is_String_length) (fun x3 => ?_)
    refine is_if (ti_le rfl rfl) ?_ ?_
    ·
      exact is_P (pinr (pinl rfl))
    ·
      refine is_B (V := Int32.toInt) (is_String_charAt rfl) (fun x4 => ?_)
      refine is_E (V := Int32.toInt) ?_ (fun s5 => ?_)
      ·
        refine is_if (ti_not (ti_eq rfl tl_32)) ?_ ?_
        ·
          exact is_P (pinl rfl)
        ·
          refine is_A (fun h1 => ?_)
          refine is_B (V := Int32.toInt) (is_P (ti_add rfl tl_1 h1)) (fun x6 => ?_)
          refine is_A (fun h2 => ?_)
          refine is_B (V := Int32.toInt) (is_Teller_isWord (ti_add rfl tl_1 h2) rfl rfl) (fun x7 => ?_)
          refine is_if (ti_eq rfl tl_0) ?_ ?_
          ·
            exact is_P (pinl rfl)
          ·
            exact is_P (pinr (pinr (pinr rfl)))
      ·
        refine is_A (fun h3 => ?_)
        refine is_B (V := Int32.toInt) (is_P (ti_add rfl tl_1 h3)) (fun x8 => ?_)
        exact is_P (pinl (ppair rfl rfl))
  ·
    exact is_P tl_m1
noncomputable def iz_Teller_split (this : Nat) : iM Unit :=
  iB (α := Int) (
    iW (S := (Int × Int)) (α := Int) (fun s2 =>
      iB (iGt (qm_rf this 0) 1) fun x3 =>
      if x3 ≤ s2.2 then
        iP (Sum.inr s2.1)
      else
        iA (s2.1 + 1) fun y1 =>
        if 401 ≤ y1 then
          iP (Sum.inr s2.1)
        else
          iB (iz_Top_at (qm_rf (qm_rf this 0) 0) s2.2) fun x4 =>
          iA (s2.2 + 1) fun y2 =>
          iB (iP y2) fun x5 =>
          iB (α := (Int × Int)) (
            if x4 = 32 then
              iP (s2.1, x5)
            else
              iB (iz_Teller_signOf x4) fun x7 =>
              iA (x5 - 1) fun y3 =>
              iB (iSt (qm_rf this 3) s2.1 y3) fun _ =>
              iB (iSt (qm_rf this 2) s2.1 x7) fun _ =>
              iB (α := Int) (
                iW (S := Int) (α := Int) (fun s9 =>
                  iB (α := (Unit ⊕ (Int ⊕ Int))) (
                    if x7 = 0 then
                      iP (Sum.inl ())
                    else
                      if ¬ x7 = 1 then
                        iP (Sum.inr (Sum.inr s9))
                      else
                        iP (Sum.inl ())) (Sum.elim (fun s10 =>
                    iB (iGt (qm_rf this 0) 1) fun x11 =>
                    if x11 ≤ s9 then
                      iP (Sum.inr s9)
                    else
                      iB (iz_Top_at (qm_rf (qm_rf this 0) 0) s9) fun x12 =>
                      iB (iz_Teller_signOf x12) fun x13 =>
                      if ¬ x13 = x7 then
                        iP (Sum.inr s9)
                      else
                        iA (s9 + 1) fun y4 =>
                        iB (iP y4) fun x14 =>
                        iP (Sum.inl x14)) iP)) x5) fun s8 =>
              iB (α := Int) (
                if ¬ x7 = 0 then
                  iB (iLd (qm_rf this 3) s2.1) fun x16 =>
                  iB (iz_Teller_numberOf this x16 s8) fun x17 =>
                  iP x17
                else
                  iB (iLd (qm_rf this 3) s2.1) fun x18 =>
                  iB (iz_Teller_wordOf this x18 s8) fun x19 =>
                  iP x19) fun s15 =>
              iB (iSt (qm_rf this 4) s2.1 s15) fun _ =>
              iA (s2.1 + 1) fun y5 =>
              iB (iP y5) fun x20 =>
              iP (x20, s8)) fun s6 =>
          iP (Sum.inl (s6.1, s6.2))) (0, 0)) fun s1 =>
  iB (iSt (qm_rf this 2) s1 4) fun _ =>
  iB (iGt (qm_rf this 0) 1) fun x21 =>
  iB (iSt (qm_rf this 3) s1 x21) fun _ =>
  iP ()
set_option maxRecDepth 20000 in
set_option maxHeartbeats 2000000 in
theorem is_Teller_split {this : Nat} : iS (jf_Teller_split this) (iz_Teller_split this) id1 := by
  unfold jf_Teller_split iz_Teller_split
  refine is_B (V := Int32.toInt) ?_ (fun s1 => ?_)
  ·
    refine is_W (V := (ip2 Int32.toInt Int32.toInt)) (W := Int32.toInt) (fun s2 => ?_) (ppair tl_0 tl_0)
    refine is_B (V := Int32.toInt) (is_Gt rfl) (fun x3 => ?_)
    refine is_if (ti_le rfl rfl) ?_ ?_
    ·
      exact is_P (pinr rfl)
    ·
      refine is_A (fun h1 => ?_)
      refine is_if (ti_le tl_401 (ti_add rfl tl_1 h1)) ?_ ?_
      ·
        exact is_P (pinr rfl)
      ·
        refine is_B (V := Int32.toInt) (is_Top_at rfl) (fun x4 => ?_)
        refine is_A (fun h2 => ?_)
        refine is_B (V := Int32.toInt) (is_P (ti_add rfl tl_1 h2)) (fun x5 => ?_)
        refine is_B (V := (ip2 Int32.toInt Int32.toInt)) ?_ (fun s6 => ?_)
        ·
          refine is_if (ti_eq rfl tl_32) ?_ ?_
          ·
            exact is_P (ppair rfl rfl)
          ·
            refine is_B (V := Int32.toInt) (is_Teller_signOf rfl) (fun x7 => ?_)
            refine is_A (fun h3 => ?_)
            refine is_B (V := id1) (is_St rfl (ti_sub rfl tl_1 h3)) (fun _ => ?_)
            refine is_B (V := id1) (is_St rfl rfl) (fun _ => ?_)
            refine is_B (V := Int32.toInt) ?_ (fun s8 => ?_)
            ·
              refine is_W (V := Int32.toInt) (W := Int32.toInt) (fun s9 => ?_) rfl
              refine is_E (V := id1) ?_ (fun s10 => ?_)
              ·
                refine is_if (ti_eq rfl tl_0) ?_ ?_
                ·
                  exact is_P (pinl rfl)
                ·
                  refine is_if (ti_not (ti_eq rfl tl_1)) ?_ ?_
                  ·
                    exact is_P (pinr (pinr rfl))
                  ·
                    exact is_P (pinl rfl)
              ·
                refine is_B (V := Int32.toInt) (is_Gt rfl) (fun x11 => ?_)
                refine is_if (ti_le rfl rfl) ?_ ?_
                ·
                  exact is_P (pinr rfl)
                ·
                  refine is_B (V := Int32.toInt) (is_Top_at rfl) (fun x12 => ?_)
                  refine is_B (V := Int32.toInt) (is_Teller_signOf rfl) (fun x13 => ?_)
                  refine is_if (ti_not (ti_eq rfl rfl)) ?_ ?_
                  ·
                    exact is_P (pinr rfl)
                  ·
                    refine is_A (fun h4 => ?_)
                    refine is_B (V := Int32.toInt) (is_P (ti_add rfl tl_1 h4)) (fun x14 => ?_)
                    exact is_P (pinl rfl)
            refine is_B (V := Int32.toInt) ?_ (fun s15 => ?_)
            ·
              refine is_if (ti_not (ti_eq rfl tl_0)) ?_ ?_
              ·
                refine is_B (V := Int32.toInt) (is_Ld rfl) (fun x16 => ?_)
                refine is_B (V := Int32.toInt) (is_Teller_numberOf rfl rfl) (fun x17 => ?_)
                exact is_P rfl
              ·
                refine is_B (V := Int32.toInt) (is_Ld rfl) (fun x18 => ?_)
                refine is_B (V := Int32.toInt) (is_Teller_wordOf rfl rfl) (fun x19 => ?_)
                exact is_P rfl
            refine is_B (V := id1) (is_St rfl rfl) (fun _ => ?_)
            refine is_A (fun h5 => ?_)
            refine is_B (V := Int32.toInt) (is_P (ti_add rfl tl_1 h5)) (fun x20 => ?_)
            exact is_P (ppair rfl rfl)
        exact is_P (pinl (ppair rfl rfl))
  refine is_B (V := id1) (is_St rfl tl_4) (fun _ => ?_)
  refine is_B (V := Int32.toInt) (is_Gt rfl) (fun x21 => ?_)
  refine is_B (V := id1) (is_St rfl rfl) (fun _ => ?_)
  exact is_P rfl
noncomputable def iz_Teller_read (this : Nat) : iM Int :=
  iB (iz_Run_clear (qm_rf this 1)) fun _ =>
  iB (iz_Teller_split this) fun _ =>
  iB (iPt this 5 0) fun _ =>
  iB (iPt this 6 (-1)) fun _ =>
  iB (iPt this 7 0) fun _ =>
  iB (iz_Teller_sign this) fun x1 =>
  iB (α := Int) (
    if x1 = 4 then
      iP 0
    else
      iP 1) fun s2 =>
  iB (α := Unit) (
    iW (S := (Int × Int)) (α := Unit) (fun s4 =>
      if s4.1 = 0 then
        iP (Sum.inr ())
      else
        if 401 ≤ s4.2 then
          iP (Sum.inr ())
        else
          iB (iz_Teller_readPart this) fun _ =>
          iB (iGt this 6) fun x5 =>
          iB (α := Int) (
            iB (α := (Unit ⊕ Int)) (
              if ¬ x5 = (-1) then
                iP (Sum.inl ())
              else
                iB (iz_Teller_sign this) fun x8 =>
                if x8 = 4 then
                  iP (Sum.inl ())
                else
                  iP (Sum.inr 1)) (Sum.elim (fun s7 =>
              iP 0) iP)) fun s6 =>
          iB (α := Int) (
            if s6 = 0 then
              iP s6
            else
              iB (iz_Teller_sign this) fun x10 =>
              if x10 = 2 then
                iP s6
              else
                iB (iz_Teller_place this) fun x11 =>
                iB (iz_Teller_wrong this x11 1) fun _ =>
                iP 0) fun s9 =>
          iB (α := Unit) (
            if s9 = 0 then
              iP ()
            else
              iB (iGt this 5) fun x13 =>
              iA (x13 + 1) fun y1 =>
              iB (iPt this 5 y1) fun _ =>
              iP ()) fun s12 =>
          iA (s4.2 + 1) fun y2 =>
          iB (iP y2) fun x14 =>
          iP (Sum.inl (s9, x14))) (s2, 0)) fun s3 =>
  iB (iGt this 6) fun x15 =>
  if ¬ x15 = (-1) then
    iB (iGt this 6) fun x16 =>
    iA ((-2) - x16) fun y3 =>
    iP y3
  else
    iB (iz_Run_allPieces (qm_rf this 1)) fun x17 =>
    iP x17
set_option maxRecDepth 20000 in
set_option maxHeartbeats 2000000 in
theorem is_Teller_read {this : Nat} : iS (jf_Teller_read this) (iz_Teller_read this) Int32.toInt := by
  unfold jf_Teller_read iz_Teller_read
  refine is_B (V := id1) (is_Run_clear) (fun _ => ?_)
  refine is_B (V := id1) (is_Teller_split) (fun _ => ?_)
  refine is_B (V := id1) (is_Pt rfl tl_0) (fun _ => ?_)
  refine is_B (V := id1) (is_Pt rfl tl_m1) (fun _ => ?_)
  refine is_B (V := id1) (is_Pt rfl tl_0) (fun _ => ?_)
  refine is_B (V := Int32.toInt) (is_Teller_sign) (fun x1 => ?_)
  refine is_B (V := Int32.toInt) ?_ (fun s2 => ?_)
  ·
    refine is_if (ti_eq rfl tl_4) ?_ ?_
    ·
      exact is_P tl_0
    ·
      exact is_P tl_1
  refine is_B (V := id1) ?_ (fun s3 => ?_)
  ·
    refine is_W (V := (ip2 Int32.toInt Int32.toInt)) (W := id1) (fun s4 => ?_) (ppair rfl tl_0)
    refine is_if (ti_eq rfl tl_0) ?_ ?_
    ·
      exact is_P (pinr rfl)
    ·
      refine is_if (ti_le tl_401 rfl) ?_ ?_
      ·
        exact is_P (pinr rfl)
      ·
        refine is_B (V := id1) (is_Teller_readPart) (fun _ => ?_)
        refine is_B (V := Int32.toInt) (is_Gt rfl) (fun x5 => ?_)
        refine is_B (V := Int32.toInt) ?_ (fun s6 => ?_)
        ·
          refine is_E (V := id1) ?_ (fun s7 => ?_)
          ·
            refine is_if (ti_not (ti_eq rfl tl_m1)) ?_ ?_
            ·
              exact is_P (pinl rfl)
            ·
              refine is_B (V := Int32.toInt) (is_Teller_sign) (fun x8 => ?_)
              refine is_if (ti_eq rfl tl_4) ?_ ?_
              ·
                exact is_P (pinl rfl)
              ·
                exact is_P (pinr tl_1)
          ·
            exact is_P tl_0
        refine is_B (V := Int32.toInt) ?_ (fun s9 => ?_)
        ·
          refine is_if (ti_eq rfl tl_0) ?_ ?_
          ·
            exact is_P rfl
          ·
            refine is_B (V := Int32.toInt) (is_Teller_sign) (fun x10 => ?_)
            refine is_if (ti_eq rfl tl_2) ?_ ?_
            ·
              exact is_P rfl
            ·
              refine is_B (V := Int32.toInt) (is_Teller_place) (fun x11 => ?_)
              refine is_B (V := id1) (is_Teller_wrong rfl tl_1) (fun _ => ?_)
              exact is_P tl_0
        refine is_B (V := id1) ?_ (fun s12 => ?_)
        ·
          refine is_if (ti_eq rfl tl_0) ?_ ?_
          ·
            exact is_P rfl
          ·
            refine is_B (V := Int32.toInt) (is_Gt rfl) (fun x13 => ?_)
            refine is_A (fun h1 => ?_)
            refine is_B (V := id1) (is_Pt rfl (ti_add rfl tl_1 h1)) (fun _ => ?_)
            exact is_P rfl
        refine is_A (fun h2 => ?_)
        refine is_B (V := Int32.toInt) (is_P (ti_add rfl tl_1 h2)) (fun x14 => ?_)
        exact is_P (pinl (ppair rfl rfl))
  refine is_B (V := Int32.toInt) (is_Gt rfl) (fun x15 => ?_)
  refine is_if (ti_not (ti_eq rfl tl_m1)) ?_ ?_
  ·
    refine is_B (V := Int32.toInt) (is_Gt rfl) (fun x16 => ?_)
    refine is_A (fun h3 => ?_)
    exact is_P (ti_sub tl_m2 rfl h3)
  ·
    refine is_B (V := Int32.toInt) (is_Run_allPieces) (fun x17 => ?_)
    exact is_P rfl
noncomputable def iz_Top_tell (this : Nat) : iM Int :=
  iB (iz_Teller_read (qm_rf this 2)) fun x1 =>
  iB (iPt (qm_rf this 1) 1 0) fun _ =>
  if x1 < 0 then
    iP x1
  else
    iB (iz_Run_copyFrom (qm_rf this 0) (qm_rf (qm_rf this 2) 1)) fun _ =>
    iB (iPt (qm_rf this 3) 2 0) fun _ =>
    iB (iz_Top_changed this) fun _ =>
    iP x1
set_option maxRecDepth 20000 in
set_option maxHeartbeats 2000000 in
theorem is_Top_tell {this : Nat} : iS (jf_Top_tell this) (iz_Top_tell this) Int32.toInt := by
  unfold jf_Top_tell iz_Top_tell
  refine is_B (V := Int32.toInt) (is_Teller_read) (fun x1 => ?_)
  refine is_B (V := id1) (is_Pt rfl tl_0) (fun _ => ?_)
  refine is_if (ti_lt rfl tl_0) ?_ ?_
  ·
    exact is_P rfl
  ·
    refine is_B (V := id1) (is_Run_copyFrom) (fun _ => ?_)
    refine is_B (V := id1) (is_Pt rfl tl_0) (fun _ => ?_)
    refine is_B (V := id1) (is_Top_changed) (fun _ => ?_)
    exact is_P rfl
noncomputable def iz_Model_isWord (this : Nat) (p1 : Nat) : iM Int :=
  iB (iz_Model_nextByte this) fun x1 =>
  iB (α := Int) (
    if ¬ x1 = (-1) then
      iB (iGt this 46) fun x3 =>
      iP x3
    else
      iB (iGt this 45) fun x4 =>
      iP x4) fun s2 =>
  iB (α := Int) (
    iW (S := Int) (α := Int) (fun s6 =>
      iB (iz_String_length p1) fun x7 =>
      if x7 ≤ s6 then
        iP (Sum.inr s6)
      else
        iA (s2 + s6) fun y1 =>
        iB (iz_Model_byteAt this y1) fun x8 =>
        iB (iz_String_charAt p1 s6) fun x9 =>
        if ¬ x8 = x9 then
          iP (Sum.inr s6)
        else
          iA (s6 + 1) fun y2 =>
          iB (iP y2) fun x10 =>
          iP (Sum.inl x10)) 0) fun s5 =>
  iB (iz_String_length p1) fun x11 =>
  if ¬ s5 = x11 then
    iP 0
  else
    iA (s2 + s5) fun y3 =>
    iB (iz_Model_byteAt this y3) fun x12 =>
    iB (iz_Model_in x12 97 122) fun x13 =>
    if ¬ x13 = 0 then
      iP 0
    else
      iP 1
set_option maxRecDepth 20000 in
set_option maxHeartbeats 2000000 in
theorem is_Model_isWord {this : Nat} {p1 : Nat} : iS (jf_Model_isWord this p1) (iz_Model_isWord this p1) Int32.toInt := by
  unfold jf_Model_isWord iz_Model_isWord
  refine is_B (V := Int32.toInt) (is_Model_nextByte) (fun x1 => ?_)
  refine is_B (V := Int32.toInt) ?_ (fun s2 => ?_)
  ·
    refine is_if (ti_not (ti_eq rfl tl_m1)) ?_ ?_
    ·
      refine is_B (V := Int32.toInt) (is_Gt rfl) (fun x3 => ?_)
      exact is_P rfl
    ·
      refine is_B (V := Int32.toInt) (is_Gt rfl) (fun x4 => ?_)
      exact is_P rfl
  refine is_B (V := Int32.toInt) ?_ (fun s5 => ?_)
  ·
    refine is_W (V := Int32.toInt) (W := Int32.toInt) (fun s6 => ?_) tl_0
    refine is_B (V := Int32.toInt) (is_String_length) (fun x7 => ?_)
    refine is_if (ti_le rfl rfl) ?_ ?_
    ·
      exact is_P (pinr rfl)
    ·
      refine is_A (fun h1 => ?_)
      refine is_B (V := Int32.toInt) (is_Model_byteAt (ti_add rfl rfl h1)) (fun x8 => ?_)
      refine is_B (V := Int32.toInt) (is_String_charAt rfl) (fun x9 => ?_)
      refine is_if (ti_not (ti_eq rfl rfl)) ?_ ?_
      ·
        exact is_P (pinr rfl)
      ·
        refine is_A (fun h2 => ?_)
        refine is_B (V := Int32.toInt) (is_P (ti_add rfl tl_1 h2)) (fun x10 => ?_)
        exact is_P (pinl rfl)
  refine is_B (V := Int32.toInt) (is_String_length) (fun x11 => ?_)
  refine is_if (ti_not (ti_eq rfl rfl)) ?_ ?_
  ·
    exact is_P tl_0
  ·
    refine is_A (fun h3 => ?_)
    refine is_B (V := Int32.toInt) (is_Model_byteAt (ti_add rfl rfl h3)) (fun x12 => ?_)
    refine is_B (V := Int32.toInt) (is_Model_in (ti_64 rfl) t64_97 t64_122) (fun x13 => ?_)
    refine is_if (ti_not (ti_eq rfl tl_0)) ?_ ?_
    ·
      exact is_P tl_0
    ·
      exact is_P tl_1
noncomputable def iz_Model_settingWord (p1 : Int) : iM Nat :=
  if p1 = 0 then
    iP 409
  else
    if p1 = 1 then
      iP 410
    else
      if p1 = 2 then
        iP 411
      else
        if p1 = 3 then
          iP 412
        else
          if p1 = 4 then
            iP 413
          else
            if p1 = 5 then
              iP 414
            else
              if p1 = 6 then
                iP 415
              else
                iP 416
set_option maxRecDepth 20000 in
set_option maxHeartbeats 2000000 in
theorem is_Model_settingWord {p1 : Int32} {p1' : Int} (qp1 : p1.toInt = p1') : iS (jf_Model_settingWord p1) (iz_Model_settingWord p1') id1 := by
  subst qp1
  unfold jf_Model_settingWord iz_Model_settingWord
  refine is_if (ti_eq rfl tl_0) ?_ ?_
  ·
    exact is_P rfl
  ·
    refine is_if (ti_eq rfl tl_1) ?_ ?_
    ·
      exact is_P rfl
    ·
      refine is_if (ti_eq rfl tl_2) ?_ ?_
      ·
        exact is_P rfl
      ·
        refine is_if (ti_eq rfl tl_3) ?_ ?_
        ·
          exact is_P rfl
        ·
          refine is_if (ti_eq rfl tl_4) ?_ ?_
          ·
            exact is_P rfl
          ·
            refine is_if (ti_eq rfl tl_5) ?_ ?_
            ·
              exact is_P rfl
            ·
              refine is_if (ti_eq rfl tl_6) ?_ ?_
              ·
                exact is_P rfl
              ·
                exact is_P rfl
