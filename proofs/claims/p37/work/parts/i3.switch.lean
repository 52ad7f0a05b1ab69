/-! ===== the law's switch ===== -/
def KPd (Y : yY) (w : yW) (kept : Option Nat) (K : Int → aRun) (f : Int → Int) (S : Nat → Prop) : Prop :=
  (kept = none ∧ f 0 = 0) ∨ ∃ kp S2, kept = some kp ∧ f 0 = 1 ∧ LR w kp (K 0) S2 ∧ MB (K 0) ∧ ∀ q, S2 q → (Y.1 ≤ q ∧ q < w_sz w) ∧ ¬ S q
theorem KPd.keep {Y : yY} {w w1 : yW} {kept : Option Nat} {K : Int → aRun} {f : Int → Int} {S S' D : Nat → Prop} {a c : Nat} (h : KPd Y w kept K f S) (hG : yG D a c w w1) (hD : ∀ q, q < w_sz w → D q → S q) (hS : ∀ q, q < w_sz w → S' q → S q) : KPd Y w1 kept K f S' := by
  rcases h with h | ⟨kp, S2, e, hf, hL, hM, h2⟩
  · exact Or.inl h
  · have := hG.2.1.1
    exact Or.inr ⟨kp, S2, e, hf, hL.keep hG (fun q hq z d => (h2 q z).2 (hD q hq d)), hM, fun q z => ⟨⟨(h2 q z).1.1, by have := (h2 q z).1.2; omega⟩, fun y => (h2 q z).2 (hS q (h2 q z).1.2 y)⟩⟩
theorem law_switch {Y : yY} {κ : iMem} {d : yD} {p r : Nat} {kept : Option Nat} {R : aRun} {S1 : Nat → Prop} {H : Nat → aRun} {n : Nat} {x : Int} {K : Int → aRun} {f9 T : Int → Int} {i v b is pl k : Int} {Q : (Option Nat × Option Nat × Int × Int × Int) → yW → Prop} (hI : cI R H n x K f9 0 T κ) (hL : LR (κ, d) r R S1) (hMB : MB R) (hS1 : ∀ q, S1 q → Y.1 ≤ q ∧ q < w_sz ((κ, d) : yW)) (hK : KPd Y (κ, d) kept K f9 S1) (hS : yS9 Y (κ, d)) (hC : SC Y (κ, d) p) (hi : 0 ≤ i ∧ i ≤ 26) (hv : 0 ≤ v ∧ v < 2147483648) (hb : 0 ≤ b ∧ b ≤ rn R) (his : isB R b is) (hpl : isPl R b pl) (hk : 0 ≤ k ∧ k < 10)
    (hQ : ∀ κ1 d1 r1 kept1 does told R1 H1 n1 x1 K1 f1 T1 S1', cI R1 H1 n1 x1 K1 f1 0 T1 κ1 → LR (κ1, d1) r1 R1 S1' → MB R1 → KPd Y (κ1, d1) kept1 K1 f1 S1' → yG S1 42 1021 (κ, d) (κ, d1) → (∀ q, S1' q → Y.1 ≤ q ∧ q < w_sz ((κ1, d1) : yW)) → ((does = 0 ∧ told = 0) ∨ (does = 1 ∧ told = 1) ∨ (does = 1 ∧ told = 0 ∧ n1 ≠ 0 ∧ H1 (n1 - 1) = R ∧ kept1 = kept ∧ K1 = K ∧ f1 = f9)) → Q (some r1, kept1, 1, does, told) (κ1, d1)) :
    yp (yB (α := (Unit ⊕ (Option Nat × Option Nat × Int × Int × Int))) (
              yB (α := (Unit ⊕ (Unit ⊕ (Option Nat × Option Nat × Int × Int × Int)))) (
                yB (yR k) fun _ =>
                if k = 0 then
                  yP (Sum.inl ())
                else
                if k = 1 then
                  yP (Sum.inl ())
                else
                if k = 2 then
                  yP (Sum.inr (Sum.inl ()))
                else
                if k = 3 then
                  yP (Sum.inr (Sum.inl ()))
                else
                if k = 4 then
                  yB (yP (ybAnd (ybUshr v (12 : Int)) (1 : Int))) fun x46 =>
                  yB (α := Int) (
                    yB (α := (Unit ⊕ Int)) (
                      yB (yR pl) fun _ =>
                      if pl = 0 then
                        yP (Sum.inl ())
                      else
                        yB (yGr 20 (some r) 2) fun x49 =>
                        yB (yLr 4 x49 b) fun x50 =>
                        yB (yLd 1 x50 (4 : Int)) fun x51 =>
                        yB (yR2 x51 x46) fun _ =>
                        if x51 = x46 then
                          yP (Sum.inl ())
                        else
                          yP (Sum.inr (1 : Int))) (Sum.elim (fun s48 =>
                      yP (0 : Int)) yP)) fun s47 =>
                  yB (yP s47) fun x52 =>
                  yB (α := Int) (
                    yB (yR2 x46 (1 : Int)) fun _ =>
                    if ¬ x46 = (1 : Int) then
                      yP (0 : Int)
                    else
                      yP (1 : Int)) fun s53 =>
                  yB (yC ([b, s53] : List Int) (iz_Top_tie 0 b s53)) fun x54 =>
                  yB (α := Int) (
                    yB (yR pl) fun _ =>
                    if ¬ pl = 0 then
                      yB (yR x52) fun _ =>
                      if x52 = 0 then
                        yP (-2 : Int)
                      else
                        yP (1 : Int)
                    else
                      yP (-1 : Int)) fun s55 =>
                  yB (α := Int) (
                    yB (yR2 x54 s55) fun _ =>
                    if ¬ x54 = s55 then
                      yP (0 : Int)
                    else
                      yP (1 : Int)) fun s56 =>
                  yB (yP s56) fun x57 =>
                  yB (yR x52) fun _ =>
                  if x52 = 0 then
                    yP (Sum.inr (Sum.inr ((some r), kept, x57, x52, (0 : Int))))
                  else
                    yB (yGr 20 (some r) 2) fun x58 =>
                    yB (yLr 4 x58 b) fun x59 =>
                    yB (ySt x59 (4 : Int) x46) fun _ =>
                    yP (Sum.inr (Sum.inr ((some r), kept, x57, x52, (0 : Int))))
                else
                if k = 5 then
                  yB (yRm (ybUshr v (12 : Int)) (9 : Int)) fun x60 =>
                  yB (yP x60) fun x61 =>
                  yB (α := Int) (
                    yB (α := (Unit ⊕ Int)) (
                      yB (yR pl) fun _ =>
                      if pl = 0 then
                        yP (Sum.inl ())
                      else
                        yB (yGr 20 (some r) 2) fun x64 =>
                        yB (yLr 4 x64 b) fun x65 =>
                        yB (yLd 1 x65 (6 : Int)) fun x66 =>
                        yB (yR2 x66 x61) fun _ =>
                        if x66 = x61 then
                          yP (Sum.inl ())
                        else
                          yP (Sum.inr (1 : Int))) (Sum.elim (fun s63 =>
                      yP (0 : Int)) yP)) fun s62 =>
                  yB (yP s62) fun x67 =>
                  yB (yC ([b, x61] : List Int) (iz_Top_space 0 b x61)) fun x68 =>
                  yB (α := Int) (
                    yB (yR pl) fun _ =>
                    if ¬ pl = 0 then
                      yB (yR x67) fun _ =>
                      if x67 = 0 then
                        yP (-2 : Int)
                      else
                        yB (yGr 20 (some r) 2) fun x70 =>
                        yB (yLr 4 x70 b) fun x71 =>
                        yB (yLd 1 x71 (6 : Int)) fun x72 =>
                        yP x72
                    else
                      yP (-1 : Int)) fun s69 =>
                  yB (α := Int) (
                    yB (α := (Unit ⊕ Int)) (
                      yB (yR2 x68 s69) fun _ =>
                      if ¬ x68 = s69 then
                        yP (Sum.inl ())
                      else
                        yB (yC ([b, (31 : Int)] : List Int) (iz_Top_space 0 b (31 : Int))) fun x75 =>
                        yB (yR2 x75 (-1 : Int)) fun _ =>
                        if ¬ x75 = (-1 : Int) then
                          yP (Sum.inl ())
                        else
                          yP (Sum.inr (1 : Int))) (Sum.elim (fun s74 =>
                      yP (0 : Int)) yP)) fun s73 =>
                  yB (yP s73) fun x76 =>
                  yB (yR x67) fun _ =>
                  if x67 = 0 then
                    yP (Sum.inr (Sum.inr ((some r), kept, x76, x67, (0 : Int))))
                  else
                    yB (yGr 20 (some r) 2) fun x77 =>
                    yB (yLr 4 x77 b) fun x78 =>
                    yB (ySt x78 (6 : Int) x61) fun _ =>
                    yP (Sum.inr (Sum.inr ((some r), kept, x76, x67, (0 : Int))))
                else
                if k = 6 then
                  yB (yRm (ybUshr v (12 : Int)) (7 : Int)) fun x79 =>
                  yB (yP x79) fun x80 =>
                  yB (α := Int) (
                    yB (α := (Unit ⊕ Int)) (
                      yB (yR is) fun _ =>
                      if is = 0 then
                        yP (Sum.inl ())
                      else
                        yB (yGt 20 (some r) 1) fun x83 =>
                        yB (yR2 x80 x83) fun _ =>
                        if x83 ≤ x80 then
                          yP (Sum.inl ())
                        else
                          yB (yR2 x80 b) fun _ =>
                          if x80 = b then
                            yP (Sum.inl ())
                          else
                            yP (Sum.inr (1 : Int))) (Sum.elim (fun s82 =>
                      yP (0 : Int)) yP)) fun s81 =>
                  yB (yP s81) fun x84 =>
                  yB (yC ([b, x80] : List Int) (iz_Top_swap 0 b x80)) fun x85 =>
                  yB (α := Int) (
                    yB (yR x84) fun _ =>
                    if x84 = 0 then
                      yP (-1 : Int)
                    else
                      yP (1 : Int)) fun s86 =>
                  yB (α := Int) (
                    yB (yR2 x85 s86) fun _ =>
                    if ¬ x85 = s86 then
                      yP (0 : Int)
                    else
                      yP (1 : Int)) fun s87 =>
                  yB (yP s87) fun x88 =>
                  yB (yR x84) fun _ =>
                  if ¬ x84 = 0 then
                    yB (yGr 20 (some r) 2) fun x89 =>
                    yB (yLr 4 x89 b) fun x90 =>
                    yB (yP x90) fun x91 =>
                    yB (yGr 20 (some r) 3) fun x92 =>
                    yB (yLr 4 x92 b) fun x93 =>
                    yB (yP x93) fun x94 =>
                    yB (yGr 20 (some r) 2) fun x95 =>
                    yB (yGr 20 (some r) 2) fun x96 =>
                    yB (yLr 4 x96 x80) fun x97 =>
                    yB (ySr 4 1 x95 b x97) fun _ =>
                    yB (yGr 20 (some r) 3) fun x98 =>
                    yB (yGr 20 (some r) 3) fun x99 =>
                    yB (yLr 4 x99 x80) fun x100 =>
                    yB (ySr 4 1 x98 b x100) fun _ =>
                    yB (yGr 20 (some r) 2) fun x101 =>
                    yB (ySr 4 1 x101 x80 x91) fun _ =>
                    yB (yGr 20 (some r) 3) fun x102 =>
                    yB (ySr 4 1 x102 x80 x94) fun _ =>
                    yP (Sum.inr (Sum.inr ((some r), kept, x88, x84, (0 : Int))))
                  else
                    yP (Sum.inr (Sum.inr ((some r), kept, x88, x84, (0 : Int))))
                else
                if k = 7 then
                  yB (α := Int) (
                    yB (α := (Unit ⊕ Int)) (
                      yB (yR is) fun _ =>
                      if is = 0 then
                        yP (Sum.inl ())
                      else
                        yB (yGt 20 (some r) 1) fun x105 =>
                        yB (yR2 x105 (16 : Int)) fun _ =>
                        if (16 : Int) ≤ x105 then
                          yP (Sum.inl ())
                        else
                          yB (yKr 20 (some r) (kf_LRun_pieces Y (some r))) fun x106 =>
                          yB (yGr 20 (some r) 2) fun x107 =>
                          yB (yLr 4 x107 b) fun x108 =>
                          yB (yLd 1 x108 (1 : Int)) fun x109 =>
                          yB (yR2 (x106 + x109) (90 : Int)) fun _ =>
                          if (90 : Int) < (x106 + x109) then
                            yP (Sum.inl ())
                          else
                            yP (Sum.inr (1 : Int))) (Sum.elim (fun s104 =>
                      yP (0 : Int)) yP)) fun s103 =>
                  yB (yP s103) fun x110 =>
                  yB (yC ([b] : List Int) (iz_Top_again 0 b)) fun x111 =>
                  yB (α := Int) (
                    yB (yR is) fun _ =>
                    if ¬ is = 0 then
                      yB (yR x110) fun _ =>
                      if x110 = 0 then
                        yP (-2 : Int)
                      else
                        yB (yGt 20 (some r) 1) fun x113 =>
                        yP (x113 + (1 : Int))
                    else
                      yP (-1 : Int)) fun s112 =>
                  yB (α := Int) (
                    yB (yR2 x111 s112) fun _ =>
                    if ¬ x111 = s112 then
                      yP (0 : Int)
                    else
                      yP (1 : Int)) fun s114 =>
                  yB (yP s114) fun x115 =>
                  yB (yR x110) fun _ =>
                  if x110 = 0 then
                    yP (Sum.inr (Sum.inr ((some r), kept, x115, x110, (0 : Int))))
                  else
                    yB (yGr 20 (some r) 2) fun x116 =>
                    yB (yLr 4 x116 b) fun x117 =>
                    yB (yCl x117) fun x118 =>
                    yB (yKd 1 x118) fun _ =>
                    yB (yGr 20 (some r) 3) fun x119 =>
                    yB (yLr 4 x119 b) fun x120 =>
                    yB (yKr 20 (some r) (kf_LRun_adds Y (some r) x118 x120)) fun _ =>
                    yP (Sum.inr (Sum.inr ((some r), kept, x115, x110, (0 : Int))))
                else
                if k = 8 then
                  yB (yP is) fun x122 =>
                  yB (yC ([b] : List Int) (iz_Top_drop 0 b)) fun x123 =>
                  yB (α := Int) (
                    yB (yR is) fun _ =>
                    if is = 0 then
                      yP (-1 : Int)
                    else
                      yB (yGt 20 (some r) 1) fun x125 =>
                      yP (x125 - (1 : Int))) fun s124 =>
                  yB (α := Int) (
                    yB (yR2 x123 s124) fun _ =>
                    if ¬ x123 = s124 then
                      yP (0 : Int)
                    else
                      yP (1 : Int)) fun s126 =>
                  yB (yP s126) fun x127 =>
                  yB (yR is) fun _ =>
                  if ¬ is = 0 then
                    yB (yP b) fun x128 =>
                    yB (α := Unit) (
                      yLp (S := Int) (α := Unit) (fun s130 =>
                        yB (yGt 20 (some r) 1) fun x131 =>
                        yB (yR2 (s130 + (1 : Int)) x131) fun _ =>
                        if x131 ≤ (s130 + (1 : Int)) then
                          yP (Sum.inr ())
                        else
                          yB (yGr 20 (some r) 2) fun x132 =>
                          yB (yGr 20 (some r) 2) fun x133 =>
                          yB (yLr 4 x133 (s130 + (1 : Int))) fun x134 =>
                          yB (ySr 4 1 x132 s130 x134) fun _ =>
                          yB (yGr 20 (some r) 3) fun x135 =>
                          yB (yGr 20 (some r) 3) fun x136 =>
                          yB (yLr 4 x136 (s130 + (1 : Int))) fun x137 =>
                          yB (ySr 4 1 x135 s130 x137) fun _ =>
                          yB (yP (s130 + 1)) fun x138 =>
                          yP (Sum.inl x138)) x128) fun s129 =>
                    yB (yGt 20 (some r) 1) fun x139 =>
                    yB (yPt 20 (some r) 1 (x139 - (1 : Int))) fun _ =>
                    yP (Sum.inr (Sum.inr ((some r), kept, x127, x122, (0 : Int))))
                  else
                    yP (Sum.inr (Sum.inr ((some r), kept, x127, x122, (0 : Int))))
                else
                yB (yP (0 : Int)) fun x140 =>
                yB (α := (Unit ⊕ (Unit ⊕ (Unit ⊕ (Option Nat × Option Nat × Int × Int × Int))))) (
                  yB (yR (ybAnd (ybUshr v (8 : Int)) (1 : Int))) fun _ =>
                  if (ybAnd (ybUshr v (8 : Int)) (1 : Int)) = 0 then
                    yP (Sum.inl ())
                  else
                    if ¬ kept = none then
                      yB (yC ([(0 : Int)] : List Int) (iz_Top_back 0 (0 : Int))) fun x142 =>
                      yB (yGt 20 kept 1) fun x143 =>
                      yB (α := Int) (
                        yB (α := (Unit ⊕ Int)) (
                          yB (yR2 x142 x143) fun _ =>
                          if ¬ x142 = x143 then
                            yP (Sum.inl ())
                          else
                            yB (yC ([(4 : Int)] : List Int) (iz_Top_count 0 (4 : Int))) fun x146 =>
                            yB (yR x146) fun _ =>
                            if ¬ x146 = 0 then
                              yP (Sum.inl ())
                            else
                              yP (Sum.inr (1 : Int))) (Sum.elim (fun s145 =>
                          yP (0 : Int)) yP)) fun s144 =>
                      yB (yP s144) fun x147 =>
                      yB (yKr 20 kept (kf_LRun_copy Y kept)) fun x148 =>
                      yB (yP x148) fun x149 =>
                      yP (Sum.inr (Sum.inr (Sum.inr (x149, kept, x147, x140, (0 : Int)))))
                    else
                      yP (Sum.inl ())) (Sum.elim (fun s141 =>
                  yB (yC ([(0 : Int)] : List Int) (iz_Top_keep 0 (0 : Int))) fun x150 =>
                  yB (yGt 20 (some r) 1) fun x151 =>
                  yB (α := Int) (
                    yB (yR2 x150 x151) fun _ =>
                    if ¬ x150 = x151 then
                      yP (0 : Int)
                    else
                      yP (1 : Int)) fun s152 =>
                  yB (yP s152) fun x153 =>
                  yB (yKr 20 (some r) (kf_LRun_copy Y (some r))) fun x154 =>
                  yB (yP x154) fun x155 =>
                  yP (Sum.inr (Sum.inr ((some r), x155, x153, x140, (0 : Int))))) yP)) (Sum.elim (fun s45 =>
                yB (yK (kf_LRun_some Y (some p) ((40 : Int) + ((20 : Int) * i)) (6 : Int))) fun x156 =>
                yB (yP x156) fun x157 =>
                yB (yP (1 : Int)) fun x158 =>
                yB (yKr 20 x157 (kf_LRun_told Y x157)) fun x159 =>
                yB (yK (kf_Law_says Y x159)) fun x160 =>
                yB (α := Int) (
                  yB (α := (Unit ⊕ Int)) (
                    yB (yR x160) fun _ =>
                    if x160 = 0 then
                      yP (Sum.inl ())
                    else
                      yB (yC ([] : List Int) (iz_Top_tell 0)) fun x163 =>
                      yB (yKr 20 x157 (kf_LRun_pieces Y x157)) fun x164 =>
                      yB (yR2 x163 x164) fun _ =>
                      if ¬ x163 = x164 then
                        yP (Sum.inl ())
                      else
                        yB (yC ([(4 : Int)] : List Int) (iz_Top_count 0 (4 : Int))) fun x165 =>
                        yB (yR x165) fun _ =>
                        if ¬ x165 = 0 then
                          yP (Sum.inl ())
                        else
                          yB (yC ([(5 : Int)] : List Int) (iz_Top_count 0 (5 : Int))) fun x166 =>
                          yB (yR x166) fun _ =>
                          if ¬ x166 = 0 then
                            yP (Sum.inl ())
                          else
                            yP (Sum.inr (1 : Int))) (Sum.elim (fun s162 =>
                    yP (0 : Int)) yP)) fun s161 =>
                yB (yP s161) fun x167 =>
                yP (Sum.inr (x157, kept, x167, (1 : Int), x158))) yP)) (Sum.elim (fun s44 =>
              yB (yRm (ybUshr v (8 : Int)) (8 : Int)) fun x168 =>
              yB (yP x168) fun x169 =>
              yB (α := Int) (
                yB (yR2 x169 (1 : Int)) fun _ =>
                if ¬ x169 = (1 : Int) then
                  yB (yRm (ybUshr v (12 : Int)) (3 : Int)) fun x171 =>
                  yP ((1 : Int) + x171)
                else
                  yB (yRm (ybUshr v (12 : Int)) (50 : Int)) fun x172 =>
                  yP ((10 : Int) + x172)) fun s170 =>
              yB (yP s170) fun x173 =>
              yB (yGr 20 (some r) 0) fun x174 =>
              yB (yLd 1 x174 x169) fun x175 =>
              yB (α := Int) (
                yB (yR2 x175 x173) fun _ =>
                if x175 = x173 then
                  yP (0 : Int)
                else
                  yP (1 : Int)) fun s176 =>
              yB (yP s176) fun x177 =>
              yB (yC ([x169, x173] : List Int) (iz_Top_set 0 x169 x173)) fun x178 =>
              yB (α := Int) (
                yB (yR x177) fun _ =>
                if x177 = 0 then
                  yP (-2 : Int)
                else
                  yB (yGr 20 (some r) 0) fun x180 =>
                  yB (yLd 1 x180 x169) fun x181 =>
                  yP x181) fun s179 =>
              yB (α := Int) (
                yB (α := (Unit ⊕ Int)) (
                  yB (yR2 x178 s179) fun _ =>
                  if ¬ x178 = s179 then
                    yP (Sum.inl ())
                  else
                    yB (yC ([(8 : Int), (1 : Int)] : List Int) (iz_Top_set 0 (8 : Int) (1 : Int))) fun x184 =>
                    yB (yR2 x184 (-1 : Int)) fun _ =>
                    if ¬ x184 = (-1 : Int) then
                      yP (Sum.inl ())
                    else
                      yB (yC ([(0 : Int), (6 : Int)] : List Int) (iz_Top_set 0 (0 : Int) (6 : Int))) fun x185 =>
                      yB (yR2 x185 (-1 : Int)) fun _ =>
                      if ¬ x185 = (-1 : Int) then
                        yP (Sum.inl ())
                      else
                        yB (yC ([(1 : Int), (9 : Int)] : List Int) (iz_Top_set 0 (1 : Int) (9 : Int))) fun x186 =>
                        yB (yR2 x186 (-1 : Int)) fun _ =>
                        if ¬ x186 = (-1 : Int) then
                          yP (Sum.inl ())
                        else
                          yB (yC ([(5 : Int), (4 : Int)] : List Int) (iz_Top_set 0 (5 : Int) (4 : Int))) fun x187 =>
                          yB (yR2 x187 (-1 : Int)) fun _ =>
                          if ¬ x187 = (-1 : Int) then
                            yP (Sum.inl ())
                          else
                            yP (Sum.inr (1 : Int))) (Sum.elim (fun s183 =>
                  yP (0 : Int)) yP)) fun s182 =>
              yB (yP s182) fun x188 =>
              yB (yGr 20 (some r) 0) fun x189 =>
              yB (ySt x189 x169 x173) fun _ =>
              yP ((some r), kept, x188, x177, (0 : Int))) yP)) Q (κ, d) := by
  have hYB : Y.1 ≤ w_sz ((κ, d) : yW) := hS.2.2.2
  have q1 : ∀ κ1 d1 does R1 H1 n1 x1, cI R1 H1 n1 x1 K f9 0 T κ1 → LR (κ1, d1) r R1 S1 → MB R1 → yG S1 0 0 (κ, d) (κ, d1) → (does = 0 ∨ (does = 1 ∧ n1 ≠ 0 ∧ H1 (n1 - 1) = R)) → Q (some r, kept, 1, does, 0) (κ1, d1) := fun κ1 d1 does R1 H1 n1 x1 a1 a2 a3 a4 a5 => by
    have l := a4.2.1.1
    have hK1 : KPd Y (κ, d1) kept K f9 S1 := hK.keep a4 (fun _ _ z => z) (fun _ _ z => z)
    refine hQ κ1 d1 r kept does 0 R1 H1 n1 x1 K f9 T S1 a1 a2 a3 hK1 (a4.le (fun _ _ z => z) (by decide) (by decide)) (fun q z => ⟨(hS1 q z).1, by have := (hS1 q z).2; exact Nat.lt_of_lt_of_le this l⟩) ?_
    rcases a5 with z | ⟨z1, z2, z3⟩
    · exact Or.inl ⟨z, rfl⟩
    · exact Or.inr (Or.inr ⟨z1, rfl, z2, z3, rfl, rfl, rfl⟩)
  refine yp_bind (R := fun t w1 => (t = Sum.inl () ∧ w1 = (κ, d)) ∨ ∃ u, t = Sum.inr u ∧ Q u w1) ?_ (fun t w1 ht => ?_)
  · refine yp_bind (R := fun t w1 => (t = Sum.inl () ∧ w1 = (κ, d)) ∨ (t = Sum.inr (Sum.inl ()) ∧ w1 = (κ, d)) ∨ ∃ u, t = Sum.inr (Sum.inr u) ∧ Q u w1) ?_ (fun t w1 ht => ?_)
    · refine yb_R (iR_small ⟨by omega, by omega⟩) ?_
      refine yp_if (fun _ => yp_P (Or.inl ⟨rfl, rfl⟩)) (fun _ => ?_)
      refine yp_if (fun _ => yp_P (Or.inl ⟨rfl, rfl⟩)) (fun _ => ?_)
      refine yp_if (fun _ => yp_P (Or.inr (Or.inl ⟨rfl, rfl⟩))) (fun _ => ?_)
      refine yp_if (fun _ => yp_P (Or.inr (Or.inl ⟨rfl, rfl⟩))) (fun _ => ?_)
      refine yp_if (fun _ => act_tie hI hL hMB hb hpl (fun κ1 d1 does R1 H1 n1 x1 a1 a2 a3 a4 a5 => Or.inr (Or.inr ⟨_, rfl, q1 κ1 d1 does R1 H1 n1 x1 a1 a2 a3 a4 a5⟩))) (fun _ => ?_)
      refine yp_if (fun _ => act_space hI hL hMB hb hpl (fun κ1 d1 does R1 H1 n1 x1 a1 a2 a3 a4 a5 => Or.inr (Or.inr ⟨_, rfl, q1 κ1 d1 does R1 H1 n1 x1 a1 a2 a3 a4 a5⟩))) (fun _ => ?_)
      refine yp_if (fun _ => act_swap hI hL hMB hb his (fun κ1 d1 does R1 H1 n1 x1 a1 a2 a3 a4 a5 => Or.inr (Or.inr ⟨_, rfl, q1 κ1 d1 does R1 H1 n1 x1 a1 a2 a3 a4 a5⟩))) (fun _ => ?_)
      refine yp_if (fun _ => act_again hI hL hMB hb his (fun κ1 d1 does R1 H1 n1 x1 S2 a1 a2 a3 a4 a5 a6 => Or.inr (Or.inr ⟨_, rfl, ?_⟩))) (fun _ => ?_)
      · have l := a5.2.1.1
        have hK1 : KPd Y (κ, d1) kept K f9 S2 := hK.keep a5 (fun _ _ z => z) (fun q hq z => by
          rcases a3 q z with y | y
          · exact y.1
          · exact absurd hq (Nat.not_lt.mpr y))
        refine hQ κ1 d1 r kept does 0 R1 H1 n1 x1 K f9 T (fun q => S2 q ∧ q < w_sz ((κ1, d1) : yW)) a1 (a2.mono (fun q h1 h2 => ⟨h2, h1⟩)) a4 ?_ (a5.le (fun _ _ z => z) (by decide) (by decide)) (fun q z => ⟨?_, z.2⟩) ?_
        · exact KPd.keep (D := y0) (w1 := (κ1, d1)) (w := (κ1, d1)) hK1 (yG.refl (w := (κ1, d1))) (fun _ _ z => z.elim) (fun _ _ z => z.1)
        · rcases a3 q z.1 with y | y
          · exact (hS1 q y.1).1
          · exact Nat.le_trans hYB y
        · rcases a6 with z | ⟨z1, z2, z3⟩
          · exact Or.inl ⟨z, rfl⟩
          · exact Or.inr (Or.inr ⟨z1, rfl, z2, z3, rfl, rfl, rfl⟩)
      refine yp_if (fun _ => act_drop hI hL hMB hb his (fun κ1 d1 does R1 H1 n1 x1 a1 a2 a3 a4 a5 => Or.inr (Or.inr ⟨_, rfl, q1 κ1 d1 does R1 H1 n1 x1 a1 a2 a3 a4 a5⟩))) (fun _ => ?_)
      refine act_keep hI hL (hK.imp id (fun ⟨kp, S2, e, hf, h3, _⟩ => ⟨kp, S2, e, hf, h3⟩)) (fun κ1 d1 kp x1 a1 a2 a3 => Or.inr (Or.inr ⟨_, rfl, ?_⟩)) (fun κ1 d1 rp x1 hne a1 a2 a3 => Or.inr (Or.inr ⟨_, rfl, ?_⟩))
      · have l := a3.2.1.1
        have hL1 : LR (κ1, d1) r R S1 := (hL.keep (w1 := (κ, d1)) a3 (fun _ _ _ z => z) : LR (κ, d1) r R S1)
        refine hQ κ1 d1 r (some kp) 0 0 R H n x1 _ _ T S1 a1 hL1 hMB (Or.inr ⟨kp, (fun q => w_sz ((κ, d) : yW) ≤ q ∧ q < w_sz ((κ1, d1) : yW)), rfl, rfl, a2.mono (fun q h1 h2 => ⟨h2, h1⟩), hMB, fun q z => ⟨⟨Nat.le_trans hYB z.1, z.2⟩, fun y => absurd (hS1 q y).2 (Nat.not_lt.mpr z.1)⟩⟩) (a3.le (fun _ _ z => z.elim) (by decide) (by decide)) (fun q z => ⟨(hS1 q z).1, Nat.lt_of_lt_of_le (hS1 q z).2 l⟩) (Or.inl ⟨rfl, rfl⟩)
      · have hMBk : MB (K 0) := by
          rcases hK with ⟨e, -⟩ | ⟨kp, S2, e, hf, h3, h4, -⟩
          · exact absurd e hne
          · exact h4
        have hK1 : KPd Y (κ, d1) kept K f9 (fun q => w_sz ((κ, d) : yW) ≤ q ∧ q < w_sz ((κ1, d1) : yW)) := hK.keep a3 (fun _ _ z => z.elim) (fun q hq z => absurd hq (Nat.not_lt.mpr z.1))
        exact hQ κ1 d1 rp kept 0 0 (K 0) H 0 x1 K f9 T _ a1 (a2.mono (fun q h1 h2 => ⟨h2, h1⟩)) hMBk hK1 (a3.le (fun _ _ z => z.elim) (by decide) (by decide)) (fun q z => ⟨Nat.le_trans hYB z.1, z.2⟩) (Or.inl ⟨rfl, rfl⟩)
    · rcases ht with ⟨rfl, rfl⟩ | ⟨rfl, rfl⟩ | ⟨u, rfl, hu⟩
      · rw [Sum.elim_inl]
        refine act_told hI hS hC hi (fun κ1 d1 rp R1 x1 T1 a1 a2 a3 a4 => Or.inr ⟨_, rfl, ?_⟩)
        have hK1 : KPd Y (κ, d1) kept K f9 (fun q => w_sz ((κ, d) : yW) ≤ q ∧ q < w_sz ((κ1, d1) : yW)) := hK.keep a4 (fun _ _ z => z.elim) (fun q hq z => absurd hq (Nat.not_lt.mpr z.1))
        exact hQ κ1 d1 rp kept 1 1 R1 H 0 x1 K f9 T1 _ a1 (a2.mono (fun q h1 h2 => ⟨h2, h1⟩)) a3 hK1 (a4.le (fun _ _ z => z.elim) (by decide) (by decide)) (fun q z => ⟨Nat.le_trans hYB z.1, z.2⟩) (Or.inr (Or.inl ⟨rfl, rfl⟩))
      · exact yp_P (Or.inl ⟨rfl, rfl⟩)
      · exact yp_P (Or.inr ⟨u, rfl, hu⟩)
  · rcases ht with ⟨rfl, rfl⟩ | ⟨u, rfl, hu⟩
    · rw [Sum.elim_inl]
      exact act_set hv hI hL hMB q1
    · exact yp_P hu
