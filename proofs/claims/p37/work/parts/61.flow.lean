/-! ===== a RUN and what lies in it, as numbers ===== -/
abbrev aRun : Type := Int × (Int → Int) × (Int → Int → Int)
def rn (R : aRun) : Int := R.1
def rs (R : aRun) (k : Int) : Int := R.2.1 k
def rc (R : aRun) (b w : Int) : Int := R.2.2 b w
/-- how many PIECES are ahead of a BLOCK -/
def fs (R : aRun) (b : Int) : Int := sI (fun b => rc R b 1) b
def np (R : aRun) : Int := fs R (rn R)
/-- the BLOCK of a PIECE, its number there -/
def ow (R : aRun) (p : Int) : Int := sI (fun b => if fs R (b + 1) ≤ p then 1 else 0) (rn R)
def nu (R : aRun) (p : Int) : Int := p - fs R (ow R p)
/-- how many spans are ahead of a BLOCK -/
def sc (R : aRun) (b : Int) : Int := sI (fun b => if rc R b 0 = 4 then 1 else 0) b
def ns (R : aRun) : Int := if rn R ≤ 0 then 0 else sc R (rn R) + 1
def sbk (R : aRun) (s : Int) : Int := sI (fun b => if sc R (b + 1) < s then 1 else 0) (rn R)
def bg (R : aRun) (s : Int) : Int := if s ≤ 0 then 0 else fs R (sbk R s)
def sh (R : aRun) (s : Int) : Int := if s ≤ 0 then 0 else rc R (sbk R s) 2
/-- note lines of the MARK at a line -/
def nt (R : aRun) (b l : Int) : Int :=
  if 0 < rc R b 7 ∧ rc R b 8 = l then rc R b 12
  else if 1 < rc R b 7 ∧ rc R b 9 = l then rc R b 13
  else if 2 < rc R b 7 ∧ rc R b 10 = l then rc R b 14
  else if 3 < rc R b 7 ∧ rc R b 11 = l then rc R b 15 else 0
def pH (R : aRun) (p : Int) : Int := if nu R p = 0 then rc R (ow R p) 2 + rc R (ow R p) 3 else rc R (ow R p) 2
def pG (R : aRun) (p : Int) : Int := if nu R p = 0 then rc R (ow R p) 6 else 0
def pT (R : aRun) (p : Int) : Int := if nu R p = 0 then 0 else rc R (ow R p) 3
def pN (R : aRun) (p : Int) : Int := nt R (ow R p) (nu R p + 1)
def pS (R : aRun) (p : Int) : Int := sc R (ow R p)
def hT (R : aRun) (p : Int) : Int := sI (fun q => pH R q + pG R q) p
def lT (R : aRun) (p : Int) : Int := sI (pN R) p
def llN (R : aRun) : Nat → Int
  | 0 => 0
  | n + 1 => if pN R n ≤ 0 then llN R n else pN R n
def ll (R : aRun) (p : Int) : Int := llN R p.toNat
def nc (R : aRun) (p : Int) : Int := sI (fun q => if pN R q ≤ 0 then 0 else 1) p
/-- whether a column may end behind the i-th PIECE of a BLOCK, if its SECTION goes on there -/
def eb (R : aRun) (b i : Int) : Prop :=
  if rc R b 1 ≤ i then rc R b 0 ≠ 2 ∧ rc R b 4 = 0
  else if rc R b 0 = 0 then rc R b 5 = 0 ∧ rs R 2 ≤ i ∧ (0 < b → rc R (b - 1) 0 = 2 → rs R 4 ≤ i) ∧ rs R 3 ≤ rc R b 1 - i
  else rc R b 0 = 3
def en (R : aRun) (e : Int) : Prop := (∃ s, 0 ≤ s ∧ s < ns R ∧ (e = bg R s ∨ e = bg R (s + 1))) ∨ (0 < e ∧ e ≤ np R ∧ eb R (ow R (e - 1)) (nu R (e - 1) + 1))
def WFb (R : aRun) (b : Int) : Prop :=
  (0 ≤ rc R b 0 ∧ rc R b 0 ≤ 4) ∧ (0 ≤ rc R b 1 ∧ rc R b 1 ≤ 30) ∧ (rc R b 0 = 4 → rc R b 1 = 0 ∧ rc R b 4 = 0) ∧ (rc R b 0 ≠ 4 → 1 ≤ rc R b 1) ∧ (rc R b 0 = 1 ∨ rc R b 0 = 2 → rc R b 1 = 1) ∧
  (0 ≤ rc R b 2 ∧ rc R b 2 ≤ 200) ∧ (0 ≤ rc R b 3 ∧ rc R b 3 ≤ 9) ∧ (rc R b 4 = 0 ∨ rc R b 4 = 1) ∧ (rc R b 5 = 0 ∨ rc R b 5 = 1) ∧ (0 ≤ rc R b 6 ∧ rc R b 6 ≤ 30) ∧ (0 ≤ rc R b 7 ∧ rc R b 7 ≤ 4) ∧
  (0 ≤ rc R b 12 ∧ rc R b 12 ≤ 20) ∧ (0 ≤ rc R b 13 ∧ rc R b 13 ≤ 20) ∧ (0 ≤ rc R b 14 ∧ rc R b 14 ≤ 20) ∧ (0 ≤ rc R b 15 ∧ rc R b 15 ≤ 20)
def WFs (R : aRun) : Prop := (1 ≤ rs R 0 ∧ rs R 0 ≤ 5) ∧ (10 ≤ rs R 1 ∧ rs R 1 ≤ 400) ∧ (1 ≤ rs R 2 ∧ rs R 2 ≤ 9) ∧ (1 ≤ rs R 3 ∧ rs R 3 ≤ 9) ∧ (0 ≤ rs R 4 ∧ rs R 4 ≤ 9) ∧ (1 ≤ rs R 5 ∧ rs R 5 ≤ 3) ∧ (0 ≤ rs R 6 ∧ rs R 6 ≤ 9) ∧ (0 ≤ rs R 7 ∧ rs R 7 ≤ 60)
def WF (R : aRun) : Prop := (0 ≤ rn R ∧ rn R ≤ 16) ∧ WFs R ∧ (∀ b, 0 ≤ b → b < rn R → WFb R b) ∧ np R ≤ 90
/-! sums that count how many come first -/
theorem sI_step {f : Int → Int} {b n : Int} (h0 : 0 ≤ b) (hb : b ≤ n) (h1 : ∀ i, 0 ≤ i → i < b → f i = 1) (h2 : ∀ i, b ≤ i → i < n → f i = 0) : sI f n = b := by
  have := sI_ind (f := f) (P := fun k s => k ≤ n → s = if k ≤ b then k else b) (fun _ => by rw [if_pos h0]) (fun k s hk ih hle => by
    have e := ih (by omega)
    by_cases c : k < b
    · rw [h1 k hk c, e, if_pos (by omega), if_pos (by omega)]
    · rw [h2 k (by omega) (by omega), e]
      by_cases d : k ≤ b
      · rw [if_pos d, if_neg (by omega)]; omega
      · rw [if_neg d, if_neg (by omega)]; omega) n (by omega)
  have e := this (Int.le_refl n)
  rw [e]
  by_cases d : n ≤ b
  · rw [if_pos d]; omega
  · rw [if_neg d]
section
variable {R : aRun} (hw : WF R)
theorem fs_0 {R : aRun} : fs R 0 = 0 := rfl
theorem fs_s {R : aRun} {b : Int} (h : 0 ≤ b) : fs R (b + 1) = fs R b + rc R b 1 := sI_s h
theorem fs_mono (hw : WF R) {a b : Int} (ha : 0 ≤ a) (hb : a ≤ b) (hn : b ≤ rn R) : fs R a ≤ fs R b := sI_mono ha hb (fun i h1 h2 => (hw.2.2.1 i (by omega) (by omega)).2.1.1)
theorem fs_ge (hw : WF R) {b : Int} (h0 : 0 ≤ b) (hn : b ≤ rn R) : 0 ≤ fs R b := by
  have := fs_mono hw (Int.le_refl 0) h0 hn
  rwa [fs_0] at this
theorem fs_le (hw : WF R) {b : Int} (h0 : 0 ≤ b) (hn : b ≤ rn R) : fs R b ≤ np R := fs_mono hw h0 hn (Int.le_refl _)
theorem np_ge (hw : WF R) : 0 ≤ np R := fs_ge hw hw.1.1 (Int.le_refl _)
theorem ow_at (hw : WF R) {b i : Int} (h0 : 0 ≤ b) (hb : b < rn R) (hi : 0 ≤ i) (hm : i < rc R b 1) : ow R (fs R b + i) = b := by
  unfold ow
  refine sI_step h0 (by omega) (fun j h1 h2 => if_pos ?_) (fun j h1 h2 => if_neg ?_)
  · have := fs_mono hw (a := j + 1) (b := b) (by omega) (by omega) (by omega)
    omega
  · have := fs_mono hw (a := b + 1) (b := j + 1) (by omega) (by omega) (by omega)
    rw [fs_s h0] at this
    omega
theorem nu_at (hw : WF R) {b i : Int} (h0 : 0 ≤ b) (hb : b < rn R) (hi : 0 ≤ i) (hm : i < rc R b 1) : nu R (fs R b + i) = i := by
  unfold nu
  rw [ow_at hw h0 hb hi hm]
  omega
theorem p_in (hw : WF R) {p : Int} (h0 : 0 ≤ p) (hp : p < np R) : ∃ b i, 0 ≤ b ∧ b < rn R ∧ 0 ≤ i ∧ i < rc R b 1 ∧ p = fs R b + i := by
  have key : ∀ n : Nat, (n : Int) ≤ rn R → p < fs R n → ∃ b i, 0 ≤ b ∧ b < rn R ∧ 0 ≤ i ∧ i < rc R b 1 ∧ p = fs R b + i := by
    intro n
    induction n with
    | zero => intro _ h; rw [show ((0 : Nat) : Int) = 0 from rfl, fs_0] at h; omega
    | succ n ih =>
      intro hn h
      by_cases c : p < fs R n
      · exact ih (by omega) c
      · rw [show ((n + 1 : Nat) : Int) = (n : Int) + 1 by omega, fs_s (by omega)] at h
        exact ⟨n, p - fs R n, by omega, by omega, by omega, by omega, by omega⟩
  refine key (rn R).toNat ?_ ?_
  · have := hw.1.1; omega
  · have := hw.1.1
    rw [show (((rn R).toNat : Nat) : Int) = rn R by omega]
    exact hp
theorem ow_in (hw : WF R) {p : Int} (h0 : 0 ≤ p) (hp : p < np R) : 0 ≤ ow R p ∧ ow R p < rn R ∧ 0 ≤ nu R p ∧ nu R p < rc R (ow R p) 1 ∧ p = fs R (ow R p) + nu R p := by
  obtain ⟨b, i, h1, h2, h3, h4, rfl⟩ := p_in hw h0 hp
  rw [ow_at hw h1 h2 h3 h4, nu_at hw h1 h2 h3 h4]
  exact ⟨h1, h2, h3, h4, rfl⟩
theorem sc_0 {R : aRun} : sc R 0 = 0 := rfl
theorem sc_s {R : aRun} {b : Int} (h : 0 ≤ b) : sc R (b + 1) = sc R b + (if rc R b 0 = 4 then 1 else 0) := sI_s h
theorem sc_mono {R : aRun} {a b : Int} (ha : 0 ≤ a) (hb : a ≤ b) : sc R a ≤ sc R b := sI_mono ha hb (fun i _ _ => by split <;> omega)
theorem sc_in {R : aRun} {b : Int} (h : 0 ≤ b) : 0 ≤ sc R b ∧ sc R b ≤ b := by
  have := sI_bound (f := fun b => if rc R b 0 = 4 then 1 else 0) (n := b) (lo := 0) (hi := 1) (fun i _ _ => by (try dsimp only); split <;> omega) h
  unfold sc
  omega
theorem sbk_at {R : aRun} {b : Int} (h0 : 0 ≤ b) (hb : b < rn R) (hk : rc R b 0 = 4) : sbk R (sc R b + 1) = b := by
  unfold sbk
  refine sI_step h0 (by omega) (fun j h1 h2 => if_pos ?_) (fun j h1 h2 => if_neg ?_)
  · have := sc_mono (R := R) (a := j + 1) (b := b) (by omega) (by omega)
    omega
  · have := sc_mono (R := R) (a := b + 1) (b := j + 1) (by omega) (by omega)
    rw [sc_s h0, if_pos hk] at this
    omega
theorem bg_0 {R : aRun} : bg R 0 = 0 := if_pos (Int.le_refl 0)
theorem bg_at {R : aRun} {b : Int} (h0 : 0 ≤ b) (hb : b < rn R) (hk : rc R b 0 = 4) : bg R (sc R b + 1) = fs R b := by
  have := (sc_in (R := R) h0).1
  unfold bg
  rw [if_neg (by omega), sbk_at h0 hb hk]
theorem sh_at {R : aRun} {b : Int} (h0 : 0 ≤ b) (hb : b < rn R) (hk : rc R b 0 = 4) : sh R (sc R b + 1) = rc R b 2 := by
  have := (sc_in (R := R) h0).1
  unfold sh
  rw [if_neg (by omega), sbk_at h0 hb hk]
theorem sbk_end {R : aRun} (hn : 0 ≤ rn R) {s : Int} (hs : sc R (rn R) < s) : sbk R s = rn R := by
  unfold sbk
  refine sI_step hn (Int.le_refl _) (fun j h1 h2 => if_pos ?_) (fun j h1 h2 => by omega)
  have := sc_mono (R := R) (a := j + 1) (b := rn R) (by omega) (by omega)
  omega
theorem bg_end {R : aRun} (hn : 0 ≤ rn R) {s : Int} (hs : sc R (rn R) < s) : bg R s = np R := by
  have := (sc_in (R := R) hn).1
  unfold bg
  rw [if_neg (by omega), sbk_end hn hs]
  rfl
theorem sbk_in {R : aRun} (hn : 0 ≤ rn R) (s : Int) : 0 ≤ sbk R s ∧ sbk R s ≤ rn R := by
  have := sI_bound (f := fun b => if sc R (b + 1) < s then 1 else 0) (n := rn R) (lo := 0) (hi := 1) (fun i _ _ => by (try dsimp only); split <;> omega) hn
  unfold sbk
  omega
theorem sI_le_sI {f g : Int → Int} {n : Int} (h : ∀ i, 0 ≤ i → i < n → f i ≤ g i) : sI f n ≤ sI g n := by
  rcases Int.le_total n 0 with hn | hn
  · rw [sI_le hn, sI_le hn]; exact Int.le_refl _
  · have := sI_ind (f := f) (P := fun k s => k ≤ n → s ≤ sI g k) (fun _ => Int.le_refl _) (fun k s hk ih hle => by
      have h1 := ih (by omega)
      have h2 := h k hk (by omega)
      rw [sI_s hk]; omega) n hn
    exact this (Int.le_refl n)
theorem sbk_mono {R : aRun} {s t : Int} (h : s ≤ t) : sbk R s ≤ sbk R t := sI_le_sI (fun i _ _ => by (try dsimp only); split <;> split <;> omega)
theorem bg_mono (hw : WF R) {s t : Int} (h : s ≤ t) : bg R s ≤ bg R t := by
  have a1 := sbk_in hw.1.1 s
  have a2 := sbk_in hw.1.1 t
  unfold bg
  by_cases c : s ≤ 0
  · rw [if_pos c]
    split
    · exact Int.le_refl _
    · exact fs_ge hw a2.1 a2.2
  · rw [if_neg c, if_neg (by omega)]
    exact fs_mono hw a1.1 (sbk_mono h) a2.2
theorem bg_in (hw : WF R) (s : Int) : 0 ≤ bg R s ∧ bg R s ≤ np R := by
  have a1 := sbk_in hw.1.1 s
  unfold bg
  split
  · exact ⟨Int.le_refl _, np_ge hw⟩
  · exact ⟨fs_ge hw a1.1 a1.2, fs_le hw a1.1 a1.2⟩
/-- a PIECE lies in its SECTION -/
theorem pS_in (hw : WF R) {p : Int} (h0 : 0 ≤ p) (hp : p < np R) : 0 ≤ pS R p ∧ pS R p < ns R ∧ bg R (pS R p) ≤ p ∧ p < bg R (pS R p + 1) := by
  obtain ⟨h1, h2, h3, h4, h5⟩ := ow_in hw h0 hp
  have a1 := sc_in (R := R) h1
  have a2 := sc_mono (R := R) (a := ow R p) (b := rn R) h1 (by omega)
  have hk : rc R (ow R p) 0 ≠ 4 := fun e => by
    have := ((hw.2.2.1 _ h1 h2).2.2.1 e).1
    omega
  refine ⟨a1.1, ?_, ?_, ?_⟩
  · unfold ns pS
    rw [if_neg (by omega)]
    omega
  · unfold bg pS
    split
    · exact h0
    · have hb : sbk R (sc R (ow R p)) ≤ ow R p := by
        unfold sbk
        have := sI_mono (f := fun b => if sc R (b + 1) < sc R (ow R p) then 1 else 0) (a := ow R p) (b := rn R) h1 (by omega) (fun i _ _ => by (try dsimp only); split <;> omega)
        have e : sI (fun b => if sc R (b + 1) < sc R (ow R p) then (1 : Int) else 0) (rn R) = sI (fun b => if sc R (b + 1) < sc R (ow R p) then 1 else 0) (ow R p) := by
          have key : ∀ d : Nat, ow R p + d ≤ rn R → sI (fun b => if sc R (b + 1) < sc R (ow R p) then (1 : Int) else 0) (ow R p + d) = sI (fun b => if sc R (b + 1) < sc R (ow R p) then 1 else 0) (ow R p) := by
            intro d
            induction d with
            | zero => intro _; rw [show ow R p + ((0 : Nat) : Int) = ow R p by omega]
            | succ d ih =>
              intro hd
              rw [show ow R p + ((d + 1 : Nat) : Int) = (ow R p + d) + 1 by omega, sI_s (by omega), ih (by omega)]
              have := sc_mono (R := R) (a := ow R p) (b := ow R p + d + 1) h1 (by omega)
              rw [if_neg (by omega)]
              omega
          have := key (rn R - ow R p).toNat (by omega)
          rwa [show ow R p + (((rn R - ow R p).toNat : Nat) : Int) = rn R by omega] at this
        rw [e]
        have := sI_bound (f := fun b => if sc R (b + 1) < sc R (ow R p) then 1 else 0) (n := ow R p) (lo := 0) (hi := 1) (fun i _ _ => by (try dsimp only); split <;> omega) h1
        omega
      have := fs_mono hw (sbk_in hw.1.1 _).1 hb (by omega)
      omega
  · unfold bg pS
    rw [if_neg (by omega)]
    have hb : ow R p + 1 ≤ sbk R (sc R (ow R p) + 1) := by
      unfold sbk
      have e : sI (fun b => if sc R (b + 1) < sc R (ow R p) + 1 then (1 : Int) else 0) (ow R p + 1) = ow R p + 1 := sI_step (by omega) (Int.le_refl _) (fun j g1 g2 => if_pos (by
        have := sc_mono (R := R) (a := j + 1) (b := ow R p + 1) (by omega) (by omega)
        rw [sc_s h1, if_neg hk] at this
        omega)) (fun j g1 g2 => by omega)
      have := sI_mono (f := fun b => if sc R (b + 1) < sc R (ow R p) + 1 then (1 : Int) else 0) (a := ow R p + 1) (b := rn R) (by omega) (by omega) (fun i _ _ => by (try dsimp only); split <;> omega)
      omega
    have := fs_mono hw (a := ow R p + 1) (b := sbk R (sc R (ow R p) + 1)) (by omega) hb (sbk_in hw.1.1 _).2
    rw [fs_s h1] at this
    omega
/-! how much there is -/
theorem nt_in (hw : WF R) {b : Int} (h0 : 0 ≤ b) (hb : b < rn R) (l : Int) : 0 ≤ nt R b l ∧ nt R b l ≤ 20 := by
  obtain ⟨-, -, -, -, -, -, -, -, -, -, -, h1, h2, h3, h4⟩ := hw.2.2.1 b h0 hb
  unfold nt
  repeat' split
  all_goals omega
theorem pN_in (hw : WF R) {p : Int} (h0 : 0 ≤ p) (hp : p < np R) : 0 ≤ pN R p ∧ pN R p ≤ 20 := by
  obtain ⟨h1, h2, -⟩ := ow_in hw h0 hp
  exact nt_in hw h1 h2 _
theorem pH_in (hw : WF R) {p : Int} (h0 : 0 ≤ p) (hp : p < np R) : 0 ≤ pH R p ∧ pH R p ≤ 209 := by
  obtain ⟨h1, h2, -⟩ := ow_in hw h0 hp
  have := hw.2.2.1 _ h1 h2
  obtain ⟨-, -, -, -, -, a1, a2, -⟩ := this
  unfold pH
  split <;> omega
theorem pG_in (hw : WF R) {p : Int} (h0 : 0 ≤ p) (hp : p < np R) : 0 ≤ pG R p ∧ pG R p ≤ 30 := by
  obtain ⟨h1, h2, -⟩ := ow_in hw h0 hp
  have := hw.2.2.1 _ h1 h2
  obtain ⟨-, -, -, -, -, -, -, -, -, a1, -⟩ := this
  unfold pG
  split <;> omega
theorem pT_in (hw : WF R) {p : Int} (h0 : 0 ≤ p) (hp : p < np R) : 0 ≤ pT R p ∧ pT R p ≤ 9 := by
  obtain ⟨h1, h2, -⟩ := ow_in hw h0 hp
  have := hw.2.2.1 _ h1 h2
  obtain ⟨-, -, -, -, -, -, a1, -⟩ := this
  unfold pT
  split <;> omega
theorem hT_0 {R : aRun} : hT R 0 = 0 := rfl
theorem hT_s {R : aRun} {p : Int} (h : 0 ≤ p) : hT R (p + 1) = hT R p + (pH R p + pG R p) := sI_s h
theorem lT_0 {R : aRun} : lT R 0 = 0 := rfl
theorem lT_s {R : aRun} {p : Int} (h : 0 ≤ p) : lT R (p + 1) = lT R p + pN R p := sI_s h
theorem ll_0 {R : aRun} : ll R 0 = 0 := rfl
theorem ll_s {R : aRun} {p : Int} (h : 0 ≤ p) : ll R (p + 1) = if pN R p ≤ 0 then ll R p else pN R p := by
  unfold ll
  rw [show (p + 1).toNat = p.toNat + 1 by omega]
  show (if pN R (p.toNat : Int) ≤ 0 then _ else pN R (p.toNat : Int)) = _
  rw [show ((p.toNat : Nat) : Int) = p by omega]
theorem hT_mono (hw : WF R) {a b : Int} (ha : 0 ≤ a) (hb : a ≤ b) (hn : b ≤ np R) : hT R a ≤ hT R b := sI_mono ha hb (fun i h1 h2 => by
  have := pH_in hw (p := i) (by omega) (by omega)
  have := pG_in hw (p := i) (by omega) (by omega)
  omega)
theorem lT_mono (hw : WF R) {a b : Int} (ha : 0 ≤ a) (hb : a ≤ b) (hn : b ≤ np R) : lT R a ≤ lT R b := sI_mono ha hb (fun i h1 h2 => (pN_in hw (p := i) (by omega) (by omega)).1)
theorem hT_in (hw : WF R) {p : Int} (h0 : 0 ≤ p) (hp : p ≤ np R) : 0 ≤ hT R p ∧ hT R p ≤ 239 * p := by
  have := sI_bound (f := fun q => pH R q + pG R q) (n := p) (lo := 0) (hi := 239) (fun i h1 h2 => by
    have := pH_in hw (p := i) (by omega) (by omega)
    have := pG_in hw (p := i) (by omega) (by omega)
    omega) h0
  unfold hT
  omega
theorem lT_in (hw : WF R) {p : Int} (h0 : 0 ≤ p) (hp : p ≤ np R) : 0 ≤ lT R p ∧ lT R p ≤ 20 * p := by
  have := sI_bound (f := pN R) (n := p) (lo := 0) (hi := 20) (fun i h1 h2 => pN_in hw (p := i) (by omega) (by omega)) h0
  unfold lT
  omega
/-- the last NOTE ahead is one of those from here on, if there are any -/
theorem ll_in (hw : WF R) {p : Int} (h0 : 0 ≤ p) (hp : p ≤ np R) : 0 ≤ ll R p ∧ ll R p ≤ 20 ∧ (∀ q, 0 ≤ q → q ≤ p → 0 < lT R p - lT R q → 1 ≤ ll R p ∧ ll R p ≤ lT R p - lT R q) := by
  have key : ∀ n : Nat, (n : Int) ≤ np R → 0 ≤ ll R n ∧ ll R n ≤ 20 ∧ (∀ q : Int, 0 ≤ q → q ≤ (n : Int) → 0 < lT R n - lT R q → 1 ≤ ll R n ∧ ll R n ≤ lT R n - lT R q) := by
    intro n
    induction n with
    | zero =>
      intro _
      refine ⟨Int.le_refl _, by rw [show ((0 : Nat) : Int) = 0 from rfl, ll_0]; omega, fun q h1 h2 h3 => ?_⟩
      have : q = 0 := by omega
      subst this
      rw [show ((0 : Nat) : Int) = 0 from rfl] at h3
      omega
    | succ n ih =>
      intro hn
      obtain ⟨i1, i2, i3⟩ := ih (by omega)
      rw [show ((n + 1 : Nat) : Int) = (n : Int) + 1 by omega, ll_s (by omega), lT_s (by omega)]
      have hp := pN_in hw (p := n) (by omega) (by omega)
      refine ⟨by split <;> omega, by split <;> omega, fun q h1 h2 h3 => ?_⟩
      by_cases c : q = n + 1
      · subst c
        rw [lT_s (by omega)] at h3
        omega
      · have hq := lT_mono hw (a := q) (b := n) h1 (by omega) (by omega)
        by_cases d : pN R n ≤ 0
        · rw [if_pos d]
          have := i3 q h1 (by omega) (by omega)
          omega
        · rw [if_neg d]
          omega
  have := key p.toNat (by omega)
  rwa [show ((p.toNat : Nat) : Int) = p by omega] at this
end
