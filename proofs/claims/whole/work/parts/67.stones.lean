/-! stones: what hangs on which; the reference's search -/
section L2l
variable {w : Wd} {c : Int} {h h0 : Hp} {K : Int → Hp → Prop} {g st st' : Int → Int} {r lv : Int}
theorem fl_cg {x : Int} (e : st x = st' x) : flP h st lv x = flP h st' lv x := by unfold flP; rw [e]
theorem kn_cg {yr x b hd : Int} (e : st x = st' x) : knP h st lv yr x b hd = knP h st' lv yr x b hd := by
  funext j
  unfold knP
  rw [fl_cg e, e]
theorem cu_cg {yr b hd : Int} (e : st (plP h b) = st' (plP h b)) : cuP h st lv yr b hd = cuP h st' lv yr b hd := by
  unfold cuP
  rw [kn_cg e]
theorem se_cg {yr x b d : Int} (e : st x = st' x) : seP h st lv yr x b d = seP h st' lv yr x b d := by
  unfold seP
  rw [kn_cg e, fl_cg e]
theorem cA1_cg {b : Int} {n : Nat} (e : st n = st' n) : cA1 h st lv g b n = cA1 h st' lv g b n := by
  unfold cA1
  by_cases q : plP h b = n
  · rw [if_pos q, if_pos q]; exact cu_cg (by rw [q]; exact e)
  · rw [if_neg q, if_neg q]
theorem ca_cg {b : Int} : ∀ n : Nat, (∀ x : Int, 0 ≤ x → x < n → st x = st' x) → caP h st lv g b n = caP h st' lv g b n := by
  intro n
  induction n with
  | zero => intro _; rfl
  | succ n ih =>
    intro e
    have e1 := ih (fun x x0 x1 => e x x0 (by omega))
    have e2 := e n (by omega) (by omega)
    show (caP h st lv g b n + cA1 h st lv g b n) - seP h st lv (g 0) n b (caP h st lv g b n + cA1 h st lv g b n) = _
    rw [e1, cA1_cg e2, se_cg e2]; rfl
theorem sd_cg {b : Int} {n : Nat} (e : ∀ x : Int, 0 ≤ x → x < n + 1 → st x = st' x) : sdP h st lv g b n = sdP h st' lv g b n := by
  have e1 := ca_cg (h := h) (lv := lv) (g := g) (b := b) n (fun x x0 x1 => e x x0 (by omega))
  have e2 := e n (by omega) (by omega)
  show seP h st lv (g 0) n b (caP h st lv g b n + cA1 h st lv g b n) = seP h st' lv (g 0) n b (caP h st' lv g b n + cA1 h st' lv g b n)
  rw [e1, cA1_cg e2, se_cg e2]
theorem FV.cg {n : Nat} (V : FV h0 st lv g h n 0) (e : ∀ x : Int, 0 ≤ x → x < n → st x = st' x) (pl : ∀ b : Int, 0 ≤ b → b < nbN h0 → 0 ≤ plP h0 b) : FV h0 st' lv g h n 0 := by
  refine ⟨fun x b b0 b1 q => ?_, fun b b0 b1 q => ?_⟩
  · have v := V.1 x b b0 b1 q
    rw [← sd_cg (st := st) (fun y y0 y1 => e y y0 (by omega)), ← ca_cg (st := st) (x + 1) (fun y y0 y1 => e y y0 (by omega))]
    exact v
  · have v := V.2 b b0 b1 q
    have p := pl b b0 b1
    rw [← cu_cg (st := st) (e _ p (by omega))]
    exact v
theorem FV.le {n m : Nat} (V : FV h0 st lv g h n 0) (hm : m ≤ n) : FV h0 st lv g h m 0 := ⟨fun x b b0 b1 q => V.1 x b b0 b1 (by omega), fun b b0 b1 q => V.2 b b0 b1 (by omega)⟩
/-- the grains of an owner in a reach behind the flood, his share -/
def owP (h : Hp) (st : Int → Int) (lv : Int) (g : Int → Int) (o : Int) (x : Nat) : Int := sm (nbN h) (fun b => if h 96 (50 + 5 * b + 0) = o then sdP h st lv g b x else 0)
def shP (h : Hp) (lv : Int) (g : Int → Int) (o : Int) (x : Nat) (st : Int → Int) : Int := if lgP h g x + siP h st lv g x = 0 then 0 else 1000 * (ogP h g x o + owP h st lv g o x) / (lgP h g x + siP h st lv g x)
theorem ow_b (C : CX h0 r lv st g) {o : Int} {x : Nat} : 0 ≤ owP h0 st lv g o x ∧ owP h0 st lv g o x ≤ siP h0 st lv g x := by
  have hn := C.1.nb
  have q : ∀ b : Int, 0 ≤ b → b < nbN h0 → 0 ≤ sdP h0 st lv g b x := fun b b0 b1 => by have := cr_b C (b := b) ⟨b0, by omega⟩ x; omega
  refine ⟨sm_nonneg fun b b0 b1 => ?_, sm_le fun b b0 b1 => ?_⟩
  · split
    · exact q b b0 b1
    · exact Int.le_refl _
  · split
    · exact Int.le_refl _
    · exact q b b0 b1
theorem sh_b (C : CX h0 r lv st g) {o : Int} {x : Nat} (hx : x < 8) : 0 ≤ shP h0 lv g o x st ∧ shP h0 lv g o x st ≤ 1000 := by
  have a := ow_b C (o := o) (x := x)
  have b := og_b C.1 C.2.2.2.2.2 (x := x) (a := o) ⟨by omega, by omega⟩
  have d := lg_b C.1 C.2.2.2.2.2 (x := x) ⟨by omega, by omega⟩
  have e := si_b C x
  unfold shP
  split
  · omega
  · exact share_b ⟨by omega, by omega⟩ (by omega) (by omega)
theorem sh_cg {o : Int} {x : Nat} (e : ∀ y : Int, 0 ≤ y → y < x + 1 → st y = st' y) : shP h lv g o x st = shP h lv g o x st' := by
  have e1 : siP h st lv g x = siP h st' lv g x := sm_congr fun b _ _ => sd_cg e
  have e2 : owP h st lv g o x = owP h st' lv g o x := sm_congr fun b _ _ => by rw [sd_cg (st := st) (st' := st') e]
  unfold shP
  rw [e1, e2]
theorem y_shareThen (C : CX h0 r lv st g) (S : Sl h0 h) (hg : ∀ i : Int, 0 ≤ i → i < 109 → h 104 i = g i) (V : YV h0 st lv g h) {o : Int} {x : Nat} (ho : inR o) (hx : x < nrN h0) (k : K (shP h0 lv g o x st) h) : C_X12_shareThen w o x h K := by
  have hn := C.1.nb
  have hnr := C.1.nr
  have how := C.1.ow
  have s5 : h 93 5 = nbN h0 := by rw [S.2.2.2.2.1 5 (by omega)]; exact hn.1
  have e : sm (nbN h0) (fun b => if h0 96 (50 + 5 * b + 0) = o then g (29 + 10 * (x : Int) + b) + sdP h0 st lv g b x else 0) = ogP h0 g x o + owP h0 st lv g o x := by
    unfold ogP owP
    rw [← sm_add]
    refine sm_congr fun b b0 b1 => ?_
    by_cases q : h0 96 (50 + 5 * b + 0) = o
    · rw [if_pos q, if_pos q, if_pos q]
    · rw [if_neg q, if_neg q, if_neg q]; rfl
  refine c_X12_shareThen ?_
  suffices ∀ j m : Nat, m + j = nbN h0 → L_X12_shareThen_5 w o x (sm m (fun b => if h0 96 (50 + 5 * b + 0) = o then g (29 + 10 * (x : Int) + b) + sdP h0 st lv g b x else 0)) m h K from this (nbN h0) 0 (by omega)
  intro j
  induction j with
  | zero =>
    intro m em
    obtain rfl : m = nbN h0 := em
    have a := ow_b C (o := o) (x := x)
    have b := og_b C.1 C.2.2.2.2.2 (x := x) (a := o) ⟨by omega, by omega⟩
    have d := lg_b C.1 C.2.2.2.2.2 (x := x) ⟨by omega, by omega⟩
    have si := si_b C x
    rw [e]
    refine l_X12_shareThen_5 ⟨⟨by omega, by omega⟩, ⟨by omega, by omega⟩, fun _ => y_wouldLie C S hg V hx ⟨⟨by omega, by omega⟩, fun q => ⟨⟨by omega, by omega⟩, ⟨by omega, by omega⟩, ?_⟩, fun q => ?_⟩, fun q => absurd (by omega) q⟩
    · unfold shP at k; rw [if_neg q] at k; exact k
    · unfold shP at k; rw [if_pos (Classical.not_not.mp q)] at k; exact k
  | succ j ih =>
    intro m em
    have go := ih (m + 1) (by omega)
    have s96 : h 96 (50 + 5 * (m : Int) + 0) = h0 96 (50 + 5 * (m : Int) + 0) := S.2.2.2.2.2.2.2.1 _ (by omega)
    have bk := C.1.bk (b := m) (by omega) (by omega)
    have v := (V.2 x m (by omega) (by omega) (by omega)).1
    rw [if_pos ⟨hx, by omega⟩] at v
    refine l_X12_shareThen_5 ?_
    rw [s5, s96, v, hg _ (by omega) (by omega)]
    refine ⟨⟨by omega, by omega⟩, ⟨by omega, by omega⟩, fun q => absurd q (by omega), fun _ => ⟨⟨by omega, by omega⟩, ⟨by omega, by omega⟩, ho, fun q => ?_, fun q => ⟨⟨by omega, by omega⟩, ⟨by omega, by omega⟩, ?_⟩⟩⟩
    · rw [show sm (m + 1) (fun b => if h0 96 (50 + 5 * b + 0) = o then g (29 + 10 * (x : Int) + b) + sdP h0 st lv g b x else 0) = sm m (fun b => if h0 96 (50 + 5 * b + 0) = o then g (29 + 10 * (x : Int) + b) + sdP h0 st lv g b x else 0) from (congrArg _ (if_neg q)).trans (Int.add_zero _)] at go
      exact go
    · rw [show sm (m + 1) (fun b => if h0 96 (50 + 5 * b + 0) = o then g (29 + 10 * (x : Int) + b) + sdP h0 st lv g b x else 0) = sm m (fun b => if h0 96 (50 + 5 * b + 0) = o then g (29 + 10 * (x : Int) + b) + sdP h0 st lv g b x else 0) + (g (29 + 10 * (x : Int) + m) + sdP h0 st lv g m x) from congrArg _ (if_pos (Classical.not_not.mp q))] at go
      exact go
theorem pw_b {n : Nat} (hn : n ≤ 8) : 3 ^ n ≤ 6561 := Nat.le_trans (Nat.pow_le_pow_right (by decide) hn) (by decide)
theorem y_laysStones {n row : Nat} (hn : n ≤ 8) (s36 : h 68 36 = n) (hr : row < 3 ^ n) (k : ∀ h1, Fr h h1 [] [105] → (∀ x : Int, 0 ≤ x → x < n → h1 105 x = dgt n row x) → K (dsum n row) h1) : C_X12_laysStones w row h K := by
  have pw := pw_b hn
  refine c_X12_laysStones ?_
  rw [s36]
  -- j reaches are left, ahead of those that are done
  suffices ∀ j : Nat, j ≤ n → ∀ h', Fr h h' [] [105] → (∀ x : Int, j ≤ x → x < n → h' 105 x = dgt n row x) → L_X12_laysStones_12 w ((row / 3 ^ (n - j) : Nat) : Int) (dsum n row - sm j (dgt n row)) ((j : Int) - 1) h' K by
    have q := this n (Nat.le_refl _) h (Fr.into Fr.refl (by decide)) (fun x x0 x1 => by omega)
    rw [show n - n = 0 by omega, Nat.pow_zero, Nat.div_one, show dsum n row - sm n (dgt n row) = 0 by unfold dsum; omega] at q
    exact q
  intro j
  induction j with
  | zero =>
    intro _ h' F V
    refine l_X12_laysStones_12 ⟨⟨by omega, by omega⟩, fun _ => ?_, fun q => absurd (by omega) q⟩
    have := k h' F (fun x x0 x1 => V x (by omega) x1)
    rw [show dsum n row - sm 0 (dgt n row) = dsum n row by show _ - (0 : Int) = _; omega]
    exact this
  | succ j ih =>
    intro hj h' F V
    have le := Nat.div_le_self row (3 ^ (n - (j + 1)))
    have np : (0 : Int) ≤ ((row / 3 ^ (n - (j + 1)) : Nat) : Int) := Int.natCast_nonneg _
    have dj : dgt n row j = ((row / 3 ^ (n - (j + 1)) % 3 : Nat) : Int) := by
      unfold dgt
      rw [if_pos ⟨by omega, by omega⟩, Int.toNat_natCast, show n - 1 - j = n - (j + 1) by omega]
    refine l_X12_laysStones_12 ⟨⟨by omega, by omega⟩, fun q => absurd q (by omega), fun _ => ⟨⟨by omega, by omega⟩, ⟨by omega, by omega⟩, fun h4 q4 => ⟨⟨by omega, by omega⟩, ⟨by omega, by omega⟩, ?_⟩⟩⟩
    have F4 : Fr h' h4 [] [105] := by rw [q4]; exact Fr.row
    rw [show ((j + 1 : Nat) : Int) - 1 = j by omega] at q4 ⊢
    have V4 : ∀ x : Int, h4 105 x = if x = j then dgt n row j else h' 105 x := fun x => by rw [q4, hu_if, dj]; rfl
    have := ih (by omega) h4 ((F.trans F4).into (by decide)) (fun x x0 x1 => by
      rw [V4]
      by_cases d : x = j
      · rw [if_pos d, d]
      · rw [if_neg d]; exact V x (by omega) x1)
    rw [V4, if_pos rfl]
    have e1 : ((row / 3 ^ (n - (j + 1)) : Nat) : Int) / 3 = ((row / 3 ^ (n - j) : Nat) : Int) := by
      rw [show n - j = n - (j + 1) + 1 by omega, Nat.pow_succ, ← Nat.div_div_eq_div_mul]; omega
    have e2 : dsum n row - sm (j + 1) (dgt n row) + dgt n row j = dsum n row - sm j (dgt n row) := by
      show dsum n row - (sm j (dgt n row) + dgt n row j) + dgt n row j = _
      omega
    rw [e1, e2, show (j : Int) + (-1) = (j : Int) - 1 by omega]
    exact this
/-- what is asked of a row: of an owner's share (no bank), or of what a bank holds -/
def PS1 (h : Hp) (lv : Int) (g : Int → Int) (o : Int) (x : Nat) (due : Int) : (Int → Int) → Prop := fun st => due ≤ shP h lv g o x st
def PS2 (h : Hp) (lv : Int) (g : Int → Int) (b due : Int) : (Int → Int) → Prop := fun st => due ≤ g (9 + b) - cuP h st lv (g 0) b (g (9 + b))
abbrev skL : List (Int × Int) := [(68, 65), (68, 50)]
abbrev skR : List Int := 105 :: 113 :: yfR
theorem y_seeks (IBh : IB h0) (G : GS h0 g) (hl : 0 ≤ lv ∧ lv ≤ 9) (S : Sl h0 h) (hg : ∀ i : Int, 0 ≤ i → i < 109 → h 104 i = g i) {v1 v2 v3 v5 : Int} {P : (Int → Int) → Prop} (r5 : inR v5)
    (hv : (v3 = -1 ∧ inR v1 ∧ ∃ x : Nat, v2 = x ∧ x < nrN h0 ∧ P = PS1 h0 lv g v1 x v5) ∨ (0 ≤ v3 ∧ v3 < nbN h0 ∧ P = PS2 h0 lv g v3 v5)) (k : ∀ h1 q, Fr h h1 skL skR → Rs P (nrN h0) (3 ^ nrN h0) (h1 68 65) q → (h1 68 65 ≠ -1 → ∀ x : Int, 0 ≤ x → x < nrN h0 → h1 113 x = dgt (nrN h0) q x) → K 0 h1) : C_X12_seeksStones w v1 v2 v3 lv v5 h K := by
  have R := IBh.1
  have hn := R.nb
  have hnr := R.nr
  have pw := pw_b hnr.2.1
  have pi : (0 : Int) ≤ ((3 ^ nrN h0 : Nat) : Int) ∧ ((3 ^ nrN h0 : Nat) : Int) ≤ 6561 := ⟨Int.natCast_nonneg _, Int.ofNat_le.mpr pw⟩
  have CC : ∀ row, CX h0 (h0 0 4) lv (dgt (nrN h0) row) g := fun row => ⟨R, rfl, IBh.2.2.1, hl, fun x x0 x1 => by have := dgt_b (nrN h0) row x; omega, G⟩
  have fx : ∀ {h'}, Fr h h' skL skR → Sl h0 h' ∧ (∀ i : Int, 0 ≤ i → i < 109 → h' 104 i = g i) ∧ h' 68 36 = nrN h0 := fun {h'} F => by
    have S' := S.tr (Sl.of (by rw [S.1]; exact IBh.1.1) F (by decide))
    refine ⟨S', ?_, by rw [S'.2.2.1]; exact hnr.1⟩
    rw [(F.cell (C := []) (W := [104]) (by decide)).2 104 (by decide)]; exact hg
  -- the rows
  have L35 : ∀ j i : Nat, i + j = 3 ^ nrN h0 → ∀ h' q, Fr h h' skL skR → Rs P (nrN h0) i (h' 68 65) q → (h' 68 65 ≠ -1 → ∀ x : Int, 0 ≤ x → x < nrN h0 → h' 113 x = dgt (nrN h0) q x) → L_X12_seeksStones_35 w v1 v2 v3 lv v5 ((3 ^ nrN h0 : Nat) : Int) i h' K := by
    intro j
    induction j with
    | zero =>
      intro i e h' q F RS V
      obtain rfl : i = 3 ^ nrN h0 := e
      exact l_X12_seeksStones_35 ⟨⟨by omega, by omega⟩, ⟨by omega, by omega⟩, fun _ => k h' q F RS V, fun c => absurd (Int.le_refl _) c⟩
    | succ j ih =>
      intro i e h' q F RS V
      obtain ⟨S', g', s36⟩ := fx F
      have db := dsum_b (nrN h0) i
      have bb : -1 ≤ h' 68 65 ∧ h' 68 65 ≤ 16 := by
        rcases RS with ⟨e, _⟩ | ⟨_, _, e, _⟩
        · omega
        · have := dsum_b (nrN h0) q; omega
      refine l_X12_seeksStones_35 ⟨⟨by omega, by omega⟩, ⟨by omega, by omega⟩, fun c => absurd c (by omega), fun _ => y_laysStones hnr.2.1 s36 (by omega) (fun h9 F9 V9 => ?_)⟩
      have G9 : Fr h h9 skL skR := (F.trans F9).into (by decide)
      obtain ⟨S9, g9, _⟩ := fx G9
      have e65 : h9 68 65 = h' 68 65 := by rw [ne_row F9 68 (by decide)]
      have e113 : h9 113 = h' 113 := ne_row F9 113 (by decide)
      have A9 : AY h0 h9 (dgt (nrN h0) i) g := ⟨S9, V9, g9⟩
      -- a flood by these stones: what is asked
      have test : (h' 68 65 = -1 ∨ dsum (nrN h0) i < h' 68 65) → C_X12_floods w lv h9 (fun _ h13 => (inR v3) ∧ (((v3 ≠ (-1)) → ((0 ≤ v3 ∧ v3 < 10) ∧ ((inR (h13 106 v3)) ∧ ((inR v5) ∧ ((((h13 106 v3) ≥ v5) → (∀ h19 : Hp, h19 = hu h13 68 65 (dsum (nrN h0) i) → L_X12_seeksStones_113 w v1 v2 v3 lv v5 ((3 ^ nrN h0 : Nat) : Int) i 0 h19 K)) ∧ (¬ ((h13 106 v3) ≥ v5) → (L_X12_seeksStones_35 w v1 v2 v3 lv v5 ((3 ^ nrN h0 : Nat) : Int) ((i : Int) + 1) h13 K))))))) ∧ (¬ (v3 ≠ (-1)) → (C_X12_shareThen w v1 v2 h13 (fun r22 h23 => (inR r22) ∧ ((inR v5) ∧ (((r22 ≥ v5) → (∀ h27 : Hp, h27 = hu h23 68 65 (dsum (nrN h0) i) → L_X12_seeksStones_113 w v1 v2 v3 lv v5 ((3 ^ nrN h0 : Nat) : Int) i 0 h27 K)) ∧ (¬ (r22 ≥ v5) → (L_X12_seeksStones_35 w v1 v2 v3 lv v5 ((3 ^ nrN h0 : Nat) : Int) ((i : Int) + 1) h23 K))))))))) := by
        intro hbest
        refine y_floods (CC i) A9 (fun h13 F13 A13 V13 => ?_)
        have G13 : Fr h h13 skL skR := (G9.trans F13).into (by decide)
        have n113 : h13 113 = h' 113 := by rw [(F13.cell (C := []) (W := [113]) (by decide)).2 113 (by decide)]; exact e113
        have n65 : h13 68 65 = h' 68 65 := by rw [← e65]; exact (F13.cell (C := [(68, 65)]) (W := []) (by decide)).1 (68, 65) (by decide)
        have yes : P (dgt (nrN h0) i) → ∀ h19 : Hp, h19 = hu h13 68 65 (dsum (nrN h0) i) → L_X12_seeksStones_113 w v1 v2 v3 lv v5 ((3 ^ nrN h0 : Nat) : Int) i 0 h19 K := by
          intro p h19 q19
          have F19 : Fr h13 h19 [(68, 65)] [] := by rw [q19]; exact Fr.cel
          have r105 : h19 105 = h9 105 := by rw [hu_row q19 (by decide)]; exact (F13.cell (C := []) (W := [105]) (by decide)).2 105 (by decide)
          have RS' : Rs P (nrN h0) (i + 1) (dsum (nrN h0) i) i := RS.yes p hbest
          suffices ∀ jj m : Nat, m + jj = nrN h0 → ∀ hh, Fr h19 hh [] [113] → (∀ x : Int, 0 ≤ x → x < m → hh 113 x = dgt (nrN h0) i x) → L_X12_seeksStones_113 w v1 v2 v3 lv v5 ((3 ^ nrN h0 : Nat) : Int) i m hh K from this (nrN h0) 0 (by omega) h19 (Fr.into Fr.refl (by decide)) (fun x x0 x1 => by omega)
          intro jj
          induction jj with
          | zero =>
            intro m em hh FF VV
            obtain rfl : m = nrN h0 := em
            have GG : Fr h hh skL skR := (G13.trans (F19.trans FF)).into (by decide)
            have z65 : hh 68 65 = dsum (nrN h0) i := by rw [ne_row FF 68 (by decide), q19, hu_if, if_pos rfl]
            refine l_X12_seeksStones_113 ?_
            rw [(fx GG).2.2]
            exact ⟨⟨by omega, by omega⟩, ⟨by omega, by omega⟩, fun _ => ih (i + 1) (by omega) hh i GG (by rw [z65]; exact RS') (fun _ => VV), fun c => absurd (Int.le_refl _) c⟩
          | succ jj ihj =>
            intro m em hh FF VV
            have GG : Fr h hh skL skR := (G13.trans (F19.trans FF)).into (by decide)
            refine l_X12_seeksStones_113 ?_
            rw [(fx GG).2.2]
            refine ⟨⟨by omega, by omega⟩, ⟨by omega, by omega⟩, fun c => absurd c (by omega), fun _ => ⟨⟨by omega, by omega⟩, ⟨by omega, by omega⟩, fun h59 q59 => ?_⟩⟩
            have F59 : Fr hh h59 [] [113] := by rw [q59]; exact Fr.row
            refine ihj (m + 1) (by omega) h59 ((FF.trans F59).into (by decide)) (fun x x0 x1 => ?_)
            rw [q59, hu_if]
            by_cases d : x = m
            · rw [if_pos d, d, ne_row FF 105 (by decide), r105]; exact V9 m (by omega) (by omega)
            · rw [if_neg d]; exact VV x x0 (by omega)
        have no : ¬ P (dgt (nrN h0) i) → L_X12_seeksStones_35 w v1 v2 v3 lv v5 ((3 ^ nrN h0 : Nat) : Int) ((i : Int) + 1) h13 K := fun p => ih (i + 1) (by omega) h13 q G13 (by rw [n65]; exact RS.not p) (by rw [n65, n113]; exact V)
        rcases hv with ⟨e3, r1, x, ex, hx, eP⟩ | ⟨b0, b1, eP⟩
        · refine ⟨⟨by omega, by omega⟩, fun c => absurd e3 c, fun _ => ?_⟩
          subst ex
          have sb := sh_b (CC i) (o := v1) (x := x) (by omega)
          refine y_shareThen (CC i) A13.1 A13.2.2 V13 r1 hx ⟨⟨by omega, by omega⟩, r5, fun c => yes ?_, fun c => no ?_⟩
          · rw [eP]; exact c
          · rw [eP]; exact c
        · have v106 := (V13.1 v3 b0 (by omega)).1
          rw [if_pos b1] at v106
          have cb := cr_b (CC i) (b := v3) ⟨b0, by omega⟩ 0
          have gb := GS.hl G (b := v3) ⟨b0, by omega⟩
          refine ⟨⟨by omega, by omega⟩, fun _ => ⟨⟨by omega, by omega⟩, ⟨by omega, by omega⟩, r5, fun c => yes ?_, fun c => no ?_⟩, fun c => absurd (by omega) c⟩
          · rw [eP]; rw [v106] at c; exact c
          · rw [eP]; rw [v106] at c; exact c
      rw [e65]
      refine ⟨⟨by omega, by omega⟩, fun c => test (Or.inl c), fun c => ⟨⟨by omega, by omega⟩, ⟨by omega, by omega⟩, fun c2 => test (Or.inr c2), fun c2 => ?_⟩⟩
      exact ih (i + 1) (by omega) h9 q G9 (by rw [e65]; exact RS.skip c (by omega)) (by rw [e65, e113]; exact V)
  refine c_X12_seeksStones ?_
  have s36 := (fx (Fr.into Fr.refl (by decide))).2.2
  suffices ∀ j i : Nat, i + j = nrN h0 → L_X12_seeksStones_6 w v1 v2 v3 lv v5 ((3 ^ i : Nat) : Int) i h K from this (nrN h0) 0 (by omega)
  intro j
  induction j with
  | zero =>
    intro i e
    obtain rfl : i = nrN h0 := e
    refine l_X12_seeksStones_6 ?_
    rw [s36]
    refine ⟨⟨by omega, by omega⟩, ⟨by omega, by omega⟩, fun _ h3 q3 => ?_, fun c => absurd (Int.le_refl _) c⟩
    have F3 : Fr h h3 [(68, 65)] [] := by rw [q3]; exact Fr.cel
    have z : h3 68 65 = -1 := by rw [q3, hu_if, if_pos rfl]
    exact L35 (3 ^ nrN h0) 0 (by omega) h3 0 (F3.into (by decide)) (Or.inl ⟨z, fun i hi => by omega⟩) (fun c => absurd z c)
  | succ j ih =>
    intro i e
    have := ih (i + 1) (by omega)
    refine l_X12_seeksStones_6 ?_
    rw [s36]
    refine ⟨⟨by omega, by omega⟩, ⟨by omega, by omega⟩, fun c => absurd c (by omega), fun _ => ?_⟩
    rw [Nat.pow_succ, Int.natCast_mul] at this
    exact this
end L2l
