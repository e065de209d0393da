/-! the class's search for stones; the pairs of mine and keep -/
section L2m
variable {w : Wd} {c : Int} {h h0 : Hp} {K : Int → Hp → Prop} {g st st' : Int → Int} {r lv : Int}
theorem x_begin (k : ∀ h1, Fr h h1 [(66, 2)] [62] → h1 66 2 = -1 → (∀ x : Int, 0 ≤ x → x < 8 → h1 62 x = 0) → K 0 h1) : C_X3_begin w h K := by
  refine c_X3_begin (fun h1 q1 => ?_)
  have F1 : Fr h h1 [(66, 2)] [] := by rw [q1]; exact Fr.cel
  suffices ∀ j n : Nat, n + j = 8 → ∀ h', Fr h1 h' [] [62] → (∀ x : Int, 0 ≤ x → x < n → h' 62 x = 0) → L_X3_begin_7 w n h' K from this 8 0 (by omega) h1 (Fr.into Fr.refl (by decide)) (fun x x0 x1 => by omega)
  intro j
  induction j with
  | zero =>
    intro n e h' F V
    obtain rfl : n = 8 := e
    exact l_X3_begin_7 ⟨⟨by omega, by omega⟩, fun _ => k h' ((F1.trans F).into (by decide)) (by rw [ne_row F 66 (by decide), q1, hu_if, if_pos rfl]) V, fun q => absurd (by omega) q⟩
  | succ j ih =>
    intro n e h' F V
    refine l_X3_begin_7 ⟨⟨by omega, by omega⟩, fun q => absurd q (by omega), fun _ => ⟨⟨by omega, by omega⟩, fun h5 q5 => ?_⟩⟩
    have F5 : Fr h' h5 [] [62] := by rw [q5]; exact Fr.row
    refine ih (n + 1) (by omega) h5 ((F.trans F5).into (by decide)) (fun x x0 x1 => ?_)
    rw [q5, hu_if]
    by_cases d : x = n
    · rw [if_pos d]
    · rw [if_neg d]; exact V x x0 (by omega)
theorem x_keepBest (k : ∀ h1, Fr h h1 [(66, 2)] [67] → h1 66 2 = sm 8 (h 62) → (∀ x : Int, 0 ≤ x → x < 8 → h1 67 x = h 62 x) → K 0 h1) : C_X3_keepBest w h K := by
  refine c_X3_keepBest (s_total ar_62 (fun h4 q4 h6 q6 => ?_))
  have F4 : Fr h h4 [(66, 2)] [] := by rw [q4]; exact Fr.cel
  have F6 : Fr h4 h6 [] [67] := by rw [q6]; exact Fr.cpy
  refine k h6 ((F4.trans F6).into (by decide)) (by rw [ne_row F6 66 (by decide), q4, hu_if, if_pos rfl]) (fun x x0 x1 => ?_)
  rw [q6, hc_if, if_pos ⟨by omega, by omega⟩, hu_row q4 (by decide)]; exact congrArg _ (by omega)
theorem x_countUp {m i : Nat} (hm : 0 < m ∧ m ≤ 8) (hi : i < 3 ^ m) (hs : ∀ x : Int, 0 ≤ x → x < 8 → h 62 x = dgt m i x) (k : ∀ (h1 : Hp) (a : Nat), Fr h h1 [] [62] → a < m → (i + 1 < 3 ^ m → (∀ x : Int, 0 ≤ x → x < 8 → h1 62 x = dgt m (i + 1) x) ∧ ∀ x : Int, 0 ≤ x → x < a → dgt m (i + 1) x = dgt m i x) → K a h1) : C_X3_countUp w ((m : Int) - 1) h K := by
  refine c_X3_countUp ?_
  suffices ∀ v : Nat, v < m → ∀ a : Nat, i = a * 3 ^ (m - 1 - v) + (3 ^ (m - 1 - v) - 1) → ∀ h', Fr h h' [] [62] → (∀ x : Int, 0 ≤ x → x < 8 → h' 62 x = if v < x then 0 else dgt m i x) → L_X3_countUp_2 w v h' K by
    have q := this (m - 1) (by omega) i (by rw [show m - 1 - (m - 1) = 0 by omega, Nat.pow_zero]; omega) h (Fr.into Fr.refl (by decide)) (fun x x0 x1 => by
      by_cases d : ((m - 1 : Nat) : Int) < x
      · rw [if_pos d, hs x x0 x1]; unfold dgt; rw [if_neg (by omega)]
      · rw [if_neg d]; exact hs x x0 x1)
    rw [show ((m - 1 : Nat) : Int) = (m : Int) - 1 by omega] at q
    exact q
  -- a digit below two is counted up
  have up : ∀ v : Nat, v < m → ∀ a : Nat, i = a * 3 ^ (m - 1 - v) + (3 ^ (m - 1 - v) - 1) → ∀ h', Fr h h' [] [62] → (∀ x : Int, 0 ≤ x → x < 8 → h' 62 x = if v < x then 0 else dgt m i x) → (i + 1 < 3 ^ m → a % 3 < 2) → ∀ h4 : Hp, h4 = hu h' 62 v ((h' 62 v) + 1) → K v h4 := by
    intro v hv a ei h' F V ha h4 q4
    have F4 : Fr h' h4 [] [62] := by rw [q4]; exact Fr.row
    refine k h4 v ((F.trans F4).into (by decide)) hv (fun lt => ?_)
    have pos : 0 < 3 ^ (m - 1 - v) := Nat.pow_pos (by decide)
    have e1 : i + 1 = (a + 1) * 3 ^ (m - 1 - v) := by rw [Nat.add_mul, Nat.one_mul]; omega
    have nx := fun (x : Int) (hx : 0 ≤ x ∧ x < m) => dgt_next (m := m) (a := a) (k := m - 1 - v) (ha lt) hx (by omega)
    rw [← e1, ← ei] at nx
    have vv : h' 62 v = ((a % 3 : Nat) : Int) := by
      rw [V v (by omega) (by omega), if_neg (by omega)]
      have := dgt_two (m := m) (a := a) (k := m - 1 - v) (r := v) (by omega) (by omega)
      rw [← ei] at this
      exact this
    refine ⟨fun x x0 x1 => ?_, fun x x0 x1 => ?_⟩
    · rw [q4, hu_if]
      by_cases d : x = v
      · rw [if_pos d, d, vv, nx v ⟨by omega, by omega⟩, if_neg (by omega), if_pos (by omega)]
      · rw [if_neg d, V x x0 x1]
        by_cases d2 : (v : Int) < x
        · rw [if_pos d2]
          by_cases d3 : x < m
          · rw [nx x ⟨x0, d3⟩, if_neg (by omega), if_neg (by omega)]
          · unfold dgt; rw [if_neg (by omega)]
        · rw [if_neg d2, nx x ⟨x0, by omega⟩, if_pos (by omega)]
    · rw [nx x ⟨x0, by omega⟩, if_pos (by omega)]
  intro v
  induction v with
  | zero =>
    intro hv a ei h' F V
    have pos : 0 < 3 ^ (m - 1 - 0) := Nat.pow_pos (by decide)
    refine l_X3_countUp_2 ⟨⟨by omega, by omega⟩, fun _ => ⟨⟨by omega, by omega⟩, ⟨by omega, by omega⟩, up 0 hv a ei h' F V (fun lt => ?_)⟩, fun q => absurd (Int.le_refl _) q⟩
    have e1 : i + 1 = (a + 1) * 3 ^ (m - 1 - 0) := by rw [Nat.add_mul, Nat.one_mul]; omega
    have e2 : 3 ^ m = 3 * 3 ^ (m - 1 - 0) := by
      obtain ⟨m', rfl⟩ : ∃ m', m = m' + 1 := ⟨m - 1, by omega⟩
      rw [Nat.pow_succ, show m' + 1 - 1 - 0 = m' by omega, Nat.mul_comm]
    rw [e1, e2] at lt
    have := Nat.lt_of_mul_lt_mul_right lt
    omega
  | succ v ih =>
    intro hv a ei h' F V
    have pos : 0 < 3 ^ (m - 1 - (v + 1)) := Nat.pow_pos (by decide)
    have vv : h' 62 ((v + 1 : Nat) : Int) = ((a % 3 : Nat) : Int) := by
      rw [V _ (by omega) (by omega), if_neg (by omega)]
      have := dgt_two (m := m) (a := a) (k := m - 1 - (v + 1)) (r := ((v + 1 : Nat) : Int)) (by omega) (by omega)
      rw [← ei] at this
      exact this
    refine l_X3_countUp_2 ⟨⟨by omega, by omega⟩, fun q => absurd q (by omega), fun _ => ⟨⟨by omega, by omega⟩, by rw [vv]; exact ⟨by omega, by omega⟩, fun q => ⟨⟨by omega, by omega⟩, ⟨by omega, by omega⟩, up (v + 1) hv a ei h' F V (fun _ => by rw [vv] at q; omega)⟩, fun q => ⟨⟨by omega, by omega⟩, fun h13 q13 => ?_⟩⟩⟩
    have F13 : Fr h' h13 [] [62] := by rw [q13]; exact Fr.row
    rw [show ((v + 1 : Nat) : Int) + (-1) = v by omega]
    refine ih (by omega) (a / 3) ?_ h13 ((F.trans F13).into (by decide)) (fun x x0 x1 => ?_)
    · rw [vv] at q
      have e3 : m - 1 - v = m - 1 - (v + 1) + 1 := by omega
      rw [e3, Nat.pow_succ, ei]
      have ea : a = 3 * (a / 3) + 2 := by omega
      obtain ⟨b, hb⟩ : ∃ b, b = a / 3 := ⟨_, rfl⟩
      rw [← hb] at ea ⊢
      rw [ea]
      generalize 3 ^ (m - 1 - (v + 1)) = t at pos ⊢
      have : (3 * b + 2) * t = b * (t * 3) + 2 * t := by rw [Nat.add_mul, Nat.mul_comm t 3, ← Nat.mul_assoc, Nat.mul_comm b 3]
      rw [this]; omega
    · rw [q13, hu_if]
      by_cases d : x = ((v + 1 : Nat) : Int)
      · rw [if_pos d, if_pos (by omega)]
      · rw [if_neg d, V x x0 x1]
        by_cases d2 : ((v + 1 : Nat) : Int) < x
        · rw [if_pos d2, if_pos (by omega)]
        · rw [if_neg d2, if_neg (by omega)]
theorem x_shareLeft (C : CX h0 r lv st g) (A : AX h0 h r 40 lv st g) {t x : Nat} (V : FV h0 st lv g h t 0) (hx : x < t) (ht : t ≤ 8) {o : Int} (ho : inR o) (k : K (shP h0 lv g o x st) h) : C_X0_shareLeft w x o h K := by
  have hn := C.1.nb
  have how := C.1.ow
  have hr := C.rr.1
  refine c_X0_shareLeft ?_
  rw [A.2.1, A.2.2.1]
  refine ⟨ob_40, C.1.ob, x_ownedG C.1 C.2.1 A.1 A.2.2.2.2.2.1 (Or.inl rfl) ⟨by omega, by omega⟩ ho ?_⟩
  suffices ∀ j m : Nat, m + j = nbN h0 → L_X0_shareLeft_17 w x o (ogP h0 g x o + sm m (fun b => if h0 96 (50 + 5 * b + 0) = o then sdP h0 st lv g b x else 0)) m h K by
    have := this (nbN h0) 0 (by omega)
    rw [show ogP h0 g x o + sm 0 (fun b => if h0 96 (50 + 5 * b + 0) = o then sdP h0 st lv g b x else 0) = ogP h0 g x o from Int.add_zero _] at this
    exact this
  intro j
  induction j with
  | zero =>
    intro m em
    obtain rfl : m = nbN h0 := em
    have a := ow_b C (o := o) (x := x)
    have b := og_b C.1 C.2.2.2.2.2 (x := x) (a := o) ⟨by omega, by omega⟩
    have d := lg_b C.1 C.2.2.2.2.2 (x := x) ⟨by omega, by omega⟩
    have si := si_b C x
    have ew : sm (nbN h0) (fun b => if h0 96 (50 + 5 * b + 0) = o then sdP h0 st lv g b x else 0) = owP h0 st lv g o x := rfl
    rw [ew]
    refine l_X0_shareLeft_17 ?_
    rw [A.2.1, A.row C (o := r + 5) (by omega) (by omega), hn.2.2]
    refine ⟨C.1.ob, ⟨by omega, by omega⟩, ⟨by omega, by omega⟩, fun _ => x_leftIn C (Or.inl rfl) A V hx ht ⟨⟨by omega, by omega⟩, fun q => ⟨⟨by omega, by omega⟩, ⟨by omega, by omega⟩, ?_⟩, fun q => ?_⟩, fun q => absurd (Int.le_refl _) q⟩
    · unfold shP at k; rw [if_neg (by omega)] at k; exact k
    · unfold shP at k; rw [if_pos (by omega)] at k; exact k
  | succ j ih =>
    intro m em
    have go := ih (m + 1) (by omega)
    have bk := C.1.bk (b := m) (by omega) (by omega)
    have v := (V.1 x m (by omega) (by omega) (Or.inl hx)).1
    refine l_X0_shareLeft_17 ?_
    rw [A.2.1, A.row C (o := r + 5) (by omega) (by omega), hn.2.2, A.row C (o := r + 8) (by omega) (by omega), bk.1.1, v]
    refine ⟨C.1.ob, ⟨by omega, by omega⟩, ⟨by omega, by omega⟩, fun q => absurd q (by omega), fun _ => ⟨C.1.ob, ⟨by omega, by omega⟩, ⟨by omega, by omega⟩, ho, fun q => ?_, fun q => ⟨⟨by omega, by omega⟩, ?_⟩⟩⟩
    · have e : ogP h0 g x o + sm (m + 1) (fun b => if h0 96 (50 + 5 * b + 0) = o then sdP h0 st lv g b x else 0) = ogP h0 g x o + sm m (fun b => if h0 96 (50 + 5 * b + 0) = o then sdP h0 st lv g b x else 0) + 0 := by
        show _ + (sm m _ + (if h0 96 (50 + 5 * (m : Int) + 0) = o then sdP h0 st lv g m x else 0)) = _
        rw [if_neg q]; exact (Int.add_assoc _ _ _).symm
      rw [e] at go; exact go
    · have e : ogP h0 g x o + sm (m + 1) (fun b => if h0 96 (50 + 5 * b + 0) = o then sdP h0 st lv g b x else 0) = ogP h0 g x o + sm m (fun b => if h0 96 (50 + 5 * b + 0) = o then sdP h0 st lv g b x else 0) + sdP h0 st lv g m x := by
        show _ + (sm m _ + (if h0 96 (50 + 5 * (m : Int) + 0) = o then sdP h0 st lv g m x else 0)) = _
        rw [if_pos (Classical.not_not.mp q)]; exact (Int.add_assoc _ _ _).symm
      rw [e] at go; exact go
abbrev maL : List (Int × Int) := [(52, 4), (66, 2), (61, 5), (61, 6), (61, 7)]
abbrev maR : List Int := [53, 54, 62, 63, 64, 65, 67]
/-- the flood is aimed anew: other stones -/
theorem AX.stones (A : AX h0 h r 40 lv st g) (C : CX h0 r lv st g) {h' : Hp} (F : Fr h h' [] [62]) (e : ∀ x : Int, 0 ≤ x → x < 8 → h' 62 x = st' x) : AX h0 h' r 40 lv st' g := by
  obtain ⟨a1, a2, a3, a4, a5, a6, a7⟩ := A
  have n : ∀ o : Int, o ≠ 62 → h' o = h o := ne_row F
  have S : Sl h h' := Sl.of (by rw [a1.1]; exact C.rr.2) F (by decide)
  exact ⟨a1.tr S, by rw [n 61 (by decide)]; exact a2, by rw [n 61 (by decide)]; exact a3, by rw [n 61 (by decide)]; exact a4, e, a6.fr (Or.inl rfl) F (by decide), a7.fr F (by decide)⟩
theorem x_seekShare (IBh : IB h0) (G : GS h0 g) (hl : 0 ≤ lv ∧ lv ≤ 9) (A : AX h0 h (h0 0 4) 40 lv st g) (C0 : CX h0 (h0 0 4) lv st g) {o due : Int} {x : Nat} (ho : inR o) (hd : inR due) (hx : x < nrN h0) (k : ∀ h1 q, Fr h h1 maL maR → BD h1 → Rs (PS1 h0 lv g o x due) (x + 1) (3 ^ (x + 1)) (h1 66 2) q → (h1 66 2 ≠ -1 → ∀ y : Int, 0 ≤ y → y < 8 → h1 67 y = dgt (x + 1) q y) → K 0 h1) : C_X3_seekShare w o x due h K := by
  have R := IBh.1
  have hn := R.nb
  have hnr := R.nr
  obtain ⟨m, hm⟩ : ∃ m, m = x + 1 := ⟨_, rfl⟩
  rw [← hm] at k
  have pw := pw_b (n := m) (by omega)
  have pi : (0 : Int) ≤ ((3 ^ m : Nat) : Int) ∧ ((3 ^ m : Nat) : Int) ≤ 6561 := ⟨Int.natCast_nonneg _, Int.ofNat_le.mpr pw⟩
  have pl : ∀ b : Int, 0 ≤ b → b < nbN h0 → 0 ≤ plP h0 b := fun b b0 b1 => (R.bk b0 b1).2.2.1.2.1
  have CC : ∀ row, CX h0 (h0 0 4) lv (dgt m row) g := fun row => ⟨R, rfl, IBh.2.2.1, hl, fun x x0 x1 => by have := dgt_b m row x; omega, G⟩
  have vx : (x : Int) = (m : Int) - 1 := by omega
  have vx1 : (x : Int) + 1 = m := by omega
  -- the rows
  have L34 : ∀ j i : Nat, i + j = 3 ^ m → ∀ h' (t q : Nat), Fr h h' maL maR → BD h' → (i < 3 ^ m → AX h0 h' (h0 0 4) 40 lv (dgt m i) g ∧ FV h0 (dgt m i) lv g h' t 0 ∧ t ≤ m) → t ≤ m → Rs (PS1 h0 lv g o x due) m i (h' 66 2) q → (h' 66 2 ≠ -1 → ∀ y : Int, 0 ≤ y → y < 8 → h' 67 y = dgt m q y) → L_X3_seekShare_34 w o x due ((3 ^ m : Nat) : Int) t i h' K := by
    intro j
    induction j with
    | zero =>
      intro i e h' t q F B _ _ RS V
      obtain rfl : i = 3 ^ m := e
      exact l_X3_seekShare_34 ⟨⟨by omega, by omega⟩, ⟨by omega, by omega⟩, fun _ => k h' q F B RS V, fun c => absurd (Int.le_refl _) c⟩
    | succ j ih =>
      intro i e h' t q F B st3 ht RS V
      obtain ⟨A', V', _⟩ := st3 (by omega)
      have db := dsum_b m i
      have bb : -1 ≤ h' 66 2 ∧ h' 66 2 ≤ 16 := by
        rcases RS with ⟨e, _⟩ | ⟨_, _, e, _⟩
        · omega
        · have := dsum_b m q; omega
      -- the next row
      have next : ∀ (t' q' : Nat) (h1 : Hp), t' ≤ m → Fr h h1 maL maR → AX h0 h1 (h0 0 4) 40 lv (dgt m i) g → FV h0 (dgt m i) lv g h1 t' 0 → Rs (PS1 h0 lv g o x due) m (i + 1) (h1 66 2) q' → (h1 66 2 ≠ -1 → ∀ y : Int, 0 ≤ y → y < 8 → h1 67 y = dgt m q' y) → C_X3_countUp w x h1 (fun r19 h20 => (inR (t' : Int)) ∧ ((inR r19) ∧ (L_X3_seekShare_34 w o x due ((3 ^ m : Nat) : Int) (min (t' : Int) r19) ((i : Int) + 1) h20 K))) := by
        intro t' q' h1 ht' F1 A1 V1 RS1 W1
        rw [vx]
        refine x_countUp ⟨by omega, by omega⟩ (by omega) A1.2.2.2.2.1 (fun h20 a F20 ha nx => ⟨⟨by omega, by omega⟩, ⟨by omega, by omega⟩, ?_⟩)
        rw [← vx]
        have n62 : ∀ o : Int, o ≠ 62 → h20 o = h1 o := ne_row F20
        have G20 : Fr h h20 maL maR := (F1.trans F20).into (by decide)
        have em : min (t' : Int) (a : Int) = ((min t' a : Nat) : Int) := by omega
        rw [em]
        refine ih (i + 1) (by omega) h20 (min t' a) q' G20 (A1.2.2.2.2.2.2.fr F20 (by decide)) (fun lt => ?_) (by omega) (by rw [n62 66 (by decide)]; exact RS1) (by rw [n62 66 (by decide), n62 67 (by decide)]; exact W1)
        have nn := nx lt
        refine ⟨A1.stones (CC i) F20 nn.1, FV.cg (st := dgt m i) ((V1.fr F20 (by decide)).le (by omega)) (fun y y0 y1 => (nn.2 y y0 (by omega)).symm) pl, by omega⟩
      -- a flood by these stones
      have test : (h' 66 2 = -1 ∨ dsum m i < h' 66 2) → C_X0_run w t x h' (fun _ h12 => C_X0_shareLeft w x o h12 (fun r14 h15 => (inR r14) ∧ ((inR due) ∧ (((r14 < due) → (C_X3_countUp w x h15 (fun r19 h20 => (inR ((x : Int) + 1)) ∧ ((inR r19) ∧ (L_X3_seekShare_34 w o x due ((3 ^ m : Nat) : Int) (min ((x : Int) + 1) r19) ((i : Int) + 1) h20 K))))) ∧ (¬ (r14 < due) → (C_X3_keepBest w h15 (fun _ h25 => C_X3_countUp w x h25 (fun r27 h28 => (inR ((x : Int) + 1)) ∧ ((inR r27) ∧ (L_X3_seekShare_34 w o x due ((3 ^ m : Nat) : Int) (min ((x : Int) + 1) r27) ((i : Int) + 1) h28 K)))))))))) := by
        intro hbest
        rw [vx1]
        have run := x_run (w := w) (K := fun _ h12 => C_X0_shareLeft w x o h12 (fun r14 h15 => (inR r14) ∧ ((inR due) ∧ (((r14 < due) → (C_X3_countUp w x h15 (fun r19 h20 => (inR (m : Int)) ∧ ((inR r19) ∧ (L_X3_seekShare_34 w o x due ((3 ^ m : Nat) : Int) (min (m : Int) r19) ((i : Int) + 1) h20 K))))) ∧ (¬ (r14 < due) → (C_X3_keepBest w h15 (fun _ h25 => C_X3_countUp w x h25 (fun r27 h28 => (inR (m : Int)) ∧ ((inR r27) ∧ (L_X3_seekShare_34 w o x due ((3 ^ m : Nat) : Int) (min (m : Int) r27) ((i : Int) + 1) h28 K)))))))))) (CC i) (Or.inl rfl) A' (f := t) (t := m) (by omega) ht V' (fun h12 F12 A12 V12 => ?_)
        · rw [← vx] at run; exact run
        · have G12 : Fr h h12 maL maR := (F.trans F12).into (by decide)
          have c66 : h12 66 2 = h' 66 2 := (F12.cell (C := [(66, 2)]) (W := []) (by decide)).1 (66, 2) (by decide)
          have r67 : h12 67 = h' 67 := (F12.cell (C := []) (W := [67]) (by decide)).2 67 (by decide)
          have sb := sh_b (CC i) (o := o) (x := x) (by omega)
          refine x_shareLeft (CC i) A12 V12 (by omega) (by omega) ho ⟨⟨by omega, by omega⟩, hd, fun q1 => ?_, fun q1 => ?_⟩
          · refine next m q h12 (Nat.le_refl _) G12 A12 V12 (by rw [c66]; exact RS.not (fun p => by unfold PS1 at p; omega)) (by rw [c66, r67]; exact V)
          · refine x_keepBest (fun h25 F25 e25 V25 => ?_)
            have s62 : sm 8 (h12 62) = dsum m i := by
              have e1 : sm 8 (h12 62) = sm 8 (dgt m i) := sm_congr fun y y0 y1 => A12.2.2.2.2.1 y y0 y1
              rw [e1]; unfold dsum
              exact sm_more (by omega) (fun y y0 y1 => by unfold dgt; rw [if_neg (by omega)])
            have G25 : Fr h h25 maL maR := (G12.trans F25).into (by decide)
            refine next m i h25 (Nat.le_refl _) G25 (A12.fr (CC i) (Or.inl rfl) F25 (by decide) (by decide) (by decide) (A12.2.2.2.2.2.2.fr F25 (by decide))) (V12.fr F25 (by decide)) ?_ (fun _ y y0 y1 => ?_)
            · rw [e25, s62]
              exact RS.yes (show due ≤ _ by omega) hbest
            · rw [V25 y y0 y1]; exact A12.2.2.2.2.1 y y0 y1
      refine l_X3_seekShare_34 ⟨⟨by omega, by omega⟩, ⟨by omega, by omega⟩, fun c => absurd c (by omega), fun _ => ⟨⟨by omega, by omega⟩, fun c => ?_, fun c => ⟨⟨by omega, by omega⟩, fun c2 => test (Or.inl c2), fun c2 => ?_⟩⟩⟩
      · refine k h' q F B ?_ V
        rw [c] at RS ⊢
        exact RS.zero (by omega)
      · have s62 : sm 8 (h' 62) = dsum m i := by
          have e1 : sm 8 (h' 62) = sm 8 (dgt m i) := sm_congr fun y y0 y1 => A'.2.2.2.2.1 y y0 y1
          rw [e1]; unfold dsum
          exact sm_more (by omega) (fun y y0 y1 => by unfold dgt; rw [if_neg (by omega)])
        refine s_total ar_62 ?_
        rw [s62]
        exact ⟨⟨by omega, by omega⟩, ⟨by omega, by omega⟩, fun c3 => next t q h' ht F A' V' (RS.skip c2 c3) V, fun c3 => test (Or.inr (by omega))⟩
  refine c_X3_seekShare (x_begin (fun h2 F2 e2 V2 => ?_))
  have A2 : AX h0 h2 (h0 0 4) 40 lv (dgt m 0) g := by
    obtain ⟨a1, a2, a3, a4, a5, a6, a7⟩ := A
    have S : Sl h h2 := Sl.of (by rw [a1.1]; exact IBh.1.1) F2 (by decide)
    have z := (F2.cell (C := [(61, 5), (61, 6), (61, 7)]) (W := []) (by decide)).1
    refine ⟨a1.tr S, (z (61, 5) (by decide)).trans a2, (z (61, 6) (by decide)).trans a3, (z (61, 7) (by decide)).trans a4, fun y y0 y1 => ?_, a6.fr (Or.inl rfl) F2 (by decide), a7.fr F2 (by decide)⟩
    rw [V2 y y0 y1]; unfold dgt
    split
    · rw [Nat.zero_div]; rfl
    · rfl
  suffices ∀ j i : Nat, i + j = m → L_X3_seekShare_10 w o x due ((3 ^ i : Nat) : Int) i h2 K from this m 0 (by omega)
  intro j
  induction j with
  | zero =>
    intro i e
    obtain rfl : i = m := e
    refine l_X3_seekShare_10 ⟨⟨by omega, by omega⟩, ⟨by omega, by omega⟩, fun _ => L34 (3 ^ i) 0 (by omega) h2 0 0 (F2.into (by decide)) A2.2.2.2.2.2.2 (fun _ => ⟨A2, ⟨fun x b b0 b1 q => by omega, fun b b0 b1 q => by have := pl b b0 b1; omega⟩, by omega⟩) (by omega) (Or.inl ⟨e2, fun i hi => by omega⟩) (fun c => absurd e2 c), fun c => absurd (by omega) c⟩
  | succ j ih =>
    intro i e
    have := ih (i + 1) (by omega)
    refine l_X3_seekShare_10 ⟨⟨by omega, by omega⟩, ⟨by omega, by omega⟩, fun c => absurd c (by omega), fun _ => ?_⟩
    rw [Nat.pow_succ, Int.natCast_mul] at this
    exact this
end L2m
