/-! the pair of on: an image is read -/
section L2i
variable {w : Wd} {c : Int} {h h0 : Hp} {K : Int → Hp → Prop} {g : Int → Int}
def twP (h : Hp) (k : Int) : Int := 256 * h 69 k + h 69 (k + 1)
def eaP (h : Hp) : Nat := 1 + 2 * nbN h
def frP (h : Hp) : Nat := 2 + eaP h * nrN h
def atP (h : Hp) (x : Int) : Int := (eaP h * x.toNat : Nat)
def stO (h : Hp) (x : Int) : Int := if x < nrN h then h 69 (2 + atP h x) else 0
def lyO (h : Hp) (x b : Int) : Int := if x < nrN h ∧ b < nbN h then twP h (3 + atP h x + 2 * b) else 0
def hdO (h : Hp) (b : Int) : Int := if b < nbN h then h 69 (frP h + 3 * b) else 0
def sgO (h : Hp) (b : Int) : Int := if b < nbN h then twP h (frP h + 3 * b + 1) else 0
def onP (h : Hp) (i : Int) : Int := if i = 0 then twP h 0 else if i < 9 then stO h (i - 1) else if i < 19 then hdO h (i - 9) else if i < 29 then sgO h (i - 19) else lyO h ((i - 29) / 10) ((i - 29) % 10)
def lyS (h : Hp) : Int := sm 8 (fun x => sm 10 (fun b => lyO h x b))
def suO (h : Hp) : Int := lyS h + sm 10 (fun b => hdO h b) + sm 10 (fun b => sgO h b)
def okO (h : Hp) : Prop := 0 < nrN h ∧ h 68 1 = ((frP h + 3 * nbN h + 1 : Nat) : Int) ∧ ckF (h 69) (frP h + 3 * nbN h) = h 69 ((frP h + 3 * nbN h : Nat) : Int) ∧ twP h 0 ≤ 999 ∧ (∀ x : Int, 0 ≤ x → x < 8 → stO h x ≤ 3) ∧ suO h = tAll h
theorem on_0 : onP h 0 = twP h 0 := rfl
theorem on_st {x : Int} (hx : 0 ≤ x ∧ x < 8) : onP h (1 + x) = stO h x := by
  unfold onP
  rw [if_neg (by omega), if_pos (by omega), show 1 + x - 1 = x by omega]
theorem on_h {b : Int} (hb : 0 ≤ b ∧ b < 10) : onP h (9 + b) = hdO h b := by
  unfold onP
  rw [if_neg (by omega), if_neg (by omega), if_pos (by omega), show 9 + b - 9 = b by omega]
theorem on_s {b : Int} (hb : 0 ≤ b ∧ b < 10) : onP h (19 + b) = sgO h b := by
  unfold onP
  rw [if_neg (by omega), if_neg (by omega), if_neg (by omega), if_pos (by omega), show 19 + b - 19 = b by omega]
theorem on_l {x b : Int} (hx : 0 ≤ x ∧ x < 8) (hb : 0 ≤ b ∧ b < 10) : onP h (29 + 10 * x + b) = lyO h x b := by
  unfold onP
  rw [if_neg (by omega), if_neg (by omega), if_neg (by omega), if_neg (by omega), show (29 + 10 * x + b - 29) / 10 = x by omega, show (29 + 10 * x + b - 29) % 10 = b by omega]
/-- the places of a reach lie ahead of the banks' -/
theorem at_b {x : Int} (h0 : 0 ≤ x) (h1 : x < nrN h) : 0 ≤ atP h x ∧ atP h x + eaP h ≤ (eaP h * nrN h : Nat) ∧ atP h (x + 1) = atP h x + eaP h := by
  unfold atP
  have := mul_up (a := eaP h) (n := x.toNat) (m := nrN h) (by omega)
  have e : (x + 1).toNat = x.toNat + 1 := by omega
  rw [e, Nat.mul_add]
  omega
/-- what the tape of such a length tells -/
theorem on_b (I : I1 h) (hL : h 68 1 = ((frP h + 3 * nbN h + 1 : Nat) : Int)) (hn : 0 < nrN h) : (0 ≤ twP h 0 ∧ twP h 0 ≤ 65535) ∧ (∀ x : Int, 0 ≤ x → 0 ≤ stO h x ∧ stO h x ≤ 255) ∧ (∀ x b : Int, 0 ≤ x → 0 ≤ b → 0 ≤ lyO h x b ∧ lyO h x b ≤ 65535) ∧ (∀ b : Int, 0 ≤ b → 0 ≤ hdO h b ∧ hdO h b ≤ 255 ∧ 0 ≤ sgO h b ∧ sgO h b ≤ 65535) := by
  have f : frP h = 2 + eaP h * nrN h := rfl
  have e : eaP h = 1 + 2 * nbN h := rfl
  have mm := mul_up (a := eaP h) (n := 0) (m := nrN h) hn
  have B : ∀ k : Int, 0 ≤ k → k < ((frP h + 3 * nbN h + 1 : Nat) : Int) → 0 ≤ h 69 k ∧ h 69 k ≤ 255 := fun k k0 k1 => tape_b I ⟨k0, by omega⟩
  have T : ∀ k : Int, 0 ≤ k → k + 1 < ((frP h + 3 * nbN h + 1 : Nat) : Int) → 0 ≤ twP h k ∧ twP h k ≤ 65535 := fun k k0 k1 => by
    have b1 := B k k0 (by omega)
    have b2 := B (k + 1) (by omega) (by omega)
    unfold twP
    omega
  refine ⟨T 0 (by omega) (by omega), fun x x0 => ?_, fun x b x0 b0 => ?_, fun b b0 => ?_⟩
  · unfold stO
    split
    · have := at_b (h := h) x0 (by omega)
      exact B _ (by omega) (by omega)
    · omega
  · unfold lyO
    split
    · have := at_b (h := h) x0 (by omega)
      exact T _ (by omega) (by omega)
    · omega
  · unfold hdO sgO
    split
    · have b1 := B (frP h + 3 * b) (by omega) (by omega)
      have b2 := T (frP h + 3 * b + 1) (by omega) (by omega)
      omega
    · omega
theorem gs_on {r : Int} (R : RR h r) (I : I1 h) (o : okO h) : GS h (onP h) := by
  obtain ⟨o1, o2, o3, o4, o5, o6⟩ := o
  have B := on_b I o2 o1
  have nb := R.nb
  have nr := R.nr
  refine ⟨⟨B.1.1, o4⟩, fun x x0 x1 => ?_, fun b b0 b1 => ?_, fun x b x0 x1 b0 b1 => ?_, ?_⟩
  · rw [on_st ⟨x0, x1⟩]
    refine ⟨(B.2.1 x x0).1, o5 x x0 x1, fun q => ?_⟩
    unfold stO
    rw [if_neg (by omega)]
  · rw [on_h ⟨b0, b1⟩, on_s ⟨b0, b1⟩]
    have q := B.2.2.2 b b0
    refine ⟨q.1, q.2.1, q.2.2.1, fun q => ?_⟩
    unfold hdO sgO
    rw [if_neg (by omega), if_neg (by omega)]
    exact ⟨rfl, rfl⟩
  · rw [on_l ⟨x0, x1⟩ ⟨b0, b1⟩]
    refine ⟨(B.2.2.1 x b x0 b0).1, fun q => ?_⟩
    unfold lyO
    rw [if_neg (by omega)]
  · rw [← o6]
    unfold suO lyS
    rw [sm_congr (n := 8) (f := fun r => sm 10 (fun b => onP h (29 + 10 * r + b))) (g := fun x => sm 10 (fun b => lyO h x b)) (fun x x0 x1 => sm_congr fun b b0 b1 => on_l ⟨x0, x1⟩ ⟨b0, b1⟩), sm_congr (n := 10) (f := fun b => onP h (9 + b)) (g := fun b => hdO h b) (fun b b0 b1 => on_h ⟨b0, b1⟩), sm_congr (n := 10) (f := fun b => onP h (19 + b)) (g := fun b => sgO h b) (fun b b0 b1 => on_s ⟨b0, b1⟩)]
abbrev trL : List (Int × Int) := [(45, 4)]
abbrev trR : List Int := [46, 47, 48, 49]
theorem x_clear45 {r : Int} (hr : r = 6 ∨ r = 23) (k : ∀ h1, Fr h h1 trL trR → (∀ x : Int, 0 ≤ x → x < 8 → h1 46 x = 0) → (∀ i : Int, 0 ≤ i → i < 80 → h1 47 i = 0) → (∀ b : Int, 0 ≤ b → b < 10 → h1 48 b = h (r + 11) b ∧ h1 49 b = 0) → K 0 h1) : C_X9_clear w 45 r h K := by
  have ob : Ob 7 r := by rcases hr with rfl | rfl <;> exact ⟨by decide, rfl⟩
  have a2 : (45 : Int) + 1 = 46 ∧ (45 : Int) + 2 = 47 ∧ (45 : Int) + 3 = 48 ∧ (45 : Int) + 4 = 49 := by decide
  have L55 : ∀ j n : Nat, n + j = 10 → ∀ h', Fr h h' trL trR → (∀ x : Int, 0 ≤ x → x < 8 → h' 46 x = 0) → (∀ i : Int, 0 ≤ i → i < 80 → h' 47 i = 0) → (∀ b : Int, 0 ≤ b → b < n → h' 48 b = h (r + 11) b ∧ h' 49 b = 0) → L_X9_clear_55 w 45 r n h' K := by
    intro j
    induction j with
    | zero =>
      intro n e h' F V1 V2 V3
      obtain rfl : n = 10 := e
      exact l_X9_clear_55 ob_45 ob ⟨⟨by omega, by omega⟩, fun _ => k h' F V1 V2 V3, fun q => absurd (by omega) q⟩
    | succ j ih =>
      intro n e h' F V1 V2 V3
      refine l_X9_clear_55 ob_45 ob ?_
      rw [a2.2.2.1, a2.2.2.2]
      refine ⟨⟨by omega, by omega⟩, fun q => absurd q (by omega), fun _ => ⟨⟨by omega, by omega⟩, ⟨by omega, by omega⟩, fun h16 q16 => ⟨⟨by omega, by omega⟩, fun h19 q19 => ?_⟩⟩⟩
      have F16 : Fr h' h16 [] [48] := by rw [q16]; exact Fr.row
      have F19 : Fr h16 h19 [] [49] := by rw [q19]; exact Fr.row
      have FF := F16.trans F19
      have z := FF.cell (C := []) (W := [46, 47]) (by decide)
      refine ih (n + 1) (by omega) h19 ((F.trans FF).into (by decide)) (by rw [z.2 46 (by decide)]; exact V1) (by rw [z.2 47 (by decide)]; exact V2) (fun b b0 b1 => ?_)
      rw [hu_row q19 (show (48 : Int) ≠ 49 by decide), q19, hu_if, q16, hu_if, hu_ne (show (49 : Int) ≠ 48 by decide)]
      have t : h' (r + 11) = h (r + 11) := by
        rcases hr with rfl | rfl
        · exact (F.cell (C := []) (W := [6 + 11]) (by decide)).2 (6 + 11) (by decide)
        · exact (F.cell (C := []) (W := [23 + 11]) (by decide)).2 (23 + 11) (by decide)
      by_cases d : b = n
      · rw [if_pos d, if_pos d, d, t]; exact ⟨rfl, rfl⟩
      · rw [if_neg d, if_neg d]; exact V3 b b0 (by omega)
  have L31 : ∀ j n : Nat, n + j = 80 → ∀ h', Fr h h' trL trR → (∀ x : Int, 0 ≤ x → x < 8 → h' 46 x = 0) → (∀ i : Int, 0 ≤ i → i < n → h' 47 i = 0) → L_X9_clear_31 w 45 r n h' K := by
    intro j
    induction j with
    | zero =>
      intro n e h' F V1 V2
      obtain rfl : n = 80 := e
      exact l_X9_clear_31 ob_45 ob ⟨⟨by omega, by omega⟩, fun _ => L55 10 0 (by omega) h' F V1 V2 (fun b b0 b1 => by omega), fun q => absurd (by omega) q⟩
    | succ j ih =>
      intro n e h' F V1 V2
      refine l_X9_clear_31 ob_45 ob ?_
      rw [a2.2.1]
      refine ⟨⟨by omega, by omega⟩, fun q => absurd q (by omega), fun _ => ⟨⟨by omega, by omega⟩, fun h10 q10 => ?_⟩⟩
      have F10 : Fr h' h10 [] [47] := by rw [q10]; exact Fr.row
      refine ih (n + 1) (by omega) h10 ((F.trans F10).into (by decide)) (by rw [ne_row F10 46 (by decide)]; exact V1) (fun i i0 i1 => ?_)
      rw [q10, hu_if]
      by_cases d : i = n
      · rw [if_pos d]
      · rw [if_neg d]; exact V2 i i0 (by omega)
  refine c_X9_clear ob_45 ob (fun h1 q1 => ?_)
  have F1 : Fr h h1 [(45, 4)] [] := by rw [q1]; exact Fr.cel
  suffices ∀ j n : Nat, n + j = 8 → ∀ h', Fr h h' trL trR → (∀ x : Int, 0 ≤ x → x < n → h' 46 x = 0) → L_X9_clear_7 w 45 r n h' K from this 8 0 (by omega) h1 (F1.into (by decide)) (fun x x0 x1 => by omega)
  intro j
  induction j with
  | zero =>
    intro n e h' F V1
    obtain rfl : n = 8 := e
    exact l_X9_clear_7 ob_45 ob ⟨⟨by omega, by omega⟩, fun _ => L31 80 0 (by omega) h' F V1 (fun b b0 b1 => by omega), fun q => absurd (by omega) q⟩
  | succ j ih =>
    intro n e h' F V1
    refine l_X9_clear_7 ob_45 ob ?_
    rw [a2.1]
    refine ⟨⟨by omega, by omega⟩, fun q => absurd q (by omega), fun _ => ⟨⟨by omega, by omega⟩, fun h5 q5 => ?_⟩⟩
    have F5 : Fr h' h5 [] [46] := by rw [q5]; exact Fr.row
    refine ih (n + 1) (by omega) h5 ((F.trans F5).into (by decide)) (fun i i0 i1 => ?_)
    rw [q5, hu_if]
    by_cases d : i = n
    · rw [if_pos d]
    · rw [if_neg d]; exact V1 i i0 (by omega)
/-- a byte that is there -/
theorem x_byte1 (I : I1 h) {a : Int} (ha : 0 ≤ a ∧ a < h 68 1) (k : K (h 69 a) h) : C_X10_byteAt w a h K := by
  obtain ⟨e, b1, b2, V⟩ := I
  have v1 := V a (by omega) (by omega)
  rw [v1.1] at k
  exact x_byteAt ⟨by omega, by omega⟩ e ⟨by omega, by omega⟩ (fun _ => k) (fun q => by omega)
theorem x_readTrial (I : Inv c h) (hL : h 68 1 = ((frP h + 3 * nbN h + 1 : Nat) : Int)) (hn : 0 < nrN h) (k : ∀ h1, Fr h h1 trL trR → SX h1 45 (onP h) → K 0 h1) : C_X11_readTrial w (nbN h) h K := by
  have R := I.2.1.1
  have nr := R.nr
  have nb := R.nb
  have f : frP h = 2 + eaP h * nrN h := rfl
  have ee : eaP h = 1 + 2 * nbN h := rfl
  have mm := mul_up (a := eaP h) (n := 0) (m := nrN h) hn
  have rowF : ∀ {h'}, Fr h h' trL trR → I1 h' ∧ h' 69 = h 69 ∧ h' 68 1 = h 68 1 ∧ h' 0 4 = h 0 4 ∧ h' (h 0 4) 12 = nrN h := fun {h'} F => by
    have S := Sl.of I.2.1.rr F (by decide)
    exact ⟨I.1.1.fr F (by decide), (F.cell (C := []) (W := [69]) (by decide)).2 69 (by decide), (F.cell (C := [(68, 1)]) (W := []) (by decide)).1 (68, 1) (by decide), S.1, by rw [S.2.2.2.1 _ (by omega) (by omega)]; exact nr.2.2.1⟩
  refine c_X11_readTrial ⟨R.ob, x_clear45 R.1 (fun h3 F3 Z1 Z2 Z3 => ?_)⟩
  obtain ⟨j1, j2, j3, j4, j5⟩ := rowF F3
  refine x_twoAt j1 ⟨by omega, by omega⟩ (fun h8 q8 => ?_)
  rw [j2] at q8
  have F8 : Fr h3 h8 [(45, 4)] [] := by rw [q8]; exact Fr.cel
  -- behind the reaches
  have L109 : ∀ j n : Nat, n + j = nbN h → ∀ h', Fr h h' trL trR → h' 45 4 = twP h 0 → (∀ x : Int, 0 ≤ x → x < 8 → h' 46 x = stO h x) → (∀ x b : Int, 0 ≤ x → x < 8 → 0 ≤ b → b < 10 → h' 47 (x * 10 + b) = lyO h x b) → (∀ b : Int, 0 ≤ b → b < 10 → (b < n ∨ nbN h ≤ b → h' 48 b = hdO h b ∧ h' 49 b = sgO h b)) → ∀ a : Int, a = frP h + 3 * n → L_X11_readTrial_109 w (nbN h) a n h' K := by
    intro j
    induction j with
    | zero =>
      intro n e h' F y V1 V2 V3 a ea
      obtain rfl : n = nbN h := e
      refine l_X11_readTrial_109 ⟨⟨by omega, by omega⟩, ⟨by omega, by omega⟩, fun _ => k h' F ⟨y, fun x x0 x1 => ?_, fun b b0 b1 => ?_, fun x b x0 x1 b0 b1 => ?_⟩, fun q => absurd (Int.le_refl _) q⟩
      · rw [on_st ⟨x0, x1⟩]; exact V1 x x0 x1
      · rw [on_h ⟨b0, b1⟩, on_s ⟨b0, b1⟩]; exact V3 b b0 b1 (by omega)
      · rw [on_l ⟨x0, x1⟩ ⟨b0, b1⟩]; exact V2 x b x0 x1 b0 b1
    | succ j ih =>
      intro n e h' F y V1 V2 V3 a ea
      subst ea
      obtain ⟨j1, j2, j3, j4, j5⟩ := rowF F
      refine l_X11_readTrial_109 ⟨⟨by omega, by omega⟩, ⟨by omega, by omega⟩, fun q => absurd q (by omega), fun _ => x_byte1 j1 ⟨by omega, by omega⟩ ⟨⟨by omega, by omega⟩, fun h35 q35 => ?_⟩⟩
      have F35 : Fr h' h35 [] [48] := by rw [q35]; exact Fr.row
      obtain ⟨i1, i2, i3, i4, i5⟩ := rowF ((F.trans F35).into (by decide))
      refine x_twoAt i1 ⟨by omega, by omega⟩ ⟨⟨by omega, by omega⟩, fun h41 q41 => ?_⟩
      rw [i2] at q41
      rw [j2] at q35
      have F41 : Fr h35 h41 [] [49] := by rw [q41]; exact Fr.row
      have FF := F35.trans F41
      have z := FF.cell (C := [(45, 4)]) (W := [46, 47]) (by decide)
      have z45 := z.1 (45, 4) (by decide)
      dsimp only at z45
      refine ih (n + 1) (by omega) h41 ((F.trans FF).into (by decide)) (by rw [z45]; exact y) (by rw [z.2 46 (by decide)]; exact V1) (by rw [z.2 47 (by decide)]; exact V2) (fun b b0 b1 q => ?_) _ (by omega)
      rw [hu_row q41 (show (48 : Int) ≠ 49 by decide), q41, hu_if, hu_row q35 (show (49 : Int) ≠ 48 by decide), q35, hu_if]
      by_cases d : b = n
      · rw [if_pos d, if_pos d, d]
        unfold hdO sgO
        rw [if_pos (by omega), if_pos (by omega)]
        exact ⟨rfl, rfl⟩
      · rw [if_neg d, if_neg d]; exact V3 b b0 b1 (by omega)
  have L30 : ∀ j n : Nat, n + j = nrN h → ∀ h', Fr h h' trL trR → h' 45 4 = twP h 0 → (∀ x : Int, 0 ≤ x → x < 8 → (x < n ∨ nrN h ≤ x → h' 46 x = stO h x)) → (∀ x b : Int, 0 ≤ x → x < 8 → 0 ≤ b → b < 10 → (x < n ∨ nrN h ≤ x ∨ nbN h ≤ b → h' 47 (x * 10 + b) = lyO h x b)) → (∀ b : Int, 0 ≤ b → b < 10 → (nbN h ≤ b → h' 48 b = hdO h b ∧ h' 49 b = sgO h b)) → ∀ a : Int, a = 2 + atP h n → L_X11_readTrial_30 w (nbN h) a n h' K := by
    intro j
    induction j with
    | zero =>
      intro n e h' F y V1 V2 V3 a ea
      obtain rfl : n = nrN h := e
      obtain ⟨j1, j2, j3, j4, j5⟩ := rowF F
      refine l_X11_readTrial_30 ?_
      rw [j4, j5]
      refine ⟨R.ob, ⟨by omega, by omega⟩, ⟨by omega, by omega⟩, fun _ => L109 (nbN h) 0 (by omega) h' F y (fun x x0 x1 => V1 x x0 x1 (by omega)) (fun x b x0 x1 b0 b1 => V2 x b x0 x1 b0 b1 (by omega)) (fun b b0 b1 q => V3 b b0 b1 (by omega)) a ?_, fun q => absurd (Int.le_refl _) q⟩
      rw [ea, f]
      unfold atP
      rw [Int.toNat_natCast]
      omega
    | succ j ih =>
      intro n e h' F y V1 V2 V3 a ea
      subst ea
      have ab := at_b (h := h) (x := n) (by omega) (by omega)
      obtain ⟨j1, j2, j3, j4, j5⟩ := rowF F
      refine l_X11_readTrial_30 ?_
      rw [j4, j5]
      refine ⟨R.ob, ⟨by omega, by omega⟩, ⟨by omega, by omega⟩, fun q => absurd q (by omega), fun _ => x_byte1 j1 ⟨by omega, by omega⟩ ⟨⟨by omega, by omega⟩, fun h17 q17 => ?_⟩⟩
      rw [j2] at q17
      have F17 : Fr h' h17 [] [46] := by rw [q17]; exact Fr.row
      have n46 : ∀ o : Int, o ≠ 46 → h17 o = h' o := ne_row F17
      suffices ∀ i m : Nat, m + i = nbN h → ∀ h', Fr h h' trL trR → h' 45 4 = twP h 0 → (∀ x : Int, 0 ≤ x → x < 8 → (x < n + 1 ∨ nrN h ≤ x → h' 46 x = stO h x)) → (∀ x b : Int, 0 ≤ x → x < 8 → 0 ≤ b → b < 10 → (x < n ∨ nrN h ≤ x ∨ nbN h ≤ b ∨ (x = n ∧ b < m) → h' 47 (x * 10 + b) = lyO h x b)) → (∀ b : Int, 0 ≤ b → b < 10 → (nbN h ≤ b → h' 48 b = hdO h b ∧ h' 49 b = sgO h b)) → ∀ a : Int, a = 3 + atP h n + 2 * m → L_X11_readTrial_64 w (nbN h) a n m h' K by
        refine this (nbN h) 0 (by omega) h17 ((F.trans F17).into (by decide)) (by rw [n46 45 (by decide)]; exact y) (fun x x0 x1 q => ?_) (by rw [n46 47 (by decide)]; exact fun x b x0 x1 b0 b1 q => V2 x b x0 x1 b0 b1 (by omega)) (by rw [n46 48 (by decide), n46 49 (by decide)]; exact V3) _ (by omega)
        rw [q17, hu_if]
        by_cases d : x = n
        · rw [if_pos d, d]; unfold stO; rw [if_pos (by omega)]
        · rw [if_neg d]; exact V1 x x0 x1 (by omega)
      intro i
      induction i with
      | zero =>
        intro m em h' F y V1 V2 V3 a ea
        obtain rfl : m = nbN h := em
        refine l_X11_readTrial_64 ⟨⟨by omega, by omega⟩, ⟨by omega, by omega⟩, fun _ => ih (n + 1) (by omega) h' F y (fun x x0 x1 q => V1 x x0 x1 (by omega)) (fun x b x0 x1 b0 b1 q => V2 x b x0 x1 b0 b1 (by omega)) V3 a ?_, fun q => absurd (Int.le_refl _) q⟩
        have := ab.2.2
        rw [ea, show ((n + 1 : Nat) : Int) = (n : Int) + 1 by omega, this, ee]; omega
      | succ i ihi =>
        intro m em h' F y V1 V2 V3 a ea
        subst ea
        obtain ⟨j1, j2, j3, j4, j5⟩ := rowF F
        refine l_X11_readTrial_64 ⟨⟨by omega, by omega⟩, ⟨by omega, by omega⟩, fun q => absurd q (by omega), fun _ => x_twoAt j1 ⟨by omega, by omega⟩ ⟨⟨by omega, by omega⟩, fun h26 q26 => ?_⟩⟩
        rw [j2] at q26
        have F26 : Fr h' h26 [] [47] := by rw [q26]; exact Fr.row
        have n47 : ∀ o : Int, o ≠ 47 → h26 o = h' o := ne_row F26
        refine ihi (m + 1) (by omega) h26 ((F.trans F26).into (by decide)) (by rw [n47 45 (by decide)]; exact y) (by rw [n47 46 (by decide)]; exact V1) (fun x b x0 x1 b0 b1 q => ?_) (by rw [n47 48 (by decide), n47 49 (by decide)]; exact V3) _ (by omega)
        rw [q26, hu_if]
        by_cases d : x * 10 + b = (n : Int) * 10 + m
        · have ex : x = n := by omega
          have eb : b = m := by omega
          subst ex; subst eb
          rw [if_pos rfl]; unfold lyO; rw [if_pos (by omega)]; rfl
        · rw [if_neg d]; exact V2 x b x0 x1 b0 b1 (by omega)
  have n45 := F8.cell (C := []) (W := [46, 47, 48, 49]) (by decide)
  refine L30 (nrN h) 0 (by omega) h8 ((F3.trans F8).into (by decide)) (by rw [q8, hu_if, if_pos rfl]; rfl) (fun x x0 x1 q => ?_) (fun x b x0 x1 b0 b1 q => ?_) (fun b b0 b1 q => ?_) 2 ?_
  · rw [n45.2 46 (by decide), Z1 x x0 x1]; unfold stO; rw [if_neg (by omega)]
  · rw [n45.2 47 (by decide), Z2 _ (by omega) (by omega)]; unfold lyO; rw [if_neg (by omega)]
  · rw [n45.2 48 (by decide), n45.2 49 (by decide), (Z3 b b0 b1).1, (Z3 b b0 b1).2]
    unfold hdO sgO
    rw [if_neg (by omega), if_neg (by omega)]
    exact ⟨R.2.2.2.2.2.2.2.1 b (by omega) b1, rfl⟩
  · unfold atP; rfl
end L2i
