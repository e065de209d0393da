/-! pairs: find, levels, forged, feed -/
section L2f
variable {w : Wd} {c : Int} {h h0 : Hp} {K : Int → Hp → Prop} {g : Int → Int}
theorem x_byteAt {a L : Int} (ha : inR a) (hL : h 1 1 = L) (hb : 0 ≤ L ∧ L ≤ 1600) (k1 : 0 ≤ a ∧ a < L → K (h 2 a % 256) h) (k0 : ¬ (0 ≤ a ∧ a < L) → K (-1) h) : C_X10_byteAt w a h K := by
  refine c_X10_byteAt ?_
  rw [hL]
  exact ⟨ha, fun _ => k0 (by omega), fun _ => ⟨ha, ⟨by omega, by omega⟩, fun _ => k0 (by omega), fun _ => ⟨ha, fun _ => ⟨⟨by omega, by omega⟩, k1 (by omega)⟩, fun _ => k0 (by omega)⟩⟩⟩
theorem x_twoAt (I : I1 h) {a : Int} (ha : 0 ≤ a ∧ a + 1 < h 68 1) (k : K (256 * h 69 a + h 69 (a + 1)) h) : C_X10_twoAt w a h K := by
  obtain ⟨e, b1, b2, V⟩ := I
  have v1 := V a (by omega) (by omega)
  have v2 := V (a + 1) (by omega) (by omega)
  rw [v1.1, v2.1] at k
  exact c_X10_twoAt (x_byteAt ⟨by omega, by omega⟩ e ⟨by omega, by omega⟩ (fun _ => x_byteAt ⟨by omega, by omega⟩ e ⟨by omega, by omega⟩ (fun _ => k) (fun q => by omega)) (fun q => by omega))
theorem tape_b (I : I1 h) {a : Int} (ha : 0 ≤ a ∧ a < h 68 1) : 0 ≤ h 69 a ∧ h 69 a ≤ 255 := by
  have := I.2.2.2 a ha.1 ha.2
  omega
/-- the tape goes, something is found or not: all else stays -/
theorem Inv.tape {h2 : Hp} {L : List (Int × Int)} {R : List Int} (I : Inv c h) (F : Fr h h2 L R) (k2 : okF L R [] [59, 70] = true) (k3 : okF L R [(0, 18), (0, 19), (68, 7), (68, 8)] [] = true) (k4 : okF L R [(0, 17), (68, 63)] [] = true) (k6 : okF L R [(0, 16), (68, 97)] [58, 136] = true) (s : okS L R = true) (c1 : okF L R [] [104] = true) (c2 : okF L R [(40, 4), (45, 4)] [41, 42, 43, 44, 46, 47, 48, 49] = true) (c3 : okF L R [(50, 1), (50, 2), (68, 61), (68, 62)] [51, 112] = true) (J1 : I1 h2) (J5 : I5 h2) (B : BD h2) : Inv (c + 1) h2 := by
  have S : Sl h h2 := Sl.of I.2.1.rr F s
  exact ⟨⟨J1, (I.1.2.1.fr F k2).up (by omega), I.1.2.2.1.fr F k3, I.1.2.2.2.1.fr F k4, J5, I.1.2.2.2.2.2.fr F k6⟩, I.2.1.sl S, I.2.2.fr S F c1 c2 c3 B⟩
theorem I1.nil {h2 : Hp} (e1 : h2 1 1 = 0) (e2 : h2 68 1 = 0) : I1 h2 := ⟨by rw [e1, e2], by omega, by omega, fun k k0 k1 => by omega⟩
abbrev fiL : List (Int × Int) := [(0, 15), (1, 1), (68, 1), (68, 67)]
abbrev fiR : List Int := [57, 115]
theorem q_find (I : Inv c h) : C_X11_find w h (fun z h1 => (z = 0 ∨ z = 1) → C_X12_find w h1 (PI c z)) := by
  have R := I.2.1.1
  have nr := R.nr
  obtain ⟨t1, t2, t3, t4⟩ := id I.1.1
  obtain ⟨f1, f2, f3⟩ := id I.1.2.2.2.2.1
  have nn := nr.2.2.2
  by_cases ok : 0 < nrN h ∧ h 68 1 = 2 * nrN h
  · -- it is told
    refine c_X11_find ?_
    rw [nr.2.2.1, t1]
    refine ⟨R.ob, ⟨by omega, by omega⟩, fun q => absurd q (by omega), fun _ => ⟨R.ob, ⟨by omega, by omega⟩, ⟨by omega, by omega⟩, fun q => absurd ok.2 q, fun _ => ?_⟩⟩
    have fin : ∀ h', Fr h h' [] [57] → (∀ x : Int, 0 ≤ x → x < nrN h → h' 57 x = 256 * h 69 (2 * x) + h 69 (2 * x + 1)) → ∀ h21 : Hp, h21 = hu h' 0 15 1 → ∀ h23 : Hp, h23 = hu h21 1 1 0 → ((1 : Int) = 0 ∨ (1 : Int) = 1) ∧ (((1 : Int) = 0 ∨ (1 : Int) = 1) → C_X12_find w h23 (PI c 1)) := by
      intro h' F' V' h21 q21 h23 q23
      refine ⟨Or.inr rfl, fun _ => c_X12_find (fun h1 q1 => ?_)⟩
      have F21 : Fr h' h21 [(0, 15)] [] := by rw [q21]; exact Fr.cel
      have F23 : Fr h21 h23 [(1, 1)] [] := by rw [q23]; exact Fr.cel
      have F1 : Fr h23 h1 [(68, 1)] [] := by rw [q1]; exact Fr.cel
      have FX := F'.trans (F21.trans F23)
      have FA := FX.trans F1
      have SA : Sl h h1 := Sl.of I.2.1.rr FA (by decide)
      have s36 : h1 68 36 = nrN h := by rw [SA.2.2.1]; exact nr.1
      have l23 : h23 68 1 = h 68 1 := (FX.cell (C := [(68, 1)]) (W := []) (by decide)).1 (68, 1) (by decide)
      rw [s36, l23]
      refine ⟨⟨by omega, by omega⟩, fun q => absurd q (by omega), fun _ => ⟨⟨by omega, by omega⟩, ⟨by omega, by omega⟩, fun _ => ?_, fun q => absurd ok.2 q⟩⟩
      suffices ∀ j n : Nat, n + j = nrN h → ∀ h', Fr h1 h' [] [115] → (∀ x : Int, 0 ≤ x → x < n → h' 115 x = 256 * h 69 (2 * x) + h 69 (2 * x + 1)) → L_X12_find_31 w n h' (PI c 1) from this (nrN h) 0 (by omega) h1 (Fr.into Fr.refl (by decide)) (fun x x0 x1 => by omega)
      intro j
      induction j with
      | zero =>
        intro n e hh FF VV
        obtain rfl : n = nrN h := e
        have s36 : hh 68 36 = nrN h := by rw [ne_row FF 68 (by decide)]; exact s36
        refine l_X12_find_31 ?_
        rw [s36]
        refine ⟨⟨by omega, by omega⟩, ⟨by omega, by omega⟩, fun _ => fun h2 q2 => ⟨rfl, ?_⟩, fun q => absurd (Int.le_refl _) q⟩
        have F2 : Fr hh h2 [(68, 67)] [] := by rw [q2]; exact Fr.cel
        have F0 := F'.trans (F21.trans (F23.trans (F1.trans (FF.trans F2))))
        have G : Fr h h2 fiL fiR := F0.into (by decide)
        have cc := (F2.cell (C := [(1, 1), (68, 1), (0, 15)]) (W := [57, 115]) (by decide))
        have d1 := cc.1 (1, 1) (by decide); have d2 := cc.1 (68, 1) (by decide); have d3 := cc.1 (0, 15) (by decide)
        dsimp only at d1 d2 d3
        have S2 : Sl h h2 := Sl.of I.2.1.rr G (by decide)
        refine I.tape G (by decide) (by decide) (by decide) (by decide) (by decide) (by decide) (by decide) (by decide) (I1.nil ?_ ?_) ⟨?_, ?_, fun _ r r0 r1 => ?_⟩ (I.2.2.2.2.2.fr G (by decide))
        · rw [d1, ne_row FF 1 (by decide), hu_row q1 (by decide), q23, hu_if, if_pos rfl]
        · rw [d2, ne_row FF 68 (by decide), q1, hu_if, if_pos rfl]
        · rw [d3, ne_row FF 0 (by decide), hu_row q1 (by decide), hu_row q23 (by decide), q21, hu_if, if_pos rfl, q2, hu_if, if_pos rfl]
        · rw [q2, hu_if, if_pos rfl]; exact Or.inr rfl
        · rw [S2.2.2.1, nr.1] at r1
          rw [cc.2 57 (by decide), cc.2 115 (by decide), VV r r0 r1, ne_row FF 57 (by decide), hu_row q1 (by decide), hu_row q23 (by decide), hu_row q21 (by decide), V' r r0 r1]
          have u1 := tape_b I.1.1 (a := 2 * r) ⟨by omega, by omega⟩
          have u2 := tape_b I.1.1 (a := 2 * r + 1) ⟨by omega, by omega⟩
          exact ⟨rfl, by omega, by omega⟩
      | succ j ih =>
        intro n e hh FF VV
        have s36 : hh 68 36 = nrN h := by rw [ne_row FF 68 (by decide)]; exact s36
        refine l_X12_find_31 ?_
        rw [s36]
        refine ⟨⟨by omega, by omega⟩, ⟨by omega, by omega⟩, fun q => absurd q (by omega), fun _ => ⟨⟨by omega, by omega⟩, ⟨by omega, by omega⟩, ⟨by omega, by omega⟩, fun h15 q15 => ?_⟩⟩
        have F15 : Fr hh h15 [] [115] := by rw [q15]; exact Fr.row
        refine ih (n + 1) (by omega) h15 ((FF.trans F15).into (by decide)) (fun x x0 x1 => ?_)
        rw [q15, hu_if]
        by_cases d : x = n
        · rw [if_pos d, d, ne_row FF 69 (by decide), (FA.cell (C := []) (W := [69]) (by decide)).2 69 (by decide)]
        · rw [if_neg d]; exact VV x x0 (by omega)
    suffices ∀ j n : Nat, n + j = nrN h → ∀ h', Fr h h' [] [57] → (∀ x : Int, 0 ≤ x → x < n → h' 57 x = 256 * h 69 (2 * x) + h 69 (2 * x + 1)) → L_X11_find_37 w 1 n h' (fun z h1 => (z = 0 ∨ z = 1) → C_X12_find w h1 (PI c z)) from this (nrN h) 0 (by omega) h (Fr.into Fr.refl (by decide)) (fun x x0 x1 => by omega)
    intro j
    induction j with
    | zero =>
      intro n e h' F' V'
      obtain rfl : n = nrN h := e
      have S' : Sl h h' := Sl.of I.2.1.rr F' (by decide)
      have e4 : h' 0 4 = h 0 4 := S'.1
      have e12 : h' (h 0 4) 12 = nrN h := by rw [S'.2.2.2.1 _ (by omega) (by omega)]; exact nr.2.2.1
      have e15 : h' 0 15 = h 0 15 := by rw [ne_row F' 0 (by decide)]
      refine l_X11_find_37 ?_
      rw [e4, e12, e15]
      exact ⟨⟨by omega, by omega⟩, fun q => absurd q (by decide), fun _ => ⟨R.ob, ⟨by omega, by omega⟩, ⟨by omega, by omega⟩, fun _ => ⟨⟨by omega, by omega⟩, fun _ => fin h' F' V', fun _ => ⟨⟨by omega, by omega⟩, fun q => absurd q (by decide), fun _ => fin h' F' V'⟩⟩, fun q => absurd (Int.le_refl _) q⟩⟩
    | succ j ih =>
      intro n e h' F' V'
      have S' : Sl h h' := Sl.of I.2.1.rr F' (by decide)
      have e4 : h' 0 4 = h 0 4 := S'.1
      have e12 : h' (h 0 4) 12 = nrN h := by rw [S'.2.2.2.1 _ (by omega) (by omega)]; exact nr.2.2.1
      have J1 : I1 h' := I.1.1.fr F' (by decide)
      refine l_X11_find_37 ?_
      rw [e4, e12]
      refine ⟨⟨by omega, by omega⟩, fun q => absurd q (by decide), fun _ => ⟨R.ob, ⟨by omega, by omega⟩, ⟨by omega, by omega⟩, fun q => absurd q (by omega), fun _ => x_twoAt J1 ⟨by omega, by rw [ne_row F' 68 (by decide)]; omega⟩ ⟨⟨by omega, by omega⟩, fun h54 q54 => ?_⟩⟩⟩
      have F54 : Fr h' h54 [] [57] := by rw [q54]; exact Fr.row
      refine ih (n + 1) (by omega) h54 ((F'.trans F54).into (by decide)) (fun x x0 x1 => ?_)
      rw [q54, hu_if]
      by_cases d : x = n
      · rw [if_pos d, d, ne_row F' 69 (by decide)]
      · rw [if_neg d]; exact V' x x0 (by omega)
  · -- it is none such
    have no : L_X11_find_37 w 0 0 h (fun z h1 => (z = 0 ∨ z = 1) → C_X12_find w h1 (PI c z)) := by
      have fin : ∀ h10 : Hp, h10 = hu h 0 15 (h 0 15) → ∀ h12 : Hp, h12 = hu h10 1 1 0 → ((0 : Int) = 0 ∨ (0 : Int) = 1) ∧ (((0 : Int) = 0 ∨ (0 : Int) = 1) → C_X12_find w h12 (PI c 0)) := by
        intro h10 q10 h12 q12
        refine ⟨Or.inl rfl, fun _ => c_X12_find (fun h1 q1 => ?_)⟩
        have F10 : Fr h h10 [(0, 15)] [] := by rw [q10]; exact Fr.cel
        have F12 : Fr h10 h12 [(1, 1)] [] := by rw [q12]; exact Fr.cel
        have F1 : Fr h12 h1 [(68, 1)] [] := by rw [q1]; exact Fr.cel
        have G : Fr h h1 fiL fiR := (F10.trans (F12.trans F1)).into (by decide)
        have F3 := F10.trans (F12.trans F1)
        have s36 : h1 68 36 = nrN h := by rw [(Sl.of I.2.1.rr G (by decide)).2.2.1]; exact nr.1
        have l12 : h12 68 1 = h 68 1 := ((F10.trans F12).cell (C := [(68, 1)]) (W := []) (by decide)).1 (68, 1) (by decide)
        have cc := F3.cell (C := [(68, 36), (68, 67)]) (W := [57, 115]) (by decide)
        have d1 := cc.1 (68, 36) (by decide); have d2 := cc.1 (68, 67) (by decide)
        dsimp only at d1 d2
        have d3 : h1 0 15 = h 0 15 := by rw [hu_row q1 (by decide), hu_row q12 (by decide), q10, hu_if, if_pos rfl]
        have done : PI c 0 0 h1 := by
          refine ⟨rfl, I.tape G (by decide) (by decide) (by decide) (by decide) (by decide) (by decide) (by decide) (by decide) (I1.nil ?_ ?_) ?_ (I.2.2.2.2.2.fr G (by decide))⟩
          · rw [hu_row q1 (by decide), q12, hu_if, if_pos rfl]
          · rw [q1, hu_if, if_pos rfl]
          · have I5' := I.1.2.2.2.2.1
            unfold I5 at I5' ⊢
            rw [d1, d2, d3, cc.2 57 (by decide), cc.2 115 (by decide)]
            exact I5'
        rw [s36, l12]
        exact ⟨⟨by omega, by omega⟩, fun _ => done, fun _ => ⟨⟨by omega, by omega⟩, ⟨by omega, by omega⟩, fun q => absurd ⟨by omega, q⟩ ok, fun _ => done⟩⟩
      refine l_X11_find_37 ⟨⟨by omega, by omega⟩, fun _ => ⟨⟨by omega, by omega⟩, fun q => ?_, fun q => ⟨⟨by omega, by omega⟩, fun _ => ?_, fun q => absurd rfl q⟩⟩, fun q => absurd rfl q⟩
      · rw [show h 0 15 = 1 by omega] at fin; exact fin
      · rw [show h 0 15 = 0 by omega] at fin; exact fin
    refine c_X11_find ?_
    rw [nr.2.2.1, t1]
    exact ⟨R.ob, ⟨by omega, by omega⟩, fun _ => no, fun _ => ⟨R.ob, ⟨by omega, by omega⟩, ⟨by omega, by omega⟩, fun _ => no, fun q => absurd ⟨by omega, Classical.not_not.mp q⟩ ok⟩⟩
/-! levels -/
def asP (h : Hp) (lv : Int) : Prop := ∀ x : Nat, x < nrN h → lgP h (h 104) x + siP h (sN (h 104)) lv (h 104) x = h 115 x
noncomputable def lsP (h : Hp) : Nat → Int
  | 0 => 0
  | n + 1 => @ite Int (asP h n) (Classical.propDecidable _) (iorI (lsP h n) (1 * 2 ^ (Int.toNat (n : Int)))) (lsP h n)
theorem ls_y {n : Nat} (q : asP h n) : lsP h (n + 1) = iorI (lsP h n) (1 * 2 ^ (Int.toNat (n : Int))) := if_pos q
theorem ls_n {n : Nat} (q : ¬ asP h n) : lsP h (n + 1) = lsP h n := if_neg q
theorem iorI_R {x y : Int} : inR (iorI x y) := by
  have h1 := Int32.toInt_lt (Int32.ofInt x ||| Int32.ofInt y)
  have h2 := Int32.le_toInt (Int32.ofInt x ||| Int32.ofInt y)
  unfold iorI
  exact ⟨by omega, by omega⟩
theorem ls_R (n : Nat) : inR (lsP h n) := by
  cases n with
  | zero => exact ⟨by show -2147483648 ≤ (0 : Int); omega, by show (0 : Int) < _; omega⟩
  | succ n =>
    by_cases q : asP h n
    · rw [ls_y q]; exact iorI_R
    · rw [ls_n q]
      exact ls_R n
theorem q_levels (I : Inv c h) : C_X11_levels w h (fun z h1 => inR z ∧ C_X12_levels w h1 (PI c z)) := by
  have R := I.2.1.1
  have nr := R.nr
  obtain ⟨f1, f2, f3⟩ := id I.1.2.2.2.2.1
  by_cases e1 : h 68 67 = 1
  · have V := f3 e1
    refine c_X11_levels ?_
    rw [f1, e1]
    refine ⟨⟨by omega, by omega⟩, fun _ => ?_, fun q => absurd (by decide) q⟩
    -- the reference
    have yl : ∀ h1, Fr h h1 imL imR → BD h1 → C_X12_levels w h1 (PI c (lsP h 10)) := by
      intro h1 F1 B1
      have e67 : h1 68 67 = 1 := by rw [← e1]; exact (F1.cell (C := [(68, 67)]) (W := []) (by decide)).1 (68, 67) (by decide)
      refine c_X12_levels ?_
      rw [e67]
      refine ⟨⟨by omega, by omega⟩, fun _ => ?_, fun q => absurd (by decide) q⟩
      suffices ∀ j n : Nat, n + j = 10 → ∀ h', Fr h1 h' [(68, 50)] (105 :: yfR) → L_X12_levels_13 w (lsP h n) n h' (PI c (lsP h 10)) from this 10 0 (by omega) h1 (Fr.into Fr.refl (by decide))
      intro j
      induction j with
      | zero =>
        intro n e h' F'
        obtain rfl : n = 10 := e
        exact l_X12_levels_13 ⟨⟨by omega, by omega⟩, fun _ => ⟨rfl, fin_look I F1 B1 F'⟩, fun q => absurd (by omega) q⟩
      | succ j ih =>
        intro n e h' F'
        have C := I.cx (lv := n) ⟨by omega, by omega⟩
        have S' : Sl h h' := Sl.of I.2.1.rr (F1.trans F') (by decide)
        have e104 : h' 104 = h 104 := ((F1.trans F').cell (C := []) (W := [104]) (by decide)).2 104 (by decide)
        refine l_X12_levels_13 ⟨⟨by omega, by omega⟩, fun q => absurd q (by omega), fun _ => y_wouldBe C S' (fun i _ _ => by rw [e104]) (fun h5 F5 A5 V5 => c_X12_isAsFound ?_)⟩
        have r115 : h5 115 = h 115 := ((F1.trans (F'.trans F5)).cell (C := []) (W := [115]) (by decide)).2 115 (by decide)
        have s36 : h5 68 36 = nrN h := by rw [A5.1.2.2.1]; exact nr.1
        have go := ih (n + 1) (by omega) h5 ((F'.trans F5).into (by decide))
        suffices ∀ j m : Nat, m + j = nrN h → (∀ x : Nat, x < m → lgP h (h 104) x + siP h (sN (h 104)) n (h 104) x = h 115 x) → L_X12_isAsFound_2 w m h5 (fun r7 h8 => (r7 = 0 ∨ r7 = 1) → ((r7 = 0) → (L_X12_levels_13 w (lsP h n) ((n : Int) + 1) h8 (PI c (lsP h 10)))) ∧ (¬ (r7 = 0) → ((0 ≤ (n : Int) ∧ (n : Int) < 32) ∧ (L_X12_levels_13 w (iorI (lsP h n) (1 * 2 ^ (Int.toNat (n : Int)))) ((n : Int) + 1) h8 (PI c (lsP h 10)))))) from this (nrN h) 0 (by omega) (fun x x1 => by omega)
        intro j
        induction j with
        | zero =>
          intro m em A
          obtain rfl : m = nrN h := em
          refine l_X12_isAsFound_2 ?_
          rw [s36]
          exact ⟨⟨by omega, by omega⟩, ⟨by omega, by omega⟩, fun _ _ => ⟨fun q => absurd q (by decide), fun _ => ⟨⟨by omega, by omega⟩, by rw [← ls_y (show asP h n from A)]; exact go⟩⟩, fun q => absurd (Int.le_refl _) q⟩
        | succ j ihj =>
          intro m em A
          have l := lg_b R I.2.2.1 (x := m) ⟨by omega, by omega⟩
          have s := si_b C m
          have v := V m (by omega) (by omega)
          refine l_X12_isAsFound_2 ?_
          rw [s36]
          refine ⟨⟨by omega, by omega⟩, ⟨by omega, by omega⟩, fun q => absurd q (by omega), fun _ => y_wouldLie C A5.1 A5.2.2 V5 (x := m) (by omega) ⟨⟨by omega, by omega⟩, ⟨by omega, by omega⟩, ?_⟩⟩
          rw [r115]
          refine ⟨⟨by omega, by omega⟩, fun q => ihj (m + 1) (by omega) (fun x x1 => ?_), fun q _ => ⟨fun _ => ?_, fun q => absurd rfl q⟩⟩
          · by_cases d : x = m
            · subst d; exact q
            · exact A x (by omega)
          · rw [← ls_n (show ¬ asP h n from fun A => q (A m (by omega)))]; exact go
    suffices ∀ j n : Nat, n + j = 10 → ∀ h', Fr h h' imL imR → BD h' → L_X11_levels_13 w (lsP h n) n h' (fun z h1 => inR z ∧ C_X12_levels w h1 (PI c z)) from this 10 0 (by omega) h (Fr.into Fr.refl (by decide)) I.2.2.2.2.2
    intro j
    induction j with
    | zero =>
      intro n e h' F' B'
      obtain rfl : n = 10 := e
      exact l_X11_levels_13 ⟨⟨by omega, by omega⟩, fun _ => ⟨ls_R 10, yl h' F' B'⟩, fun q => absurd (by omega) q⟩
    | succ j ih =>
      intro n e h' F' B'
      have C := I.cx (lv := n) ⟨by omega, by omega⟩
      have S' : Sl h h' := Sl.of I.2.1.rr F' (by decide)
      refine l_X11_levels_13 ⟨⟨by omega, by omega⟩, fun q => absurd q (by omega), fun _ => x_imagine C S' (I.2.2.2.1.fr (Or.inl rfl) F' (by decide)) B' (fun h5 F5 A5 V5 => c_X11_isAsFound ?_)⟩
      have r57 : h5 57 = h 57 := ((F'.trans F5).cell (C := []) (W := [57]) (by decide)).2 57 (by decide)
      have e4 : h5 0 4 = h 0 4 := A5.1.1
      have e12 : h5 (h 0 4) 12 = nrN h := by rw [A5.row C (o := h 0 4) (by omega) (by omega)]; exact nr.2.2.1
      have go := ih (n + 1) (by omega) h5 ((F'.trans F5).into (by decide)) A5.2.2.2.2.2.2
      suffices ∀ j m : Nat, m + j = nrN h → (∀ x : Nat, x < m → lgP h (h 104) x + siP h (sN (h 104)) n (h 104) x = h 115 x) → L_X11_isAsFound_2 w m h5 (fun r7 h8 => (r7 = 0 ∨ r7 = 1) → ((r7 = 0) → (L_X11_levels_13 w (lsP h n) ((n : Int) + 1) h8 (fun z h1 => inR z ∧ C_X12_levels w h1 (PI c z)))) ∧ (¬ (r7 = 0) → ((0 ≤ (n : Int) ∧ (n : Int) < 32) ∧ (L_X11_levels_13 w (iorI (lsP h n) (1 * 2 ^ (Int.toNat (n : Int)))) ((n : Int) + 1) h8 (fun z h1 => inR z ∧ C_X12_levels w h1 (PI c z)))))) from this (nrN h) 0 (by omega) (fun x x1 => by omega)
      intro j
      induction j with
      | zero =>
        intro m em A
        obtain rfl : m = nrN h := em
        refine l_X11_isAsFound_2 ?_
        rw [e4, e12]
        exact ⟨R.ob, ⟨by omega, by omega⟩, ⟨by omega, by omega⟩, fun _ _ => ⟨fun q => absurd q (by decide), fun _ => ⟨⟨by omega, by omega⟩, by rw [← ls_y (show asP h n from A)]; exact go⟩⟩, fun q => absurd (Int.le_refl _) q⟩
      | succ j ihj =>
        intro m em A
        have l := lg_b R I.2.2.1 (x := m) ⟨by omega, by omega⟩
        have s := si_b C m
        have v := V m (by omega) (by omega)
        refine l_X11_isAsFound_2 ?_
        rw [e4, e12]
        refine ⟨R.ob, ⟨by omega, by omega⟩, ⟨by omega, by omega⟩, fun q => absurd q (by omega), fun _ => x_leftIn C (Or.inl rfl) A5 V5 (x := m) (by omega) nr.2.1 ⟨⟨by omega, by omega⟩, ⟨by omega, by omega⟩, ?_⟩⟩
        rw [r57, v.1]
        refine ⟨⟨by omega, by omega⟩, fun q => ihj (m + 1) (by omega) (fun x x1 => ?_), fun q _ => ⟨fun _ => ?_, fun q => absurd rfl q⟩⟩
        · by_cases d : x = m
          · subst d; exact q
          · exact A x (by omega)
        · rw [← ls_n (show ¬ asP h n from fun A => q (A m (by omega)))]; exact go
  · have e0 : h 68 67 = 0 := by omega
    refine c_X11_levels ?_
    rw [f1, e0]
    refine ⟨⟨by omega, by omega⟩, fun q => absurd rfl q, fun _ => ⟨⟨by decide, by decide⟩, c_X12_levels ?_⟩⟩
    rw [e0]
    exact ⟨⟨by omega, by omega⟩, fun q => absurd rfl q, fun _ => ⟨rfl, I.up (by omega)⟩⟩
/-! forged -/
def fgP (h : Hp) (x : Int) (n : Nat) : Int := sm n (fun c => max 0 (256 * h 69 (2 * c) + h 69 (2 * c + 1) - cA h x c))
theorem q_forged (I : Inv c h) {a : Int} (ha : inR a) : C_X11_forged w a h (fun z h1 => inR z ∧ C_X12_forged w a h1 (PI c z)) := by
  have R := I.2.1.1
  have Q := I.q0
  have nr := R.nr
  have nc := R.co
  obtain ⟨t1, t2, t3, t4⟩ := id I.1.1
  -- the end on both sides
  have fin : ∀ h1 : Hp, h1 = hu h 1 1 0 → ∀ h2 : Hp, h2 = hu h1 68 1 0 → Inv (c + 1) h2 := fun h1 q1 h2 q2 => by
    have F1 : Fr h h1 [(1, 1)] [] := by rw [q1]; exact Fr.cel
    have F2 : Fr h1 h2 [(68, 1)] [] := by rw [q2]; exact Fr.cel
    have F3 := F1.trans F2
    exact I.tape F3 (by decide) (by decide) (by decide) (by decide) (by decide) (by decide) (by decide) (by decide) (I1.nil (by rw [hu_row q2 (by decide), q1, hu_if, if_pos rfl]) (by rw [q2, hu_if, if_pos rfl])) (I.1.2.2.2.2.1.fr F3 (by decide)) (I.2.2.2.2.2.fr F3 (by decide))
  have yf : ∀ z h1, h1 = hu h 1 1 0 → (¬ ((0 ≤ a ∧ a < nrN h) ∧ h 68 1 = 2 * h 93 4) → z = -1) → ((0 ≤ a ∧ a < nrN h) ∧ h 68 1 = 2 * h 93 4 → z = fgP h a (h 93 4).toNat) → C_X12_forged w a h1 (PI c z) := fun z h1 q1 z0 z1 => by
    refine c_X12_forged (fun h2 q2 => ?_)
    have ii := fin h1 q1 h2 q2
    have F1 : Fr h h1 [(1, 1)] [] := by rw [q1]; exact Fr.cel
    have F2 : Fr h1 h2 [(68, 1)] [] := by rw [q2]; exact Fr.cel
    have F3 := F1.trans F2
    have S2 : Sl h h2 := Sl.of I.2.1.rr F3 (by decide)
    have s36 : h2 68 36 = nrN h := by rw [S2.2.2.1]; exact nr.1
    have s4 : h2 93 4 = h 93 4 := S2.2.2.2.2.1 4 (by omega)
    have l1 : h1 68 1 = h 68 1 := (F1.cell (C := [(68, 1)]) (W := []) (by decide)).1 (68, 1) (by decide)
    have r69 : h2 69 = h 69 := (F3.cell (C := []) (W := [69]) (by decide)).2 69 (by decide)
    have r104 : h2 104 = h 104 := (F3.cell (C := []) (W := [104]) (by decide)).2 104 (by decide)
    rw [s36, s4, l1]
    refine ⟨ha, ⟨by omega, by omega⟩, ⟨by omega, by omega⟩, fun _ => ⟨(z0 (by omega)).symm, ii⟩, fun _ => ⟨⟨by omega, by omega⟩, ⟨by omega, by omega⟩, fun _ => ⟨(z0 (by omega)).symm, ii⟩, fun _ => ⟨⟨by omega, by omega⟩, ⟨by omega, by omega⟩, fun q => ?_, fun _ => ⟨(z0 (by omega)).symm, ii⟩⟩⟩⟩
    have ez := z1 ⟨⟨by omega, by omega⟩, q⟩
    suffices ∀ j n : Nat, (n : Int) + j = h 93 4 → L_X12_forged_35 w a (fgP h a n) n h2 (PI c z) from this (h 93 4).toNat 0 (by omega)
    intro j
    induction j with
    | zero =>
      intro n e
      obtain rfl : n = (h 93 4).toNat := by omega
      refine l_X12_forged_35 ?_
      rw [s4]
      exact ⟨⟨by omega, by omega⟩, ⟨by omega, by omega⟩, fun _ => ⟨ez.symm, ii⟩, fun q => absurd (by omega) q⟩
    | succ j ih =>
      intro n e
      have go := ih (n + 1) (by omega)
      have u1 := tape_b I.1.1 (a := 2 * n) ⟨by omega, by omega⟩
      have u2 := tape_b I.1.1 (a := 2 * n + 1) ⟨by omega, by omega⟩
      have cb := cA_b Q.1 Q.2.1 (x := a) (a := n) ⟨by omega, by omega⟩
      have lb := lA_b2 Q (x := a) ⟨by omega, by omega⟩
      have ec : cA h2 a n = cA h a n := by
        unfold cA nbN
        rw [S2.2.2.2.2.1 5 (by omega), r104]
        refine sm_congr fun b b0 b1 => ?_
        rw [S2.2.2.2.2.2.2.2.1 (50 + 5 * b + 1) (by omega)]
      have R2 : RR h2 (h 0 4) := R.st S2 rfl
      refine l_X12_forged_35 ?_
      rw [s4, r69]
      refine ⟨⟨by omega, by omega⟩, ⟨by omega, by omega⟩, fun q => absurd q (by omega), fun _ => ⟨⟨by omega, by omega⟩, ⟨by omega, by omega⟩, y_tintOf R2 ⟨by omega, by omega⟩ ⟨by omega, by omega⟩ ?_⟩⟩
      rw [ec]
      refine ⟨⟨by omega, by omega⟩, fun q => ?_, fun q => ?_⟩
      · have : fgP h a (n + 1) = fgP h a n := by
          show fgP h a n + max 0 (256 * h 69 (2 * (n : Int)) + h 69 (2 * (n : Int) + 1) - cA h a n) = _
          omega
        rw [this] at go; exact go
      · have : fgP h a (n + 1) = fgP h a n + (256 * h 69 (2 * (n : Int)) + h 69 (2 * (n : Int) + 1) - cA h a n) := by
          show fgP h a n + max 0 (256 * h 69 (2 * (n : Int)) + h 69 (2 * (n : Int) + 1) - cA h a n) = _
          omega
        rw [this] at go; exact go
  have no : ¬ ((0 ≤ a ∧ a < nrN h) ∧ h 68 1 = 2 * h 93 4) → ∀ h5 : Hp, h5 = hu h 1 1 0 → inR (-1) ∧ C_X12_forged w a h5 (PI c (-1)) := fun q h5 e => ⟨⟨by decide, by decide⟩, yf (-1) h5 e (fun _ => rfl) (fun q2 => absurd q2 q)⟩
  refine c_X11_forged ⟨R.ob, x_hasReach R ha (fun g _ => ⟨fun c => absurd c (by decide), fun _ => ?_⟩) (fun g _ => ⟨fun _ => no (fun q => g q.1), fun c => absurd rfl c⟩)⟩
  rw [t1, nc.1]
  refine ⟨R.ob, ⟨by omega, by omega⟩, ⟨by omega, by omega⟩, fun q => no (fun q2 => q q2.2), fun q => c_X11_toldAbove ?_⟩
  have q := Classical.not_not.mp q
  have lb := lA_b2 Q (x := a) ⟨g.1, by omega⟩
  have fb : ∀ n : Nat, (n : Int) ≤ h 93 4 → 0 ≤ fgP h a n ∧ fgP h a n ≤ n * 65535 := fun n hn => sm_le_c (fun i i0 i1 => by
    have u1 := tape_b I.1.1 (a := 2 * i) ⟨by omega, by omega⟩
    have u2 := tape_b I.1.1 (a := 2 * i + 1) ⟨by omega, by omega⟩
    have cb := cA_b Q.1 Q.2.1 (x := a) (a := i) ⟨g.1, by omega⟩
    omega)
  suffices ∀ j n : Nat, (n : Int) + j = h 93 4 → L_X11_toldAbove_4 w a (fgP h a n) n h (fun r12 h13 => ∀ h15 : Hp, h15 = hu h13 1 1 0 → inR r12 ∧ C_X12_forged w a h15 (PI c r12)) from this (h 93 4).toNat 0 (by omega)
  intro j
  induction j with
  | zero =>
    intro n e
    obtain rfl : n = (h 93 4).toNat := by omega
    have b := fb (h 93 4).toNat (by omega)
    refine l_X11_toldAbove_4 ?_
    rw [nc.1]
    exact ⟨R.ob, ⟨by omega, by omega⟩, ⟨by omega, by omega⟩, fun _ h15 q15 => ⟨⟨by omega, by omega⟩, yf _ h15 q15 (fun q2 => absurd ⟨g, q⟩ q2) (fun _ => rfl)⟩, fun q => absurd (by omega) q⟩
  | succ j ih =>
    intro n e
    have go := ih (n + 1) (by omega)
    have u1 := tape_b I.1.1 (a := 2 * n) ⟨by omega, by omega⟩
    have u2 := tape_b I.1.1 (a := 2 * n + 1) ⟨by omega, by omega⟩
    have cb := cA_b Q.1 Q.2.1 (x := a) (a := n) ⟨g.1, by omega⟩
    refine l_X11_toldAbove_4 ?_
    rw [nc.1]
    exact ⟨R.ob, ⟨by omega, by omega⟩, ⟨by omega, by omega⟩, fun q => absurd q (by omega), fun _ => x_twoAt I.1.1 ⟨by omega, by omega⟩ ⟨R.ob, x_coloured Q.1 Q.2.1 Q.2.2 ob_40 ⟨g.1, by omega⟩ ⟨by omega, by omega⟩ ⟨⟨by omega, by omega⟩, go⟩⟩⟩
end L2f
