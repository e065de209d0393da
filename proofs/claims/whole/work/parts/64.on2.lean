/-! the pair of on: whether it is one; the state that it tells -/
section L2j
variable {w : Wd} {c : Int} {h h0 : Hp} {K : Int → Hp → Prop} {g : Int → Int}
theorem x_isChecked (I : I1 h) {n : Nat} (hL : h 68 1 = ((n + 1 : Nat) : Int)) (k1 : ckF (h 69) n = h 69 n → K 1 h) (k0 : ¬ ckF (h 69) n = h 69 n → K 0 h) : C_X11_isChecked w h K := by
  have e1 : h 1 1 = ((n + 1 : Nat) : Int) := by rw [I.1, hL]
  have b := fun (k : Nat) (hk : k < n + 1) => tape_b I (a := k) ⟨by omega, by omega⟩
  refine c_X11_isChecked ?_
  suffices ∀ j k : Nat, k + j = n → L_X11_isChecked_6 w (ckF (h 69) k) k h K from this n 0 (by omega)
  intro j
  induction j with
  | zero =>
    intro k e
    obtain rfl : k = n := e
    have cb := ckF_b (f := h 69) (n := k) (fun i hi => b i (by omega))
    have tb := b k (by omega)
    have i2 := I.2.2.1
    refine l_X11_isChecked_6 ?_
    rw [e1, show ((k + 1 : Nat) : Int) - 1 = k by omega]
    exact ⟨⟨by omega, by omega⟩, ⟨by omega, by omega⟩, fun _ => x_byte1 I ⟨by omega, by omega⟩ ⟨⟨by omega, by omega⟩, ⟨by omega, by omega⟩, fun q => k0 q, fun q => k1 (Classical.not_not.mp q)⟩, fun q => absurd (Int.le_refl _) q⟩
  | succ j ih =>
    intro k e
    have cb := ckF_b (f := h 69) (n := k) (fun i hi => b i (by omega))
    have tb := b k (by omega)
    have i2 := I.2.2.1
    refine l_X11_isChecked_6 ?_
    rw [e1, show ((n + 1 : Nat) : Int) - 1 = n by omega]
    exact ⟨⟨by omega, by omega⟩, ⟨by omega, by omega⟩, fun q => absurd q (by omega), fun _ => x_byte1 I ⟨by omega, by omega⟩ ⟨⟨by omega, by omega⟩, ih (k + 1) (by omega)⟩⟩
theorem told_sum (IBh : IB h) : sm 10 (h (h 0 4 + 11)) = tAll h := by
  have R := IBh.1
  have nb := R.nb
  unfold tAll
  refine sm_congr fun b b0 b1 => ?_
  by_cases q : b < h 93 5
  · rw [if_pos q]; exact (R.bk b0 (by omega)).2.2.2.1.1
  · rw [if_neg q]; exact R.2.2.2.2.2.2.2.1 b (by omega) b1
theorem sx_sums {s : Int} (X : SX h s g) : sm 80 (h (s + 2)) = sm 8 (fun x => sm 10 (fun b => g (29 + 10 * x + b))) ∧ sm 10 (h (s + 3)) = sm 10 (fun b => g (9 + b)) ∧ sm 10 (h (s + 4)) = sm 10 (fun b => g (19 + b)) := by
  refine ⟨?_, sm_congr fun b b0 b1 => (X.2.2.1 b b0 b1).1, sm_congr fun b b0 b1 => (X.2.2.1 b b0 b1).2⟩
  rw [show (80 : Nat) = 10 * 8 from rfl, sm_rows]
  refine sm_congr fun x x0 x1 => sm_congr fun b b0 b1 => ?_
  rw [← X.2.2.2 x b x0 x1 b0 b1, show 10 * x + b = x * 10 + b by omega]
theorem on_sums : sm 8 (fun x => sm 10 (fun b => onP h (29 + 10 * x + b))) = lyS h ∧ sm 10 (fun b => onP h (9 + b)) = sm 10 (fun b => hdO h b) ∧ sm 10 (fun b => onP h (19 + b)) = sm 10 (fun b => sgO h b) := ⟨sm_congr fun x x0 x1 => sm_congr fun b b0 b1 => on_l ⟨x0, x1⟩ ⟨b0, b1⟩, sm_congr fun b b0 b1 => on_h ⟨b0, b1⟩, sm_congr fun b b0 b1 => on_s ⟨b0, b1⟩⟩
theorem sum_b (I : I1 h) (hL : h 68 1 = ((frP h + 3 * nbN h + 1 : Nat) : Int)) (hn : 0 < nrN h) : 0 ≤ lyS h ∧ lyS h ≤ 5242800 ∧ 0 ≤ sm 10 (fun b => hdO h b) ∧ sm 10 (fun b => hdO h b) ≤ 2550 ∧ 0 ≤ sm 10 (fun b => sgO h b) ∧ sm 10 (fun b => sgO h b) ≤ 655350 := by
  have B := on_b I hL hn
  have a1 := sm_le_c (n := 8) (f := fun x => sm 10 (fun b => lyO h x b)) (c := 655350) (fun x x0 x1 => by
    have := sm_le_c (n := 10) (f := fun b => lyO h x b) (c := 65535) (fun b b0 b1 => B.2.2.1 x b x0 b0)
    omega)
  have a2 := sm_le_c (n := 10) (f := fun b => hdO h b) (c := 255) (fun b b0 b1 => ⟨(B.2.2.2 b b0).1, (B.2.2.2 b b0).2.1⟩)
  have a3 := sm_le_c (n := 10) (f := fun b => sgO h b) (c := 65535) (fun b b0 b1 => ⟨(B.2.2.2 b b0).2.2.1, (B.2.2.2 b b0).2.2.2⟩)
  have : lyS h = sm 8 (fun x => sm 10 (fun b => lyO h x b)) := rfl
  omega
/-- the class: whether the tape is an image; what it tells stands in the trial -/
theorem x_isImage (I : Inv c h) (k1 : okO h → ∀ h1, Fr h h1 trL trR → SX h1 45 (onP h) → K 1 h1) (k0 : ¬ okO h → ∀ h1, Fr h h1 trL trR → K 0 h1) : C_X11_isImage w h K := by
  have R := I.2.1.1
  have nr := R.nr
  have nb := R.nb
  have t := I.1.1
  have room := im_room nb.2.1 nr.2.1
  have f : frP h = 2 + (1 + 2 * nbN h) * nrN h := rfl
  have el : (((2 + ((nrN h : Int) * (1 + (2 * (nbN h : Int))))) + (3 * (nbN h : Int))) + 1) = ((frP h + 3 * nbN h + 1 : Nat) : Int) := by
    have : ((1 + 2 * nbN h) * nrN h : Nat) = (nrN h : Int) * (1 + 2 * (nbN h : Int)) := by rw [Int.natCast_mul, Int.mul_comm]; simp
    omega
  refine c_X11_isImage ?_
  rw [nr.2.2.1, nb.2.2, el, t.1]
  have t2 := t.2.1
  have t3 := t.2.2.1
  refine ⟨R.ob, R.ob, R.ob, ⟨by omega, by omega⟩, fun q => k0 (fun o => by have := o.1; omega) h (Fr.into Fr.refl (by decide)), fun q => ⟨⟨by omega, by omega⟩, ⟨by omega, by omega⟩, fun q2 => k0 (fun o => q2 o.2.1) h (Fr.into Fr.refl (by decide)), fun q2 => ?_⟩⟩
  have hL := Classical.not_not.mp q2
  have hn : 0 < nrN h := by omega
  refine x_isChecked t (n := frP h + 3 * nbN h) hL (fun ck _ => ⟨fun _ => x_readTrial I hL hn (fun h11 F X => ?_), fun q => absurd (by decide) q⟩) (fun ck _ => ⟨fun q => absurd rfl q, fun _ => k0 (fun o => ck o.2.2.1) h (Fr.into Fr.refl (by decide))⟩)
  have S := Sl.of I.2.1.rr F (by decide)
  have s12 : h11 (h 0 4) 12 = nrN h := by rw [S.2.2.2.1 _ (by omega) (by omega)]; exact nr.2.2.1
  have B := on_b t hL hn
  have sb := sum_b t hL hn
  suffices ∀ j n : Nat, n + j = nrN h → (∀ x : Int, 0 ≤ x → x < n → stO h x ≤ 3) → L_X11_isImage_70 w n h11 K from this (nrN h) 0 (by omega) (fun x x0 x1 => by omega)
  intro j
  induction j with
  | zero =>
    intro n e V
    obtain rfl : n = nrN h := e
    have V8 : ∀ x : Int, 0 ≤ x → x < 8 → stO h x ≤ 3 := fun x x0 x1 => by
      by_cases q : x < nrN h
      · exact V x x0 q
      · unfold stO; rw [if_neg q]; omega
    have xs := sx_sums X
    have os := on_sums (h := h)
    rw [os.1, os.2.1, os.2.2] at xs
    refine l_X11_isImage_70 ?_
    rw [S.1, s12]
    refine ⟨R.ob, ⟨by omega, by omega⟩, ⟨by omega, by omega⟩, fun _ => s_total ar_47 (s_total ar_48 (s_total ar_49 ?_)), fun q => absurd (Int.le_refl _) q⟩
    have z47 : sm 80 (h11 47) = lyS h := xs.1
    have z48 : sm 10 (h11 48) = sm 10 (fun b => hdO h b) := xs.2.1
    have z49 : sm 10 (h11 49) = sm 10 (fun b => sgO h b) := xs.2.2
    have zy : h11 45 4 = twP h 0 := X.1
    have tb := tAll_b R
    rw [z47, z48, z49, zy, S.1]
    refine ⟨⟨by omega, by omega⟩, fun q => k0 (fun o => by have := o.2.2.2.1; omega) h11 F, fun q => ⟨R.ob, s_total (n := 10) ?_ ?_⟩⟩
    · rcases R.1 with e | e <;> rw [e] <;> exact ⟨by decide, rfl⟩
    · rw [S.2.2.2.1 (h 0 4 + 11) (by omega) (by omega), told_sum I.2.1]
      refine ⟨⟨by omega, by omega⟩, ⟨by omega, by omega⟩, fun q3 => k0 (fun o => q3 o.2.2.2.2.2) h11 F, fun q3 => k1 ⟨hn, hL, ck, by omega, V8, Classical.not_not.mp q3⟩ h11 F X⟩
  | succ j ih =>
    intro n e V
    have z46 : h11 46 n = stO h n := by have := X.2.1 n (by omega) (by omega); rw [on_st ⟨by omega, by omega⟩] at this; exact this
    have b := B.2.1 n (by omega)
    refine l_X11_isImage_70 ?_
    rw [S.1, s12, z46]
    refine ⟨R.ob, ⟨by omega, by omega⟩, ⟨by omega, by omega⟩, fun q => absurd q (by omega), fun _ => ⟨⟨by omega, by omega⟩, ⟨by omega, by omega⟩, fun q => ih (n + 1) (by omega) (fun x x0 x1 => ?_), fun q => k0 (fun o => q (o.2.2.2.2.1 n (by omega) (by omega))) h11 F⟩⟩
    by_cases d : x = n
    · rw [d]; exact q
    · exact V x x0 (by omega)
theorem x_copyBack (X : SX h 45 g) (k : ∀ h1, Fr h h1 [(40, 4)] [41, 42, 43, 44] → SX h1 40 g → K 0 h1) : C_X9_copy w 40 45 h K := by
  refine c_X9_copy ob_40 ob_45 (fun h1 q1 h3 q3 h5 q5 h7 q7 h9 q9 => ?_)
  have a1 : (40 : Int) + 1 = 41 ∧ (40 : Int) + 2 = 42 ∧ (40 : Int) + 3 = 43 ∧ (40 : Int) + 4 = 44 := by decide
  have a2 : (45 : Int) + 1 = 46 ∧ (45 : Int) + 2 = 47 ∧ (45 : Int) + 3 = 48 ∧ (45 : Int) + 4 = 49 := by decide
  rw [a1.1, a2.1] at q3
  rw [a1.2.1, a2.2.1] at q5
  rw [a1.2.2.1, a2.2.2.1] at q7
  rw [a1.2.2.2, a2.2.2.2] at q9
  have F1 : Fr h h1 [(40, 4)] [] := by rw [q1]; exact Fr.cel
  have F3 : Fr h1 h3 [] [41] := by rw [q3]; exact Fr.cpy
  have F5 : Fr h3 h5 [] [42] := by rw [q5]; exact Fr.cpy
  have F7 : Fr h5 h7 [] [43] := by rw [q7]; exact Fr.cpy
  have F9 : Fr h7 h9 [] [44] := by rw [q9]; exact Fr.cpy
  have G3 := F1.trans F3
  have G5 := G3.trans F5
  have G7 := G5.trans F7
  have z45 := ((F3.trans (F5.trans (F7.trans F9))).cell (C := [(40, 4)]) (W := []) (by decide)).1 (40, 4) (by decide)
  dsimp only at z45
  obtain ⟨x1, x2, x3, x4⟩ := X
  refine k h9 ((G7.trans F9).into (by decide)) ⟨?_, fun x x0 x1' => ?_, fun b b0 b1 => ⟨?_, ?_⟩, fun x b x0 x1' b0 b1 => ?_⟩
  · rw [z45, q1, hu_if, if_pos rfl]; exact x1
  · show h9 41 x = _
    rw [((F5.trans (F7.trans F9)).cell (C := []) (W := [41]) (by decide)).2 41 (by decide), q3, hc_if, if_pos ⟨by omega, by omega⟩, (F1.cell (C := []) (W := [46]) (by decide)).2 46 (by decide), ← x2 x x0 x1']; exact congrArg _ (by omega)
  · show h9 43 b = _
    rw [(F9.cell (C := []) (W := [43]) (by decide)).2 43 (by decide), q7, hc_if, if_pos ⟨by omega, by omega⟩, (G5.cell (C := []) (W := [48]) (by decide)).2 48 (by decide), ← (x3 b b0 b1).1]; exact congrArg _ (by omega)
  · show h9 44 b = _
    rw [q9, hc_if, if_pos ⟨by omega, by omega⟩, (G7.cell (C := []) (W := [49]) (by decide)).2 49 (by decide), ← (x3 b b0 b1).2]; exact congrArg _ (by omega)
  · show h9 42 _ = _
    rw [((F7.trans F9).cell (C := []) (W := [42]) (by decide)).2 42 (by decide), q5, hc_if, if_pos ⟨by omega, by omega⟩, (G3.cell (C := []) (W := [47]) (by decide)).2 47 (by decide), ← x4 x b x0 x1' b0 b1]; exact congrArg _ (by omega)
/-- the reference: whether the tape, n bytes, is an image; h0: as it was -/
theorem y_isTold (I : Inv c h0) (S : Sl h0 h) (e69 : h 69 = h0 69) (k1 : okO h0 → K 1 h) (k0 : ¬ okO h0 → K 0 h) : C_X12_isTold w (h0 68 1) h K := by
  have R := I.2.1.1
  have nr := R.nr
  have nb := R.nb
  have t := I.1.1
  have room := im_room nb.2.1 nr.2.1
  have ee : eaP h0 = 1 + 2 * nbN h0 := rfl
  have f : frP h0 = 2 + (1 + 2 * nbN h0) * nrN h0 := rfl
  have s36 : h 68 36 = nrN h0 := by rw [S.2.2.1]; exact nr.1
  have s5 : h 93 5 = nbN h0 := by rw [S.2.2.2.2.1 5 (by omega)]; exact nb.1
  have em : (1 + (2 * (nbN h0 : Int))) * (nrN h0 : Int) = ((1 + 2 * nbN h0) * nrN h0 : Nat) := by rw [Int.natCast_mul]; simp
  have el : (((2 + ((1 + (2 * (nbN h0 : Int))) * (nrN h0 : Int))) + (3 * (nbN h0 : Int))) + 1) = ((frP h0 + 3 * nbN h0 + 1 : Nat) : Int) := by omega
  have ef : 2 + ((1 + (2 * (nbN h0 : Int))) * (nrN h0 : Int)) = frP h0 := by omega
  have t2 := t.2.1
  have t3 := t.2.2.1
  have no : ¬ okO h0 → L_X12_isTold_71 w h K := fun q => l_X12_isTold_71 (k0 q)
  refine c_X12_isTold ?_
  rw [s36, s5, el, ef]
  refine ⟨⟨by omega, by omega⟩, fun q => no (fun o => by have := o.1; omega), fun q => ⟨⟨by omega, by omega⟩, ⟨by omega, by omega⟩, fun q2 => no (fun o => q2 o.2.1), fun q2 => ?_⟩⟩
  have hL := Classical.not_not.mp q2
  have hn : 0 < nrN h0 := by omega
  have B := on_b t hL hn
  have sb := sum_b t hL hn
  have mm := mul_up (a := eaP h0) (n := 0) (m := nrN h0) hn
  have ff : frP h0 = 2 + eaP h0 * nrN h0 := rfl
  have tb := fun (k : Nat) (hk : k < frP h0 + 3 * nbN h0 + 1) => tape_b t (a := k) ⟨by omega, by omega⟩
  rw [hL, show ((frP h0 + 3 * nbN h0 + 1 : Nat) : Int) - 1 = ((frP h0 + 3 * nbN h0 : Nat) : Int) by omega]
  refine ⟨⟨by omega, by omega⟩, c_X12_checked ar_69 ?_⟩
  -- behind the check
  have body : ckF (h0 69) (frP h0 + 3 * nbN h0) = h0 69 ((frP h0 + 3 * nbN h0 : Nat) : Int) → twP h0 0 ≤ 999 → L_X12_isTold_79 w (1 + (2 * (nbN h0 : Int))) (frP h0) 0 0 h K := by
    intro ck cy
    have L152 : ∀ j m : Nat, m + j = nbN h0 → (∀ x : Int, 0 ≤ x → x < 8 → stO h0 x ≤ 3) → L_X12_isTold_152 w (frP h0) (sm (nrN h0) (fun x => sm (nbN h0) (fun b => lyO h0 x b)) + sm m (fun b => hdO h0 b + sgO h0 b - h0 96 (50 + 5 * b + 3))) m h K := by
      intro j
      induction j with
      | zero =>
        intro m e V
        obtain rfl : m = nbN h0 := e
        have e1 : sm (nrN h0) (fun x => sm (nbN h0) (fun b => lyO h0 x b)) = lyS h0 := by
          unfold lyS
          rw [← sm_more (n := nrN h0) (m := 8) (f := fun x => sm (nbN h0) (fun b => lyO h0 x b)) nr.2.1 (fun x x0 x1 => sm_zero fun b b0 b1 => by unfold lyO; rw [if_neg (by omega)])]
          refine sm_congr fun x x0 x1 => ?_
          exact (sm_more (n := nbN h0) (m := 10) nb.2.1 (fun b b0 b1 => by unfold lyO; rw [if_neg (by omega)])).symm
        have e2 : sm (nbN h0) (fun b => hdO h0 b + sgO h0 b - h0 96 (50 + 5 * b + 3)) = sm 10 (fun b => hdO h0 b) + sm 10 (fun b => sgO h0 b) - tAll h0 := by
          have a1 : sm (nbN h0) (fun b => hdO h0 b) = sm 10 (fun b => hdO h0 b) := (sm_more nb.2.1 (fun b b0 b1 => by unfold hdO; rw [if_neg (by omega)])).symm
          have a2 : sm (nbN h0) (fun b => sgO h0 b) = sm 10 (fun b => sgO h0 b) := (sm_more nb.2.1 (fun b b0 b1 => by unfold sgO; rw [if_neg (by omega)])).symm
          have a3 : sm (nbN h0) (fun b => h0 96 (50 + 5 * b + 3)) = tAll h0 := by
            unfold tAll
            rw [sm_more (n := nbN h0) (m := 10) nb.2.1 (fun b b0 b1 => by rw [if_neg (by omega)])]
            exact sm_congr fun b b0 b1 => by rw [if_pos (by omega)]
          rw [← a1, ← a2, ← a3]
          have : sm (nbN h0) (fun b => hdO h0 b + sgO h0 b - h0 96 (50 + 5 * b + 3)) = sm (nbN h0) (fun b => hdO h0 b + (sgO h0 b + -h0 96 (50 + 5 * b + 3))) := sm_congr fun b _ _ => by omega
          have q1 : sm (nbN h0) (hdO h0) = sm (nbN h0) (fun b => hdO h0 b) := rfl
          have q2 : sm (nbN h0) (sgO h0) = sm (nbN h0) (fun b => sgO h0 b) := rfl
          rw [this, sm_add, sm_add, sm_neg]; omega
        have ta := tAll_b R
        have su : suO h0 = lyS h0 + sm 10 (fun b => hdO h0 b) + sm 10 (fun b => sgO h0 b) := rfl
        refine l_X12_isTold_152 ?_
        rw [s5, e1, e2]
        exact ⟨⟨by omega, by omega⟩, ⟨by omega, by omega⟩, fun _ => ⟨⟨by omega, by omega⟩, fun q => k0 (fun o => by have := o.2.2.2.2.2; omega), fun q => k1 ⟨hn, hL, ck, cy, V, by omega⟩⟩, fun q => absurd (Int.le_refl _) q⟩
      | succ j ih =>
        intro m e V
        have go := ih (m + 1) (by omega) V
        have s96 : h 96 (50 + 5 * (m : Int) + 3) = h0 96 (50 + 5 * (m : Int) + 3) := S.2.2.2.2.2.2.2.1 _ (by omega)
        refine l_X12_isTold_152 ?_
        rw [s5, s96, e69]
        refine ⟨⟨by omega, by omega⟩, ⟨by omega, by omega⟩, fun q => absurd q (by omega), fun _ => ⟨⟨by omega, by omega⟩, ⟨by omega, by omega⟩, ⟨by omega, by omega⟩, ⟨by omega, by omega⟩, ?_⟩⟩
        have e3 : sm (m + 1) (fun b => hdO h0 b + sgO h0 b - h0 96 (50 + 5 * b + 3)) = sm m (fun b => hdO h0 b + sgO h0 b - h0 96 (50 + 5 * b + 3)) + ((h0 69 (frP h0 + 3 * (m : Int)) + (256 * h0 69 (frP h0 + 3 * (m : Int) + 1) + h0 69 (frP h0 + 3 * (m : Int) + 1 + 1))) - h0 96 (50 + 5 * (m : Int) + 3)) := by
          show sm m _ + (hdO h0 m + sgO h0 m - h0 96 (50 + 5 * (m : Int) + 3)) = _
          unfold hdO sgO twP
          rw [if_pos (by omega), if_pos (by omega)]
        rw [e3, ← Int.add_assoc] at go
        exact go
    suffices ∀ j n : Nat, n + j = nrN h0 → (∀ x : Int, 0 ≤ x → x < n → stO h0 x ≤ 3) → L_X12_isTold_79 w (1 + (2 * (nbN h0 : Int))) (frP h0) (sm n (fun x => sm (nbN h0) (fun b => lyO h0 x b))) n h K from this (nrN h0) 0 (by omega) (fun x x0 x1 => by omega)
    intro j
    induction j with
    | zero =>
      intro n e V
      obtain rfl : n = nrN h0 := e
      refine l_X12_isTold_79 ?_
      rw [s36]
      refine ⟨⟨by omega, by omega⟩, ⟨by omega, by omega⟩, fun _ => ?_, fun q => absurd (Int.le_refl _) q⟩
      have := L152 (nbN h0) 0 (by omega) (fun x x0 x1 => by
        by_cases q : x < nrN h0
        · exact V x x0 q
        · unfold stO; rw [if_neg q]; omega)
      rw [show sm 0 (fun b => hdO h0 b + sgO h0 b - h0 96 (50 + 5 * b + 3)) = 0 from rfl, Int.add_zero] at this
      exact this
    | succ j ih =>
      intro n e V
      have ab := at_b (h := h0) (x := n) (by omega) (by omega)
      have ea : (1 + (2 * (nbN h0 : Int))) * (n : Int) = atP h0 n := by unfold atP; rw [Int.toNat_natCast, ee, Int.natCast_mul]; simp
      have es : stO h0 n = h0 69 (2 + atP h0 n) := by unfold stO; rw [if_pos (by omega)]
      have bs := B.2.1 n (by omega)
      refine l_X12_isTold_79 ?_
      rw [s36, ea, e69, ← es]
      refine ⟨⟨by omega, by omega⟩, ⟨by omega, by omega⟩, fun q => absurd q (by omega), fun _ => ⟨⟨by omega, by omega⟩, ⟨by omega, by omega⟩, fun q => ?_, fun q => k0 (fun o => q (o.2.2.2.2.1 n (by omega) (by omega)))⟩⟩
      have go := ih (n + 1) (by omega) (fun x x0 x1 => by
        by_cases d : x = n
        · rw [d]; exact q
        · exact V x x0 (by omega))
      suffices ∀ i m : Nat, m + i = nbN h0 → L_X12_isTold_108 w (1 + (2 * (nbN h0 : Int))) (frP h0) (sm n (fun x => sm (nbN h0) (fun b => lyO h0 x b)) + sm m (fun b => lyO h0 n b)) n m h K by
        have := this (nbN h0) 0 (by omega)
        rw [show sm 0 (fun b => lyO h0 (n : Int) b) = 0 from rfl, Int.add_zero] at this
        exact this
      intro i
      induction i with
      | zero =>
        intro m em
        obtain rfl : m = nbN h0 := em
        refine l_X12_isTold_108 ?_
        rw [s5]
        exact ⟨⟨by omega, by omega⟩, ⟨by omega, by omega⟩, fun _ => go, fun q => absurd (Int.le_refl _) q⟩
      | succ i ihi =>
        intro m em
        have g2 := ihi (m + 1) (by omega)
        refine l_X12_isTold_108 ?_
        rw [s5, ea, e69]
        refine ⟨⟨by omega, by omega⟩, ⟨by omega, by omega⟩, fun q => absurd q (by omega), fun _ => ⟨⟨by omega, by omega⟩, ⟨by omega, by omega⟩, ?_⟩⟩
        have e3 : sm (m + 1) (fun b => lyO h0 n b) = sm m (fun b => lyO h0 n b) + (256 * h0 69 (3 + atP h0 n + 2 * (m : Int)) + h0 69 (3 + atP h0 n + 2 * (m : Int) + 1)) := by
          show sm m _ + lyO h0 n m = _
          unfold lyO twP
          rw [if_pos ⟨by omega, by omega⟩]
        rw [e3, ← Int.add_assoc] at g2
        exact g2
  suffices ∀ j k : Nat, k + j = frP h0 + 3 * nbN h0 → L_X12_checked_6 w 69 ((frP h0 + 3 * nbN h0 : Nat) : Int) (ckF (h0 69) k) k h _ from this (frP h0 + 3 * nbN h0) 0 (by omega)
  intro j
  induction j with
  | zero =>
    intro k e
    obtain rfl : k = frP h0 + 3 * nbN h0 := e
    have cb := ckF_b (f := h0 69) (n := frP h0 + 3 * nbN h0) (fun i hi => tb i (by omega))
    have lb := tb (frP h0 + 3 * nbN h0) (by omega)
    refine l_X12_checked_6 ar_69 ⟨⟨by omega, by omega⟩, ⟨by omega, by omega⟩, fun _ => ?_, fun q => absurd (Int.le_refl _) q⟩
    rw [e69]
    have ey : 256 * h0 69 0 + h0 69 1 = twP h0 0 := rfl
    have by0 := B.1
    rw [ey]
    exact ⟨⟨by omega, by omega⟩, ⟨by omega, by omega⟩, fun q => no (fun o => q o.2.2.1.symm), fun q => ⟨⟨by omega, by omega⟩, fun q2 => body (Classical.not_not.mp q).symm q2, fun q2 => no (fun o => q2 o.2.2.2.1)⟩⟩
  | succ j ih =>
    intro k e
    have cb := ckF_b (f := h0 69) (n := k) (fun i hi => tb i (by omega))
    have lb := tb k (by omega)
    refine l_X12_checked_6 ar_69 ?_
    rw [show h 69 (k : Int) = h0 69 k by rw [e69]]
    exact ⟨⟨by omega, by omega⟩, ⟨by omega, by omega⟩, fun q => absurd q (by omega), fun _ => ⟨⟨by omega, by show (k : Int) < ((1600 : Nat) : Int); omega⟩, ⟨by omega, by omega⟩, ih (k + 1) (by omega)⟩⟩
end L2j
