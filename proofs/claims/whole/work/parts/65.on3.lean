/-! the pair of on -/
section L2k
variable {w : Wd} {c : Int} {h h0 : Hp} {K : Int → Hp → Prop} {g : Int → Int}
/-- the reference's state while an image is read: P, Q, D: what is read -/
def OW (h h' : Hp) (P : Int → Prop) (Q : Int → Int → Prop) (D : Int → Prop) : Prop := h' 104 0 = twP h 0 ∧ (∀ x : Int, 0 ≤ x → x < 8 → (P x → h' 104 (1 + x) = stO h x) ∧ (¬ P x → h' 104 (1 + x) = h 104 (1 + x))) ∧ (∀ x b : Int, 0 ≤ x → x < 8 → 0 ≤ b → b < 10 → (Q x b → h' 104 (29 + 10 * x + b) = lyO h x b) ∧ (¬ Q x b → h' 104 (29 + 10 * x + b) = h 104 (29 + 10 * x + b))) ∧ (∀ b : Int, 0 ≤ b → b < 10 → (D b → h' 104 (9 + b) = hdO h b ∧ h' 104 (19 + b) = sgO h b) ∧ (¬ D b → h' 104 (9 + b) = h 104 (9 + b) ∧ h' 104 (19 + b) = h 104 (19 + b)))
theorem OW.to {h h' : Hp} {P P' : Int → Prop} {Q Q' : Int → Int → Prop} {D D' : Int → Prop} (O : OW h h' P Q D) (hP : ∀ x : Int, 0 ≤ x → x < 8 → (P x ↔ P' x)) (hQ : ∀ x b : Int, 0 ≤ x → x < 8 → 0 ≤ b → b < 10 → (Q x b ↔ Q' x b)) (hD : ∀ b : Int, 0 ≤ b → b < 10 → (D b ↔ D' b)) : OW h h' P' Q' D' :=
  ⟨O.1, fun x x0 x1 => ⟨fun p => (O.2.1 x x0 x1).1 ((hP x x0 x1).mpr p), fun p => (O.2.1 x x0 x1).2 (fun q => p ((hP x x0 x1).mp q))⟩, fun x b x0 x1 b0 b1 => ⟨fun p => (O.2.2.1 x b x0 x1 b0 b1).1 ((hQ x b x0 x1 b0 b1).mpr p), fun p => (O.2.2.1 x b x0 x1 b0 b1).2 (fun q => p ((hQ x b x0 x1 b0 b1).mp q))⟩, fun b b0 b1 => ⟨fun p => (O.2.2.2 b b0 b1).1 ((hD b b0 b1).mpr p), fun p => (O.2.2.2 b b0 b1).2 (fun q => p ((hD b b0 b1).mp q))⟩⟩
abbrev onL : List (Int × Int) := [(45, 4), (1, 1), (68, 1), (40, 4), (50, 2), (68, 61)]
abbrev onR : List Int := [46, 47, 48, 49, 41, 42, 43, 44, 104]
theorem y_on (I : Inv c h) {h1 : Hp} {L : List (Int × Int)} {R : List Int} (F1 : Fr h h1 L R) (s1 : okS L R = true) (s2 : okF L R [(68, 1)] [69, 104] = true) (o : okO h) (k : ∀ h2, Fr h1 h2 [(68, 1), (68, 61)] [104] → h2 68 1 = 0 → h2 68 61 = 0 → (∀ i : Int, 0 ≤ i → i < 109 → h2 104 i = onP h i) → K 1 h2) : C_X12_on w h1 K := by
  have Rr := I.2.1.1
  have nr := Rr.nr
  have nb := Rr.nb
  have t := I.1.1
  have G := I.2.2.1
  have room := im_room nb.2.1 nr.2.1
  have hL := o.2.1
  have hn := o.1
  have ee : eaP h = 1 + 2 * nbN h := rfl
  have ff : frP h = 2 + eaP h * nrN h := rfl
  have f : frP h = 2 + (1 + 2 * nbN h) * nrN h := rfl
  have mm := mul_up (a := eaP h) (n := 0) (m := nrN h) hn
  have t3 := t.2.2.1
  have em : (1 + (2 * (nbN h : Int))) * (nrN h : Int) = ((1 + 2 * nbN h) * nrN h : Nat) := by rw [Int.natCast_mul]; simp
  have ef : 2 + ((1 + (2 * (nbN h : Int))) * (nrN h : Int)) = frP h := by omega
  have S1 : Sl h h1 := Sl.of I.2.1.rr F1 s1
  have z1 := F1.cell s2
  have l1 : h1 68 1 = h 68 1 := z1.1 (68, 1) (by decide)
  refine c_X12_on (fun h2 q2 => ?_)
  have F2 : Fr h1 h2 [(68, 1)] [] := by rw [q2]; exact Fr.cel
  have S2 : Sl h h2 := S1.tr (Sl.of (by rw [S1.1]; exact I.2.1.rr) F2 (by decide))
  have r69 : h2 69 = h 69 := by rw [hu_row q2 (by decide)]; exact z1.2 69 (by decide)
  have r104 : h2 104 = h 104 := by rw [hu_row q2 (by decide)]; exact z1.2 104 (by decide)
  rw [l1]
  refine y_isTold I S2 r69 (fun _ _ => ⟨fun _ h6 q6 => ?_, fun q => absurd (by decide) q⟩) (fun q => absurd o q)
  have s36 : h2 68 36 = nrN h := by rw [S2.2.2.1]; exact nr.1
  have s5 : h2 93 5 = nbN h := by rw [S2.2.2.2.2.1 5 (by omega)]; exact nb.1
  rw [s5, s36, ef]
  have e0 : (256 * (h2 69 0)) + (h2 69 1) = twP h 0 := by rw [r69]; rfl
  rw [e0] at q6
  have F6 : Fr h2 h6 [] [104] := by rw [q6]; exact Fr.row
  have fx : ∀ {h'}, Fr h2 h' [] [104] → h' 68 36 = nrN h ∧ h' 93 5 = nbN h ∧ h' 69 = h 69 := fun {h'} F => by
    rw [ne_row F 68 (by decide), ne_row F 93 (by decide), ne_row F 69 (by decide)]
    exact ⟨s36, s5, r69⟩
  have L149 : ∀ j m : Nat, m + j = nbN h → ∀ h', Fr h2 h' [] [104] → OW h h' (fun x => x < nrN h) (fun x b => x < nrN h ∧ b < nbN h) (fun b => b < m) → L_X12_on_149 w (frP h) m h' K := by
    intro j
    induction j with
    | zero =>
      intro m e h' F O
      obtain rfl : m = nbN h := e
      obtain ⟨d1, d2, d3⟩ := fx F
      refine l_X12_on_149 ?_
      rw [d2]
      refine ⟨⟨by omega, by omega⟩, ⟨by omega, by omega⟩, fun _ h28 q28 => ?_, fun q => absurd (Int.le_refl _) q⟩
      have F28 : Fr h' h28 [(68, 61)] [] := by rw [q28]; exact Fr.cel
      refine k h28 ((F2.trans (F.trans F28)).into (by decide)) ?_ (by rw [q28, hu_if, if_pos rfl]) (fun i i0 i1 => ?_)
      · rw [q28, hu_if, if_neg (by decide), ne_row F 68 (by decide), q2, hu_if, if_pos rfl]
      · rw [hu_row q28 (by decide)]
        by_cases c1 : i = 0
        · rw [c1, on_0]; exact O.1
        · by_cases c2 : i < 9
          · have v := O.2.1 (i - 1) (by omega) (by omega)
            have w1 := on_st (h := h) (x := i - 1) ⟨by omega, by omega⟩
            rw [show 1 + (i - 1) = i by omega] at v w1
            rw [w1]
            by_cases c : i - 1 < nrN h
            · exact v.1 c
            · rw [v.2 c]
              have := (G.2.1 (i - 1) (by omega) (by omega)).2.2 (by omega)
              rw [show 1 + (i - 1) = i by omega] at this
              rw [this]; unfold stO; rw [if_neg c]
          · by_cases c3 : i < 19
            · have v := O.2.2.2 (i - 9) (by omega) (by omega)
              have w1 := on_h (h := h) (b := i - 9) ⟨by omega, by omega⟩
              rw [show 9 + (i - 9) = i by omega] at v w1
              rw [w1]
              by_cases c : i - 9 < nbN h
              · exact (v.1 c).1
              · rw [(v.2 c).1]
                have := ((G.2.2.1 (i - 9) (by omega) (by omega)).2.2.2 (by omega)).1
                rw [show 9 + (i - 9) = i by omega] at this
                rw [this]; unfold hdO; rw [if_neg c]
            · by_cases c4 : i < 29
              · have v := O.2.2.2 (i - 19) (by omega) (by omega)
                have w1 := on_s (h := h) (b := i - 19) ⟨by omega, by omega⟩
                rw [show 19 + (i - 19) = i by omega] at v w1
                rw [w1]
                by_cases c : i - 19 < nbN h
                · exact (v.1 c).2
                · rw [(v.2 c).2]
                  have := ((G.2.2.1 (i - 19) (by omega) (by omega)).2.2.2 (by omega)).2
                  rw [show 19 + (i - 19) = i by omega] at this
                  rw [this]; unfold sgO; rw [if_neg c]
              · have v := O.2.2.1 ((i - 29) / 10) ((i - 29) % 10) (by omega) (by omega) (by omega) (by omega)
                have w1 := on_l (h := h) (x := (i - 29) / 10) (b := (i - 29) % 10) ⟨by omega, by omega⟩ ⟨by omega, by omega⟩
                rw [show 29 + 10 * ((i - 29) / 10) + (i - 29) % 10 = i by omega] at v w1
                rw [w1]
                by_cases c : (i - 29) / 10 < nrN h ∧ (i - 29) % 10 < nbN h
                · exact v.1 c
                · rw [v.2 c]
                  have := (G.2.2.2.1 ((i - 29) / 10) ((i - 29) % 10) (by omega) (by omega) (by omega) (by omega)).2 (by omega)
                  rw [show 29 + 10 * ((i - 29) / 10) + (i - 29) % 10 = i by omega] at this
                  rw [this]; unfold lyO; rw [if_neg c]
    | succ j ih =>
      intro m e h' F O
      obtain ⟨d1, d2, d3⟩ := fx F
      refine l_X12_on_149 ?_
      rw [d2, d3]
      refine ⟨⟨by omega, by omega⟩, ⟨by omega, by omega⟩, fun q => absurd q (by omega), fun _ => ⟨⟨by omega, by omega⟩, ⟨by omega, by omega⟩, fun h32 q32 => ⟨⟨by omega, by omega⟩, ⟨by omega, by omega⟩, ⟨by omega, by omega⟩, fun h37 q37 => ?_⟩⟩⟩
      have F32 : Fr h' h32 [] [104] := by rw [q32]; exact Fr.row
      have F37 : Fr h32 h37 [] [104] := by rw [q37]; exact Fr.row
      rw [hu_row q32 (show (69 : Int) ≠ 104 by decide), d3] at q37
      have V : ∀ i : Int, h37 104 i = if i = 19 + m then sgO h m else if i = 9 + m then hdO h m else h' 104 i := fun i => by
        rw [q37, hu_if, q32, hu_if]
        unfold sgO hdO twP
        rw [if_pos (show (m : Int) < nbN h by omega), if_pos (show (m : Int) < nbN h by omega)]
      refine ih (m + 1) (by omega) h37 ((F.trans (F32.trans F37)).into (by decide)) ⟨?_, fun x x0 x1 => ?_, fun x b x0 x1 b0 b1 => ?_, fun b b0 b1 => ?_⟩
      · rw [V, if_neg (by omega), if_neg (by omega)]; exact O.1
      · rw [V, if_neg (by omega), if_neg (by omega)]; exact O.2.1 x x0 x1
      · rw [V, if_neg (by omega), if_neg (by omega)]; exact O.2.2.1 x b x0 x1 b0 b1
      · rw [V, V]
        by_cases d : b = m
        · rw [if_neg (show ¬ 9 + b = 19 + (m : Int) by omega), if_pos (show 9 + b = 9 + (m : Int) by omega), if_pos (show 19 + b = 19 + (m : Int) by omega), d]
          exact ⟨fun _ => ⟨rfl, rfl⟩, fun q => absurd (show (m : Int) < ((m + 1 : Nat) : Int) by omega) q⟩
        · rw [if_neg (show ¬ 9 + b = 19 + (m : Int) by omega), if_neg (show ¬ 9 + b = 9 + (m : Int) by omega), if_neg (show ¬ 19 + b = 19 + (m : Int) by omega), if_neg (show ¬ 19 + b = 9 + (m : Int) by omega)]
          have v := O.2.2.2 b b0 b1
          exact ⟨fun q => v.1 (by omega), fun q => v.2 (by omega)⟩
  suffices ∀ j n : Nat, n + j = nrN h → ∀ h', Fr h2 h' [] [104] → OW h h' (fun x => x < n) (fun x b => x < n ∧ b < nbN h) (fun b => b < 0) → L_X12_on_62 w (1 + (2 * (nbN h : Int))) (frP h) n h' K by
    refine this (nrN h) 0 (by omega) h6 F6 ⟨by rw [q6, hu_if, if_pos rfl], fun x x0 x1 => ?_, fun x b x0 x1 b0 b1 => ?_, fun b b0 b1 => ?_⟩
    · rw [q6, hu_if, if_neg (by omega), r104]; exact ⟨fun q => absurd q (by omega), fun _ => rfl⟩
    · rw [q6, hu_if, if_neg (by omega), r104]; exact ⟨fun q => absurd q (by omega), fun _ => rfl⟩
    · rw [q6, hu_if, hu_if, if_neg (by omega), if_neg (by omega), r104]; exact ⟨fun q => absurd q (by omega), fun _ => ⟨rfl, rfl⟩⟩
  intro j
  induction j with
  | zero =>
    intro n e h' F O
    obtain rfl : n = nrN h := e
    refine l_X12_on_62 ?_
    rw [(fx F).1]
    exact ⟨⟨by omega, by omega⟩, ⟨by omega, by omega⟩, fun _ => L149 (nbN h) 0 (by omega) h' F (O.to (fun _ _ _ => Iff.rfl) (fun _ _ _ _ _ _ => Iff.rfl) (fun _ _ _ => Iff.rfl)), fun q => absurd (Int.le_refl _) q⟩
  | succ j ih =>
    intro n e h' F O
    have ab := at_b (h := h) (x := n) (by omega) (by omega)
    have ea : (1 + (2 * (nbN h : Int))) * (n : Int) = atP h n := by unfold atP; rw [Int.toNat_natCast, ee, Int.natCast_mul]; simp
    obtain ⟨d1, d2, d3⟩ := fx F
    refine l_X12_on_62 ?_
    rw [d1, ea, d3]
    refine ⟨⟨by omega, by omega⟩, ⟨by omega, by omega⟩, fun q => absurd q (by omega), fun _ => ⟨⟨by omega, by omega⟩, ⟨by omega, by omega⟩, fun h15 q15 => ?_⟩⟩
    have F15 : Fr h' h15 [] [104] := by rw [q15]; exact Fr.row
    have V : ∀ i : Int, h15 104 i = if i = 1 + n then stO h n else h' 104 i := fun i => by
      rw [q15, hu_if]
      unfold stO
      rw [if_pos (show (n : Int) < nrN h by omega)]
    suffices ∀ i m : Nat, m + i = nbN h → ∀ h', Fr h2 h' [] [104] → OW h h' (fun x => x < n + 1) (fun x b => (x < n ∧ b < nbN h) ∨ (x = n ∧ b < m)) (fun b => b < 0) → L_X12_on_94 w (1 + (2 * (nbN h : Int))) (frP h) n m h' K by
      refine this (nbN h) 0 (by omega) h15 ((F.trans F15).into (by decide)) ⟨by rw [V, if_neg (by omega)]; exact O.1, fun x x0 x1 => ?_, fun x b x0 x1 b0 b1 => ?_, fun b b0 b1 => ?_⟩
      · rw [V]
        by_cases d : x = n
        · rw [if_pos (by omega), d]; exact ⟨fun _ => rfl, fun q => absurd (show (n : Int) < n + 1 by omega) q⟩
        · rw [if_neg (by omega)]
          have v := O.2.1 x x0 x1
          exact ⟨fun q => v.1 (by omega), fun q => v.2 (by omega)⟩
      · rw [V, if_neg (by omega)]
        have v := O.2.2.1 x b x0 x1 b0 b1
        exact ⟨fun q => v.1 (by omega), fun q => v.2 (by omega)⟩
      · rw [V, V, if_neg (by omega), if_neg (by omega)]; exact O.2.2.2 b b0 b1
    intro i
    induction i with
    | zero =>
      intro m em h' F O
      obtain rfl : m = nbN h := em
      refine l_X12_on_94 ?_
      rw [(fx F).2.1]
      exact ⟨⟨by omega, by omega⟩, ⟨by omega, by omega⟩, fun _ => ih (n + 1) (by omega) h' F (O.to (fun x _ _ => by omega) (fun x b _ _ _ _ => by omega) (fun _ _ _ => Iff.rfl)), fun q => absurd (Int.le_refl _) q⟩
    | succ i ihi =>
      intro m em h' F O
      obtain ⟨d1, d2, d3⟩ := fx F
      refine l_X12_on_94 ?_
      rw [d2, ea, d3]
      refine ⟨⟨by omega, by omega⟩, ⟨by omega, by omega⟩, fun q => absurd q (by omega), fun _ => ⟨⟨by omega, by omega⟩, ⟨by omega, by omega⟩, ⟨by omega, by omega⟩, fun h23 q23 => ?_⟩⟩
      have F23 : Fr h' h23 [] [104] := by rw [q23]; exact Fr.row
      have V : ∀ i : Int, h23 104 i = if i = 29 + 10 * (n : Int) + m then lyO h n m else h' 104 i := fun i => by
        rw [q23, hu_if]
        unfold lyO twP
        rw [if_pos (show (n : Int) < nrN h ∧ (m : Int) < nbN h by omega)]
      refine ihi (m + 1) (by omega) h23 ((F.trans F23).into (by decide)) ⟨by rw [V, if_neg (by omega)]; exact O.1, fun x x0 x1 => ?_, fun x b x0 x1 b0 b1 => ?_, fun b b0 b1 => ?_⟩
      · rw [V, if_neg (by omega)]; exact O.2.1 x x0 x1
      · rw [V]
        have v := O.2.2.1 x b x0 x1 b0 b1
        by_cases d : 29 + 10 * x + b = 29 + 10 * (n : Int) + m
        · have ex : x = n := by omega
          have eb : b = m := by omega
          subst ex; subst eb
          rw [if_pos rfl]
          exact ⟨fun _ => rfl, fun q => absurd (by omega) q⟩
        · rw [if_neg d]
          exact ⟨fun q => v.1 (by omega), fun q => v.2 (by omega)⟩
      · rw [V, V, if_neg (by omega), if_neg (by omega)]; exact O.2.2.2 b b0 b1
theorem q_on (I : Inv c h) : C_X11_on w h (fun z h1 => (z = 0 ∨ z = 1) → C_X12_on w h1 (PI c z)) := by
  have R := I.2.1.1
  have P := I.2.2.2.2.1
  refine c_X11_on (x_isImage I (fun o h2 F2 X2 _ h4 q4 => ⟨fun _ => ?_, fun q => absurd (by decide) q⟩) (fun o h2 F2 _ h4 q4 => ⟨fun q => absurd rfl q, fun _ => ?_⟩))
  · have F4 : Fr h2 h4 [(1, 1)] [] := by rw [q4]; exact Fr.cel
    refine x_copyBack (X2.fr (Or.inr rfl) F4 (by decide)) (fun h7 F7 X7 h9 q9 _ => ?_)
    have F9 : Fr h7 h9 [(50, 2)] [] := by rw [q9]; exact Fr.cel
    have FX := F2.trans (F4.trans (F7.trans F9))
    refine y_on I FX (by decide) (by decide) o (fun h10 F10 e1 e61 V => ⟨rfl, ?_⟩)
    have FF := FX.trans F10
    have S : Sl h h10 := Sl.of I.2.1.rr FF (by decide)
    have G := gs_on R I.1.1 o
    have X10 : SX h10 40 (onP h) := X7.fr (Or.inl rfl) (F9.trans F10) (by decide)
    have n1 : h10 1 1 = 0 := by
      have := ((F7.trans (F9.trans F10)).cell (C := [(1, 1)]) (W := []) (by decide)).1 (1, 1) (by decide)
      dsimp only at this
      rw [this, q4, hu_if, if_pos rfl]
    have n2 : h10 50 2 = 0 := by
      have := (F10.cell (C := [(50, 2)]) (W := []) (by decide)).1 (50, 2) (by decide)
      dsimp only at this
      rw [this, q9, hu_if, if_pos rfl]
    have z := (FF.cell (C := [(50, 1), (68, 62)]) (W := []) (by decide)).1
    have z1 := z (50, 1) (by decide); have z2 := z (68, 62) (by decide)
    dsimp only at z1 z2
    refine ⟨⟨I1.nil n1 e1, (I.1.2.1.fr FF (by decide)).up (by omega), I.1.2.2.1.fr FF (by decide), I.1.2.2.2.1.fr FF (by decide), I.1.2.2.2.2.1.fr FF (by decide), I.1.2.2.2.2.2.fr FF (by decide)⟩, I.2.1.sl S, (G.st S).cg V, X10.cg V, ?_, I.2.2.2.2.2.fr FF (by decide)⟩
    exact ⟨by rw [z1, z2]; exact P.1, by rw [z2]; exact P.2.1, by rw [z2]; exact P.2.2.1, by rw [n2, e61], by omega, by omega, fun i i0 i1 => by omega⟩
  · have F4 : Fr h2 h4 [(1, 1)] [] := by rw [q4]; exact Fr.cel
    refine x_refuseAct ⟨by decide, by decide⟩ (fun _ _ => c_X12_on (fun h1 q1 => ?_))
    have F5 : Fr h4 (hu h4 59 5 (h4 59 5 + 1)) [] [59] := Fr.row
    have F1 : Fr (hu h4 59 5 (h4 59 5 + 1)) h1 [(68, 1)] [] := by rw [q1]; exact Fr.cel
    have FX := F2.trans (F4.trans (F5.trans F1))
    have S1 : Sl h h1 := Sl.of I.2.1.rr FX (by decide)
    have l1 : hu h4 59 5 (h4 59 5 + 1) 68 1 = h 68 1 := ((F2.trans (F4.trans F5)).cell (C := [(68, 1)]) (W := []) (by decide)).1 (68, 1) (by decide)
    rw [l1]
    refine y_isTold I S1 ((FX.cell (C := []) (W := [69]) (by decide)).2 69 (by decide)) (fun q => absurd q o) (fun _ _ => ⟨fun q => absurd rfl q, fun _ h8 q8 => ⟨rfl, ?_⟩⟩)
    have F8 : Fr h1 h8 [] [70] := by rw [q8]; exact Fr.row
    have FF := FX.trans F8
    have S : Sl h h8 := Sl.of I.2.1.rr FF (by decide)
    have i59 : ∀ i : Int, h8 59 i = if i = 5 then h 59 5 + 1 else h 59 i := fun i => by
      have z := (F2.trans F4).cell (C := []) (W := [59]) (by decide)
      rw [hu_row q8 (by decide), hu_row q1 (by decide), hu_if, z.2 59 (by decide)]
    have i70 : ∀ i : Int, h8 70 i = if i = 5 then h 70 5 + 1 else h 70 i := fun i => by
      have z := FX.cell (C := []) (W := [70]) (by decide)
      rw [q8, hu_if, z.2 70 (by decide)]
    have J2 : I2 (c + 1) h8 := by
      intro i h0 h1'
      have a := I.1.2.1 i h0 h1'
      have b := I.1.2.1 5 (by decide) (by decide)
      rw [i59, i70]
      by_cases g : i = 5
      · rw [if_pos g, if_pos g]; omega
      · rw [if_neg g, if_neg g]; omega
    have n1 : h8 1 1 = 0 := by
      have := ((F5.trans (F1.trans F8)).cell (C := [(1, 1)]) (W := []) (by decide)).1 (1, 1) (by decide)
      dsimp only at this
      rw [this, q4, hu_if, if_pos rfl]
    have e104 : h8 104 = h 104 := (FF.cell (C := []) (W := [104]) (by decide)).2 104 (by decide)
    have n2 : h8 68 1 = 0 := by rw [hu_row q8 (by decide), q1, hu_if, if_pos rfl]
    exact ⟨⟨I1.nil n1 n2, J2, I.1.2.2.1.fr FF (by decide), I.1.2.2.2.1.fr FF (by decide), I.1.2.2.2.2.1.fr FF (by decide), I.1.2.2.2.2.2.fr FF (by decide)⟩, I.2.1.sl S, (I.2.2.1.st S).cg (fun j _ _ => by rw [e104]), (SX.fr40 I.2.2.2.1 FF (by decide)).cg (fun j _ _ => by rw [e104]), I.2.2.2.2.1.fr S FF (by decide), I.2.2.2.2.2.fr FF (by decide)⟩
end L2k
